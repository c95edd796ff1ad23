theorem dX9_init_0 : decode cX9_init 0 = .ok (.aload_n 0, 1) := by decide +kernel
theorem dX9_init_1 : decode cX9_init 1 = .ok (.invokespecial 1, 3) := by decide +kernel
theorem dX9_init_4 : decode cX9_init 4 = .ok (.aload_n 0, 1) := by decide +kernel
theorem dX9_init_5 : decode cX9_init 5 = .ok (.bipush 8, 2) := by decide +kernel
theorem dX9_init_7 : decode cX9_init 7 = .ok (.putfield 7, 3) := by decide +kernel
theorem dX9_init_10 : decode cX9_init 10 = .ok (.aload_n 0, 1) := by decide +kernel
theorem dX9_init_11 : decode cX9_init 11 = .ok (.bipush 10, 2) := by decide +kernel
theorem dX9_init_13 : decode cX9_init 13 = .ok (.putfield 13, 3) := by decide +kernel
theorem dX9_init_16 : decode cX9_init 16 = .ok (.aload_n 0, 1) := by decide +kernel
theorem dX9_init_17 : decode cX9_init 17 = .ok (.bipush 6, 2) := by decide +kernel
theorem dX9_init_19 : decode cX9_init 19 = .ok (.newarray .int, 2) := by decide +kernel
theorem dX9_init_21 : decode cX9_init 21 = .ok (.putfield 16, 3) := by decide +kernel
theorem dX9_init_24 : decode cX9_init 24 = .ok (.aload_n 0, 1) := by decide +kernel
theorem dX9_init_25 : decode cX9_init 25 = .ok (.bipush 6, 2) := by decide +kernel
theorem dX9_init_27 : decode cX9_init 27 = .ok (.newarray .int, 2) := by decide +kernel
theorem dX9_init_29 : decode cX9_init 29 = .ok (.putfield 20, 3) := by decide +kernel
theorem dX9_init_32 : decode cX9_init 32 = .ok (.aload_n 0, 1) := by decide +kernel
theorem dX9_init_33 : decode cX9_init 33 = .ok (.bipush 6, 2) := by decide +kernel
theorem dX9_init_35 : decode cX9_init 35 = .ok (.newarray .int, 2) := by decide +kernel
theorem dX9_init_37 : decode cX9_init 37 = .ok (.putfield 23, 3) := by decide +kernel
theorem dX9_init_40 : decode cX9_init 40 = .ok (.aload_n 0, 1) := by decide +kernel
theorem dX9_init_41 : decode cX9_init 41 = .ok (.bipush 6, 2) := by decide +kernel
theorem dX9_init_43 : decode cX9_init 43 = .ok (.newarray .int, 2) := by decide +kernel
theorem dX9_init_45 : decode cX9_init 45 = .ok (.putfield 26, 3) := by decide +kernel
theorem dX9_init_48 : decode cX9_init 48 = .ok (.aload_n 0, 1) := by decide +kernel
theorem dX9_init_49 : decode cX9_init 49 = .ok (.sipush 210, 3) := by decide +kernel
theorem dX9_init_52 : decode cX9_init 52 = .ok (.newarray .int, 2) := by decide +kernel
theorem dX9_init_54 : decode cX9_init 54 = .ok (.putfield 29, 3) := by decide +kernel
theorem dX9_init_57 : decode cX9_init 57 = .ok (.aload_n 0, 1) := by decide +kernel
theorem dX9_init_58 : decode cX9_init 58 = .ok (.iconst 2, 1) := by decide +kernel
theorem dX9_init_59 : decode cX9_init 59 = .ok (.newarray .int, 2) := by decide +kernel
theorem dX9_init_61 : decode cX9_init 61 = .ok (.putfield 32, 3) := by decide +kernel
theorem dX9_init_64 : decode cX9_init 64 = .ok (.aload_n 0, 1) := by decide +kernel
theorem dX9_init_65 : decode cX9_init 65 = .ok (.bipush 120, 2) := by decide +kernel
theorem dX9_init_67 : decode cX9_init 67 = .ok (.newarray .byte, 2) := by decide +kernel
theorem dX9_init_69 : decode cX9_init 69 = .ok (.putfield 35, 3) := by decide +kernel
theorem dX9_init_72 : decode cX9_init 72 = .ok (.aload_n 0, 1) := by decide +kernel
theorem dX9_init_73 : decode cX9_init 73 = .ok (.bipush 6, 2) := by decide +kernel
theorem dX9_init_75 : decode cX9_init 75 = .ok (.newarray .int, 2) := by decide +kernel
theorem dX9_init_77 : decode cX9_init 77 = .ok (.putfield 39, 3) := by decide +kernel
theorem dX9_init_80 : decode cX9_init 80 = .ok (.aload_n 0, 1) := by decide +kernel
theorem dX9_init_81 : decode cX9_init 81 = .ok (.bipush 6, 2) := by decide +kernel
theorem dX9_init_83 : decode cX9_init 83 = .ok (.newarray .int, 2) := by decide +kernel
theorem dX9_init_85 : decode cX9_init 85 = .ok (.putfield 42, 3) := by decide +kernel
theorem dX9_init_88 : decode cX9_init 88 = .ok (.aload_n 0, 1) := by decide +kernel
theorem dX9_init_89 : decode cX9_init 89 = .ok (.bipush 6, 2) := by decide +kernel
theorem dX9_init_91 : decode cX9_init 91 = .ok (.newarray .int, 2) := by decide +kernel
theorem dX9_init_93 : decode cX9_init 93 = .ok (.putfield 45, 3) := by decide +kernel
theorem dX9_init_96 : decode cX9_init 96 = .ok (.return_, 1) := by decide +kernel
theorem dX9_in_0 : decode cX9_in 0 = .ok (.lload_n 0, 1) := by decide +kernel
theorem dX9_in_1 : decode cX9_in 1 = .ok (.lload_n 2, 1) := by decide +kernel
theorem dX9_in_2 : decode cX9_in 2 = .ok (.lcmp, 1) := by decide +kernel
theorem dX9_in_3 : decode cX9_in 3 = .ok (.ifCond .lt 14, 3) := by decide +kernel
theorem dX9_in_6 : decode cX9_in 6 = .ok (.lload_n 0, 1) := by decide +kernel
theorem dX9_in_7 : decode cX9_in 7 = .ok (.lload 4, 2) := by decide +kernel
theorem dX9_in_9 : decode cX9_in 9 = .ok (.lcmp, 1) := by decide +kernel
theorem dX9_in_10 : decode cX9_in 10 = .ok (.ifCond .gt 7, 3) := by decide +kernel
theorem dX9_in_13 : decode cX9_in 13 = .ok (.iconst 1, 1) := by decide +kernel
theorem dX9_in_14 : decode cX9_in 14 = .ok (.goto 4, 3) := by decide +kernel
theorem dX9_in_17 : decode cX9_in 17 = .ok (.iconst 0, 1) := by decide +kernel
theorem dX9_in_18 : decode cX9_in 18 = .ok (.ireturn, 1) := by decide +kernel
theorem dX9_has_0 : decode cX9_has 0 = .ok (.iload_n 0, 1) := by decide +kernel
theorem dX9_has_1 : decode cX9_has 1 = .ok (.iload_n 1, 1) := by decide +kernel
theorem dX9_has_2 : decode cX9_has 2 = .ok (.ishr, 1) := by decide +kernel
theorem dX9_has_3 : decode cX9_has 3 = .ok (.iconst 1, 1) := by decide +kernel
theorem dX9_has_4 : decode cX9_has 4 = .ok (.iand, 1) := by decide +kernel
theorem dX9_has_5 : decode cX9_has 5 = .ok (.iconst 1, 1) := by decide +kernel
theorem dX9_has_6 : decode cX9_has 6 = .ok (.if_icmp .ne 7, 3) := by decide +kernel
theorem dX9_has_9 : decode cX9_has 9 = .ok (.iconst 1, 1) := by decide +kernel
theorem dX9_has_10 : decode cX9_has 10 = .ok (.goto 4, 3) := by decide +kernel
theorem dX9_has_13 : decode cX9_has 13 = .ok (.iconst 0, 1) := by decide +kernel
theorem dX9_has_14 : decode cX9_has 14 = .ok (.ireturn, 1) := by decide +kernel
theorem dX9_bits_0 : decode cX9_bits 0 = .ok (.iconst 0, 1) := by decide +kernel
theorem dX9_bits_1 : decode cX9_bits 1 = .ok (.istore_n 1, 1) := by decide +kernel
theorem dX9_bits_2 : decode cX9_bits 2 = .ok (.iconst 0, 1) := by decide +kernel
theorem dX9_bits_3 : decode cX9_bits 3 = .ok (.istore_n 2, 1) := by decide +kernel
theorem dX9_bits_4 : decode cX9_bits 4 = .ok (.iload_n 2, 1) := by decide +kernel
theorem dX9_bits_5 : decode cX9_bits 5 = .ok (.bipush 6, 2) := by decide +kernel
theorem dX9_bits_7 : decode cX9_bits 7 = .ok (.if_icmp .ge 17, 3) := by decide +kernel
theorem dX9_bits_10 : decode cX9_bits 10 = .ok (.iload_n 1, 1) := by decide +kernel
theorem dX9_bits_11 : decode cX9_bits 11 = .ok (.iload_n 0, 1) := by decide +kernel
theorem dX9_bits_12 : decode cX9_bits 12 = .ok (.iload_n 2, 1) := by decide +kernel
theorem dX9_bits_13 : decode cX9_bits 13 = .ok (.ishr, 1) := by decide +kernel
theorem dX9_bits_14 : decode cX9_bits 14 = .ok (.iconst 1, 1) := by decide +kernel
theorem dX9_bits_15 : decode cX9_bits 15 = .ok (.iand, 1) := by decide +kernel
theorem dX9_bits_16 : decode cX9_bits 16 = .ok (.iadd, 1) := by decide +kernel
theorem dX9_bits_17 : decode cX9_bits 17 = .ok (.istore_n 1, 1) := by decide +kernel
theorem dX9_bits_18 : decode cX9_bits 18 = .ok (.iinc 2 1, 3) := by decide +kernel
theorem dX9_bits_21 : decode cX9_bits 21 = .ok (.goto (-17), 3) := by decide +kernel
theorem dX9_bits_24 : decode cX9_bits 24 = .ok (.iload_n 1, 1) := by decide +kernel
theorem dX9_bits_25 : decode cX9_bits 25 = .ok (.ireturn, 1) := by decide +kernel
theorem dX9_larger_0 : decode cX9_larger 0 = .ok (.iload_n 0, 1) := by decide +kernel
theorem dX9_larger_1 : decode cX9_larger 1 = .ok (.iload_n 1, 1) := by decide +kernel
theorem dX9_larger_2 : decode cX9_larger 2 = .ok (.if_icmp .ge 7, 3) := by decide +kernel
theorem dX9_larger_5 : decode cX9_larger 5 = .ok (.iload_n 1, 1) := by decide +kernel
theorem dX9_larger_6 : decode cX9_larger 6 = .ok (.goto 4, 3) := by decide +kernel
theorem dX9_larger_9 : decode cX9_larger 9 = .ok (.iload_n 0, 1) := by decide +kernel
theorem dX9_larger_10 : decode cX9_larger 10 = .ok (.ireturn, 1) := by decide +kernel
theorem dX9_type_0 : decode cX9_type 0 = .ok (.iload_n 1, 1) := by decide +kernel
theorem dX9_type_1 : decode cX9_type 1 = .ok (.i2l, 1) := by decide +kernel
theorem dX9_type_2 : decode cX9_type 2 = .ok (.lconst 0, 1) := by decide +kernel
theorem dX9_type_3 : decode cX9_type 3 = .ok (.ldc2_w 48, 3) := by decide +kernel
theorem dX9_type_6 : decode cX9_type 6 = .ok (.invokestatic 50, 3) := by decide +kernel
theorem dX9_type_9 : decode cX9_type 9 = .ok (.ifCond .ne 5, 3) := by decide +kernel
theorem dX9_type_12 : decode cX9_type 12 = .ok (.iconst (-1), 1) := by decide +kernel
theorem dX9_type_13 : decode cX9_type 13 = .ok (.ireturn, 1) := by decide +kernel
theorem dX9_type_14 : decode cX9_type 14 = .ok (.aload_n 0, 1) := by decide +kernel
theorem dX9_type_15 : decode cX9_type 15 = .ok (.getfield 54, 3) := by decide +kernel
theorem dX9_type_18 : decode cX9_type 18 = .ok (.bipush 120, 2) := by decide +kernel
theorem dX9_type_20 : decode cX9_type 20 = .ok (.if_icmp .ne 6, 3) := by decide +kernel
theorem dX9_type_23 : decode cX9_type 23 = .ok (.bipush (-3), 2) := by decide +kernel
theorem dX9_type_25 : decode cX9_type 25 = .ok (.ireturn, 1) := by decide +kernel
theorem dX9_type_26 : decode cX9_type 26 = .ok (.aload_n 0, 1) := by decide +kernel
theorem dX9_type_27 : decode cX9_type 27 = .ok (.getfield 35, 3) := by decide +kernel
theorem dX9_type_30 : decode cX9_type 30 = .ok (.aload_n 0, 1) := by decide +kernel
theorem dX9_type_31 : decode cX9_type 31 = .ok (.getfield 54, 3) := by decide +kernel
theorem dX9_type_34 : decode cX9_type 34 = .ok (.iload_n 1, 1) := by decide +kernel
theorem dX9_type_35 : decode cX9_type 35 = .ok (.i2b, 1) := by decide +kernel
theorem dX9_type_36 : decode cX9_type 36 = .ok (.bastore, 1) := by decide +kernel
theorem dX9_type_37 : decode cX9_type 37 = .ok (.aload_n 0, 1) := by decide +kernel
theorem dX9_type_38 : decode cX9_type 38 = .ok (.dup, 1) := by decide +kernel
theorem dX9_type_39 : decode cX9_type 39 = .ok (.getfield 54, 3) := by decide +kernel
theorem dX9_type_42 : decode cX9_type 42 = .ok (.iconst 1, 1) := by decide +kernel
theorem dX9_type_43 : decode cX9_type 43 = .ok (.iadd, 1) := by decide +kernel
theorem dX9_type_44 : decode cX9_type 44 = .ok (.putfield 54, 3) := by decide +kernel
theorem dX9_type_47 : decode cX9_type 47 = .ok (.aload_n 0, 1) := by decide +kernel
theorem dX9_type_48 : decode cX9_type 48 = .ok (.getfield 54, 3) := by decide +kernel
theorem dX9_type_51 : decode cX9_type 51 = .ok (.ireturn, 1) := by decide +kernel
theorem dX9_clear_0 : decode cX9_clear 0 = .ok (.aload_n 0, 1) := by decide +kernel
theorem dX9_clear_1 : decode cX9_clear 1 = .ok (.getfield 54, 3) := by decide +kernel
theorem dX9_clear_4 : decode cX9_clear 4 = .ok (.istore_n 1, 1) := by decide +kernel
theorem dX9_clear_5 : decode cX9_clear 5 = .ok (.aload_n 0, 1) := by decide +kernel
theorem dX9_clear_6 : decode cX9_clear 6 = .ok (.iconst 0, 1) := by decide +kernel
theorem dX9_clear_7 : decode cX9_clear 7 = .ok (.putfield 54, 3) := by decide +kernel
theorem dX9_clear_10 : decode cX9_clear 10 = .ok (.iload_n 1, 1) := by decide +kernel
theorem dX9_clear_11 : decode cX9_clear 11 = .ok (.ireturn, 1) := by decide +kernel
theorem dX9_letterAt_0 : decode cX9_letterAt 0 = .ok (.iload_n 1, 1) := by decide +kernel
theorem dX9_letterAt_1 : decode cX9_letterAt 1 = .ok (.aload_n 0, 1) := by decide +kernel
theorem dX9_letterAt_2 : decode cX9_letterAt 2 = .ok (.getfield 54, 3) := by decide +kernel
theorem dX9_letterAt_5 : decode cX9_letterAt 5 = .ok (.if_icmp .ge 16, 3) := by decide +kernel
theorem dX9_letterAt_8 : decode cX9_letterAt 8 = .ok (.aload_n 0, 1) := by decide +kernel
theorem dX9_letterAt_9 : decode cX9_letterAt 9 = .ok (.getfield 35, 3) := by decide +kernel
theorem dX9_letterAt_12 : decode cX9_letterAt 12 = .ok (.iload_n 1, 1) := by decide +kernel
theorem dX9_letterAt_13 : decode cX9_letterAt 13 = .ok (.baload, 1) := by decide +kernel
theorem dX9_letterAt_14 : decode cX9_letterAt 14 = .ok (.sipush 255, 3) := by decide +kernel
theorem dX9_letterAt_17 : decode cX9_letterAt 17 = .ok (.iand, 1) := by decide +kernel
theorem dX9_letterAt_18 : decode cX9_letterAt 18 = .ok (.goto 4, 3) := by decide +kernel
theorem dX9_letterAt_21 : decode cX9_letterAt 21 = .ok (.iconst (-1), 1) := by decide +kernel
theorem dX9_letterAt_22 : decode cX9_letterAt 22 = .ok (.ireturn, 1) := by decide +kernel
theorem dX9_token_0 : decode cX9_token 0 = .ok (.aload_n 0, 1) := by decide +kernel
theorem dX9_token_1 : decode cX9_token 1 = .ok (.aload_n 0, 1) := by decide +kernel
theorem dX9_token_2 : decode cX9_token 2 = .ok (.getfield 57, 3) := by decide +kernel
theorem dX9_token_5 : decode cX9_token 5 = .ok (.invokevirtual 60, 3) := by decide +kernel
theorem dX9_token_8 : decode cX9_token 8 = .ok (.bipush 32, 2) := by decide +kernel
theorem dX9_token_10 : decode cX9_token 10 = .ok (.if_icmp .ne 16, 3) := by decide +kernel
theorem dX9_token_13 : decode cX9_token 13 = .ok (.aload_n 0, 1) := by decide +kernel
theorem dX9_token_14 : decode cX9_token 14 = .ok (.dup, 1) := by decide +kernel
theorem dX9_token_15 : decode cX9_token 15 = .ok (.getfield 57, 3) := by decide +kernel
theorem dX9_token_18 : decode cX9_token 18 = .ok (.iconst 1, 1) := by decide +kernel
theorem dX9_token_19 : decode cX9_token 19 = .ok (.iadd, 1) := by decide +kernel
theorem dX9_token_20 : decode cX9_token 20 = .ok (.putfield 57, 3) := by decide +kernel
theorem dX9_token_23 : decode cX9_token 23 = .ok (.goto (-23), 3) := by decide +kernel
theorem dX9_token_26 : decode cX9_token 26 = .ok (.aload_n 0, 1) := by decide +kernel
theorem dX9_token_27 : decode cX9_token 27 = .ok (.aload_n 0, 1) := by decide +kernel
theorem dX9_token_28 : decode cX9_token 28 = .ok (.getfield 57, 3) := by decide +kernel
theorem dX9_token_31 : decode cX9_token 31 = .ok (.putfield 64, 3) := by decide +kernel
theorem dX9_token_34 : decode cX9_token 34 = .ok (.aload_n 0, 1) := by decide +kernel
theorem dX9_token_35 : decode cX9_token 35 = .ok (.aload_n 0, 1) := by decide +kernel
theorem dX9_token_36 : decode cX9_token 36 = .ok (.getfield 57, 3) := by decide +kernel
theorem dX9_token_39 : decode cX9_token 39 = .ok (.invokevirtual 60, 3) := by decide +kernel
theorem dX9_token_42 : decode cX9_token 42 = .ok (.istore_n 1, 1) := by decide +kernel
theorem dX9_token_43 : decode cX9_token 43 = .ok (.iload_n 1, 1) := by decide +kernel
theorem dX9_token_44 : decode cX9_token 44 = .ok (.i2l, 1) := by decide +kernel
theorem dX9_token_45 : decode cX9_token 45 = .ok (.ldc2_w 67, 3) := by decide +kernel
theorem dX9_token_48 : decode cX9_token 48 = .ok (.ldc2_w 69, 3) := by decide +kernel
theorem dX9_token_51 : decode cX9_token 51 = .ok (.invokestatic 50, 3) := by decide +kernel
theorem dX9_token_54 : decode cX9_token 54 = .ok (.ifCond .eq 108, 3) := by decide +kernel
theorem dX9_token_57 : decode cX9_token 57 = .ok (.iconst 0, 1) := by decide +kernel
theorem dX9_token_58 : decode cX9_token 58 = .ok (.istore_n 2, 1) := by decide +kernel
theorem dX9_token_59 : decode cX9_token 59 = .ok (.aload_n 0, 1) := by decide +kernel
theorem dX9_token_60 : decode cX9_token 60 = .ok (.iconst 0, 1) := by decide +kernel
theorem dX9_token_61 : decode cX9_token 61 = .ok (.putfield 71, 3) := by decide +kernel
theorem dX9_token_64 : decode cX9_token 64 = .ok (.aload_n 0, 1) := by decide +kernel
theorem dX9_token_65 : decode cX9_token 65 = .ok (.aload_n 0, 1) := by decide +kernel
theorem dX9_token_66 : decode cX9_token 66 = .ok (.getfield 57, 3) := by decide +kernel
theorem dX9_token_69 : decode cX9_token 69 = .ok (.invokevirtual 60, 3) := by decide +kernel
theorem dX9_token_72 : decode cX9_token 72 = .ok (.i2l, 1) := by decide +kernel
theorem dX9_token_73 : decode cX9_token 73 = .ok (.ldc2_w 67, 3) := by decide +kernel
theorem dX9_token_76 : decode cX9_token 76 = .ok (.ldc2_w 69, 3) := by decide +kernel
theorem dX9_token_79 : decode cX9_token 79 = .ok (.invokestatic 50, 3) := by decide +kernel
theorem dX9_token_82 : decode cX9_token 82 = .ok (.ifCond .eq 53, 3) := by decide +kernel
theorem dX9_token_85 : decode cX9_token 85 = .ok (.aload_n 0, 1) := by decide +kernel
theorem dX9_token_86 : decode cX9_token 86 = .ok (.iload_n 2, 1) := by decide +kernel
theorem dX9_token_87 : decode cX9_token 87 = .ok (.iconst 2, 1) := by decide +kernel
theorem dX9_token_88 : decode cX9_token 88 = .ok (.if_icmp .ge 25, 3) := by decide +kernel
theorem dX9_token_91 : decode cX9_token 91 = .ok (.bipush 10, 2) := by decide +kernel
theorem dX9_token_93 : decode cX9_token 93 = .ok (.aload_n 0, 1) := by decide +kernel
theorem dX9_token_94 : decode cX9_token 94 = .ok (.getfield 71, 3) := by decide +kernel
theorem dX9_token_97 : decode cX9_token 97 = .ok (.imul, 1) := by decide +kernel
theorem dX9_token_98 : decode cX9_token 98 = .ok (.aload_n 0, 1) := by decide +kernel
theorem dX9_token_99 : decode cX9_token 99 = .ok (.aload_n 0, 1) := by decide +kernel
theorem dX9_token_100 : decode cX9_token 100 = .ok (.getfield 57, 3) := by decide +kernel
theorem dX9_token_103 : decode cX9_token 103 = .ok (.invokevirtual 60, 3) := by decide +kernel
theorem dX9_token_106 : decode cX9_token 106 = .ok (.iadd, 1) := by decide +kernel
theorem dX9_token_107 : decode cX9_token 107 = .ok (.bipush 48, 2) := by decide +kernel
theorem dX9_token_109 : decode cX9_token 109 = .ok (.isub, 1) := by decide +kernel
theorem dX9_token_110 : decode cX9_token 110 = .ok (.goto 6, 3) := by decide +kernel
theorem dX9_token_113 : decode cX9_token 113 = .ok (.sipush 1000, 3) := by decide +kernel
theorem dX9_token_116 : decode cX9_token 116 = .ok (.putfield 71, 3) := by decide +kernel
theorem dX9_token_119 : decode cX9_token 119 = .ok (.iinc 2 1, 3) := by decide +kernel
theorem dX9_token_122 : decode cX9_token 122 = .ok (.aload_n 0, 1) := by decide +kernel
theorem dX9_token_123 : decode cX9_token 123 = .ok (.dup, 1) := by decide +kernel
theorem dX9_token_124 : decode cX9_token 124 = .ok (.getfield 57, 3) := by decide +kernel
theorem dX9_token_127 : decode cX9_token 127 = .ok (.iconst 1, 1) := by decide +kernel
theorem dX9_token_128 : decode cX9_token 128 = .ok (.iadd, 1) := by decide +kernel
theorem dX9_token_129 : decode cX9_token 129 = .ok (.putfield 57, 3) := by decide +kernel
theorem dX9_token_132 : decode cX9_token 132 = .ok (.goto (-68), 3) := by decide +kernel
theorem dX9_token_135 : decode cX9_token 135 = .ok (.aload_n 0, 1) := by decide +kernel
theorem dX9_token_136 : decode cX9_token 136 = .ok (.iload_n 2, 1) := by decide +kernel
theorem dX9_token_137 : decode cX9_token 137 = .ok (.iconst 1, 1) := by decide +kernel
theorem dX9_token_138 : decode cX9_token 138 = .ok (.if_icmp .le 15, 3) := by decide +kernel
theorem dX9_token_141 : decode cX9_token 141 = .ok (.iload_n 1, 1) := by decide +kernel
theorem dX9_token_142 : decode cX9_token 142 = .ok (.bipush 48, 2) := by decide +kernel
theorem dX9_token_144 : decode cX9_token 144 = .ok (.if_icmp .ne 9, 3) := by decide +kernel
theorem dX9_token_147 : decode cX9_token 147 = .ok (.sipush 1000, 3) := by decide +kernel
theorem dX9_token_150 : decode cX9_token 150 = .ok (.goto 7, 3) := by decide +kernel
theorem dX9_token_153 : decode cX9_token 153 = .ok (.aload_n 0, 1) := by decide +kernel
theorem dX9_token_154 : decode cX9_token 154 = .ok (.getfield 71, 3) := by decide +kernel
theorem dX9_token_157 : decode cX9_token 157 = .ok (.putfield 71, 3) := by decide +kernel
theorem dX9_token_160 : decode cX9_token 160 = .ok (.iconst 1, 1) := by decide +kernel
theorem dX9_token_161 : decode cX9_token 161 = .ok (.ireturn, 1) := by decide +kernel
theorem dX9_token_162 : decode cX9_token 162 = .ok (.aload_n 0, 1) := by decide +kernel
theorem dX9_token_163 : decode cX9_token 163 = .ok (.dup, 1) := by decide +kernel
theorem dX9_token_164 : decode cX9_token 164 = .ok (.getfield 57, 3) := by decide +kernel
theorem dX9_token_167 : decode cX9_token 167 = .ok (.iload_n 1, 1) := by decide +kernel
theorem dX9_token_168 : decode cX9_token 168 = .ok (.ifCond .ge 7, 3) := by decide +kernel
theorem dX9_token_171 : decode cX9_token 171 = .ok (.iconst 0, 1) := by decide +kernel
theorem dX9_token_172 : decode cX9_token 172 = .ok (.goto 4, 3) := by decide +kernel
theorem dX9_token_175 : decode cX9_token 175 = .ok (.iconst 1, 1) := by decide +kernel
theorem dX9_token_176 : decode cX9_token 176 = .ok (.iadd, 1) := by decide +kernel
theorem dX9_token_177 : decode cX9_token 177 = .ok (.putfield 57, 3) := by decide +kernel
theorem dX9_token_180 : decode cX9_token 180 = .ok (.iload_n 1, 1) := by decide +kernel
theorem dX9_token_181 : decode cX9_token 181 = .ok (.ifCond .ge 7, 3) := by decide +kernel
theorem dX9_token_184 : decode cX9_token 184 = .ok (.iconst 4, 1) := by decide +kernel
theorem dX9_token_185 : decode cX9_token 185 = .ok (.goto 36, 3) := by decide +kernel
theorem dX9_token_188 : decode cX9_token 188 = .ok (.iload_n 1, 1) := by decide +kernel
theorem dX9_token_189 : decode cX9_token 189 = .ok (.bipush 59, 2) := by decide +kernel
theorem dX9_token_191 : decode cX9_token 191 = .ok (.if_icmp .ne 7, 3) := by decide +kernel
theorem dX9_token_194 : decode cX9_token 194 = .ok (.iconst 2, 1) := by decide +kernel
theorem dX9_token_195 : decode cX9_token 195 = .ok (.goto 26, 3) := by decide +kernel
theorem dX9_token_198 : decode cX9_token 198 = .ok (.iload_n 1, 1) := by decide +kernel
theorem dX9_token_199 : decode cX9_token 199 = .ok (.bipush 110, 2) := by decide +kernel
theorem dX9_token_201 : decode cX9_token 201 = .ok (.if_icmp .eq 15, 3) := by decide +kernel
theorem dX9_token_204 : decode cX9_token 204 = .ok (.iload_n 1, 1) := by decide +kernel
theorem dX9_token_205 : decode cX9_token 205 = .ok (.bipush 116, 2) := by decide +kernel
theorem dX9_token_207 : decode cX9_token 207 = .ok (.if_icmp .eq 9, 3) := by decide +kernel
theorem dX9_token_210 : decode cX9_token 210 = .ok (.iload_n 1, 1) := by decide +kernel
theorem dX9_token_211 : decode cX9_token 211 = .ok (.bipush 108, 2) := by decide +kernel
theorem dX9_token_213 : decode cX9_token 213 = .ok (.if_icmp .ne 7, 3) := by decide +kernel
theorem dX9_token_216 : decode cX9_token 216 = .ok (.iload_n 1, 1) := by decide +kernel
theorem dX9_token_217 : decode cX9_token 217 = .ok (.goto 4, 3) := by decide +kernel
theorem dX9_token_220 : decode cX9_token 220 = .ok (.iconst 3, 1) := by decide +kernel
theorem dX9_token_221 : decode cX9_token 221 = .ok (.ireturn, 1) := by decide +kernel
theorem dX9_wants_0 : decode cX9_wants 0 = .ok (.aload_n 0, 1) := by decide +kernel
theorem dX9_wants_1 : decode cX9_wants 1 = .ok (.getfield 74, 3) := by decide +kernel
theorem dX9_wants_4 : decode cX9_wants 4 = .ok (.ifCond .ne 30, 3) := by decide +kernel
theorem dX9_wants_7 : decode cX9_wants 7 = .ok (.aload_n 0, 1) := by decide +kernel
theorem dX9_wants_8 : decode cX9_wants 8 = .ok (.invokevirtual 78, 3) := by decide +kernel
theorem dX9_wants_11 : decode cX9_wants 11 = .ok (.iconst 1, 1) := by decide +kernel
theorem dX9_wants_12 : decode cX9_wants 12 = .ok (.if_icmp .ne 22, 3) := by decide +kernel
theorem dX9_wants_15 : decode cX9_wants 15 = .ok (.aload_n 0, 1) := by decide +kernel
theorem dX9_wants_16 : decode cX9_wants 16 = .ok (.getfield 71, 3) := by decide +kernel
theorem dX9_wants_19 : decode cX9_wants 19 = .ok (.i2l, 1) := by decide +kernel
theorem dX9_wants_20 : decode cX9_wants 20 = .ok (.iload_n 1, 1) := by decide +kernel
theorem dX9_wants_21 : decode cX9_wants 21 = .ok (.i2l, 1) := by decide +kernel
theorem dX9_wants_22 : decode cX9_wants 22 = .ok (.iload_n 2, 1) := by decide +kernel
theorem dX9_wants_23 : decode cX9_wants 23 = .ok (.i2l, 1) := by decide +kernel
theorem dX9_wants_24 : decode cX9_wants 24 = .ok (.invokestatic 50, 3) := by decide +kernel
theorem dX9_wants_27 : decode cX9_wants 27 = .ok (.ifCond .eq 7, 3) := by decide +kernel
theorem dX9_wants_30 : decode cX9_wants 30 = .ok (.iconst 1, 1) := by decide +kernel
theorem dX9_wants_31 : decode cX9_wants 31 = .ok (.goto 4, 3) := by decide +kernel
theorem dX9_wants_34 : decode cX9_wants 34 = .ok (.iconst 0, 1) := by decide +kernel
theorem dX9_wants_35 : decode cX9_wants 35 = .ok (.istore_n 3, 1) := by decide +kernel
theorem dX9_wants_36 : decode cX9_wants 36 = .ok (.aload_n 0, 1) := by decide +kernel
theorem dX9_wants_37 : decode cX9_wants 37 = .ok (.aload_n 0, 1) := by decide +kernel
theorem dX9_wants_38 : decode cX9_wants 38 = .ok (.getfield 74, 3) := by decide +kernel
theorem dX9_wants_41 : decode cX9_wants 41 = .ok (.ifCond .ne 7, 3) := by decide +kernel
theorem dX9_wants_44 : decode cX9_wants 44 = .ok (.iload_n 3, 1) := by decide +kernel
theorem dX9_wants_45 : decode cX9_wants 45 = .ok (.ifCond .ne 7, 3) := by decide +kernel
theorem dX9_wants_48 : decode cX9_wants 48 = .ok (.iconst 1, 1) := by decide +kernel
theorem dX9_wants_49 : decode cX9_wants 49 = .ok (.goto 4, 3) := by decide +kernel
theorem dX9_wants_52 : decode cX9_wants 52 = .ok (.iconst 0, 1) := by decide +kernel
theorem dX9_wants_53 : decode cX9_wants 53 = .ok (.putfield 74, 3) := by decide +kernel
theorem dX9_wants_56 : decode cX9_wants 56 = .ok (.iload_n 3, 1) := by decide +kernel
theorem dX9_wants_57 : decode cX9_wants 57 = .ok (.ifCond .eq 10, 3) := by decide +kernel
theorem dX9_wants_60 : decode cX9_wants 60 = .ok (.aload_n 0, 1) := by decide +kernel
theorem dX9_wants_61 : decode cX9_wants 61 = .ok (.getfield 71, 3) := by decide +kernel
theorem dX9_wants_64 : decode cX9_wants 64 = .ok (.goto 4, 3) := by decide +kernel
theorem dX9_wants_67 : decode cX9_wants 67 = .ok (.iconst 0, 1) := by decide +kernel
theorem dX9_wants_68 : decode cX9_wants 68 = .ok (.ireturn, 1) := by decide +kernel
theorem dX9_topItem_0 : decode cX9_topItem 0 = .ok (.aload_n 0, 1) := by decide +kernel
theorem dX9_topItem_1 : decode cX9_topItem 1 = .ok (.aload_n 0, 1) := by decide +kernel
theorem dX9_topItem_2 : decode cX9_topItem 2 = .ok (.getfield 82, 3) := by decide +kernel
theorem dX9_topItem_5 : decode cX9_topItem 5 = .ok (.bipush 6, 2) := by decide +kernel
theorem dX9_topItem_7 : decode cX9_topItem 7 = .ok (.if_icmp .ne 7, 3) := by decide +kernel
theorem dX9_topItem_10 : decode cX9_topItem 10 = .ok (.iconst 1, 1) := by decide +kernel
theorem dX9_topItem_11 : decode cX9_topItem 11 = .ok (.goto 4, 3) := by decide +kernel
theorem dX9_topItem_14 : decode cX9_topItem 14 = .ok (.iconst 0, 1) := by decide +kernel
theorem dX9_topItem_15 : decode cX9_topItem 15 = .ok (.putfield 74, 3) := by decide +kernel
theorem dX9_topItem_18 : decode cX9_topItem 18 = .ok (.aload_n 0, 1) := by decide +kernel
theorem dX9_topItem_19 : decode cX9_topItem 19 = .ok (.iconst 0, 1) := by decide +kernel
theorem dX9_topItem_20 : decode cX9_topItem 20 = .ok (.aload_n 0, 1) := by decide +kernel
theorem dX9_topItem_21 : decode cX9_topItem 21 = .ok (.getfield 85, 3) := by decide +kernel
theorem dX9_topItem_24 : decode cX9_topItem 24 = .ok (.iconst 1, 1) := by decide +kernel
theorem dX9_topItem_25 : decode cX9_topItem 25 = .ok (.isub, 1) := by decide +kernel
theorem dX9_topItem_26 : decode cX9_topItem 26 = .ok (.invokevirtual 88, 3) := by decide +kernel
theorem dX9_topItem_29 : decode cX9_topItem 29 = .ok (.istore_n 1, 1) := by decide +kernel
theorem dX9_topItem_30 : decode cX9_topItem 30 = .ok (.iconst 0, 1) := by decide +kernel
theorem dX9_topItem_31 : decode cX9_topItem 31 = .ok (.istore_n 2, 1) := by decide +kernel
theorem dX9_topItem_32 : decode cX9_topItem 32 = .ok (.iload_n 2, 1) := by decide +kernel
theorem dX9_topItem_33 : decode cX9_topItem 33 = .ok (.aload_n 0, 1) := by decide +kernel
theorem dX9_topItem_34 : decode cX9_topItem 34 = .ok (.getfield 82, 3) := by decide +kernel
theorem dX9_topItem_37 : decode cX9_topItem 37 = .ok (.if_icmp .ge 35, 3) := by decide +kernel
theorem dX9_topItem_40 : decode cX9_topItem 40 = .ok (.aload_n 0, 1) := by decide +kernel
theorem dX9_topItem_41 : decode cX9_topItem 41 = .ok (.aload_n 0, 1) := by decide +kernel
theorem dX9_topItem_42 : decode cX9_topItem 42 = .ok (.getfield 74, 3) := by decide +kernel
theorem dX9_topItem_45 : decode cX9_topItem 45 = .ok (.ifCond .ne 13, 3) := by decide +kernel
theorem dX9_topItem_48 : decode cX9_topItem 48 = .ok (.aload_n 0, 1) := by decide +kernel
theorem dX9_topItem_49 : decode cX9_topItem 49 = .ok (.getfield 20, 3) := by decide +kernel
theorem dX9_topItem_52 : decode cX9_topItem 52 = .ok (.iload_n 2, 1) := by decide +kernel
theorem dX9_topItem_53 : decode cX9_topItem 53 = .ok (.iaload, 1) := by decide +kernel
theorem dX9_topItem_54 : decode cX9_topItem 54 = .ok (.iload_n 1, 1) := by decide +kernel
theorem dX9_topItem_55 : decode cX9_topItem 55 = .ok (.if_icmp .ne 7, 3) := by decide +kernel
theorem dX9_topItem_58 : decode cX9_topItem 58 = .ok (.iconst 1, 1) := by decide +kernel
theorem dX9_topItem_59 : decode cX9_topItem 59 = .ok (.goto 4, 3) := by decide +kernel
theorem dX9_topItem_62 : decode cX9_topItem 62 = .ok (.iconst 0, 1) := by decide +kernel
theorem dX9_topItem_63 : decode cX9_topItem 63 = .ok (.putfield 74, 3) := by decide +kernel
theorem dX9_topItem_66 : decode cX9_topItem 66 = .ok (.iinc 2 1, 3) := by decide +kernel
theorem dX9_topItem_69 : decode cX9_topItem 69 = .ok (.goto (-37), 3) := by decide +kernel
theorem dX9_topItem_72 : decode cX9_topItem 72 = .ok (.aload_n 0, 1) := by decide +kernel
theorem dX9_topItem_73 : decode cX9_topItem 73 = .ok (.iconst 1, 1) := by decide +kernel
theorem dX9_topItem_74 : decode cX9_topItem 74 = .ok (.bipush 60, 2) := by decide +kernel
theorem dX9_topItem_76 : decode cX9_topItem 76 = .ok (.invokevirtual 88, 3) := by decide +kernel
theorem dX9_topItem_79 : decode cX9_topItem 79 = .ok (.istore_n 2, 1) := by decide +kernel
theorem dX9_topItem_80 : decode cX9_topItem 80 = .ok (.aload_n 0, 1) := by decide +kernel
theorem dX9_topItem_81 : decode cX9_topItem 81 = .ok (.iconst 1, 1) := by decide +kernel
theorem dX9_topItem_82 : decode cX9_topItem 82 = .ok (.bipush 9, 2) := by decide +kernel
theorem dX9_topItem_84 : decode cX9_topItem 84 = .ok (.invokevirtual 88, 3) := by decide +kernel
theorem dX9_topItem_87 : decode cX9_topItem 87 = .ok (.istore_n 3, 1) := by decide +kernel
theorem dX9_topItem_88 : decode cX9_topItem 88 = .ok (.aload_n 0, 1) := by decide +kernel
theorem dX9_topItem_89 : decode cX9_topItem 89 = .ok (.getfield 74, 3) := by decide +kernel
theorem dX9_topItem_92 : decode cX9_topItem 92 = .ok (.ifCond .ne 43, 3) := by decide +kernel
theorem dX9_topItem_95 : decode cX9_topItem 95 = .ok (.aload_n 0, 1) := by decide +kernel
theorem dX9_topItem_96 : decode cX9_topItem 96 = .ok (.getfield 20, 3) := by decide +kernel
theorem dX9_topItem_99 : decode cX9_topItem 99 = .ok (.aload_n 0, 1) := by decide +kernel
theorem dX9_topItem_100 : decode cX9_topItem 100 = .ok (.getfield 82, 3) := by decide +kernel
theorem dX9_topItem_103 : decode cX9_topItem 103 = .ok (.iload_n 1, 1) := by decide +kernel
theorem dX9_topItem_104 : decode cX9_topItem 104 = .ok (.iastore, 1) := by decide +kernel
theorem dX9_topItem_105 : decode cX9_topItem 105 = .ok (.aload_n 0, 1) := by decide +kernel
theorem dX9_topItem_106 : decode cX9_topItem 106 = .ok (.getfield 23, 3) := by decide +kernel
theorem dX9_topItem_109 : decode cX9_topItem 109 = .ok (.aload_n 0, 1) := by decide +kernel
theorem dX9_topItem_110 : decode cX9_topItem 110 = .ok (.getfield 82, 3) := by decide +kernel
theorem dX9_topItem_113 : decode cX9_topItem 113 = .ok (.iload_n 2, 1) := by decide +kernel
theorem dX9_topItem_114 : decode cX9_topItem 114 = .ok (.iastore, 1) := by decide +kernel
theorem dX9_topItem_115 : decode cX9_topItem 115 = .ok (.aload_n 0, 1) := by decide +kernel
theorem dX9_topItem_116 : decode cX9_topItem 116 = .ok (.getfield 26, 3) := by decide +kernel
theorem dX9_topItem_119 : decode cX9_topItem 119 = .ok (.aload_n 0, 1) := by decide +kernel
theorem dX9_topItem_120 : decode cX9_topItem 120 = .ok (.getfield 82, 3) := by decide +kernel
theorem dX9_topItem_123 : decode cX9_topItem 123 = .ok (.iload_n 3, 1) := by decide +kernel
theorem dX9_topItem_124 : decode cX9_topItem 124 = .ok (.iastore, 1) := by decide +kernel
theorem dX9_topItem_125 : decode cX9_topItem 125 = .ok (.aload_n 0, 1) := by decide +kernel
theorem dX9_topItem_126 : decode cX9_topItem 126 = .ok (.dup, 1) := by decide +kernel
theorem dX9_topItem_127 : decode cX9_topItem 127 = .ok (.getfield 82, 3) := by decide +kernel
theorem dX9_topItem_130 : decode cX9_topItem 130 = .ok (.iconst 1, 1) := by decide +kernel
theorem dX9_topItem_131 : decode cX9_topItem 131 = .ok (.iadd, 1) := by decide +kernel
theorem dX9_topItem_132 : decode cX9_topItem 132 = .ok (.putfield 82, 3) := by decide +kernel
theorem dX9_topItem_135 : decode cX9_topItem 135 = .ok (.return_, 1) := by decide +kernel
theorem dX9_item_0 : decode cX9_item 0 = .ok (.iload_n 1, 1) := by decide +kernel
theorem dX9_item_1 : decode cX9_item 1 = .ok (.bipush 110, 2) := by decide +kernel
theorem dX9_item_3 : decode cX9_item 3 = .ok (.if_icmp .ne 30, 3) := by decide +kernel
theorem dX9_item_6 : decode cX9_item 6 = .ok (.aload_n 0, 1) := by decide +kernel
theorem dX9_item_7 : decode cX9_item 7 = .ok (.iload_n 2, 1) := by decide +kernel
theorem dX9_item_8 : decode cX9_item 8 = .ok (.ifCond .le 7, 3) := by decide +kernel
theorem dX9_item_11 : decode cX9_item 11 = .ok (.iconst 1, 1) := by decide +kernel
theorem dX9_item_12 : decode cX9_item 12 = .ok (.goto 4, 3) := by decide +kernel
theorem dX9_item_15 : decode cX9_item 15 = .ok (.iconst 0, 1) := by decide +kernel
theorem dX9_item_16 : decode cX9_item 16 = .ok (.putfield 74, 3) := by decide +kernel
theorem dX9_item_19 : decode cX9_item 19 = .ok (.aload_n 0, 1) := by decide +kernel
theorem dX9_item_20 : decode cX9_item 20 = .ok (.aload_n 0, 1) := by decide +kernel
theorem dX9_item_21 : decode cX9_item 21 = .ok (.iconst 4, 1) := by decide +kernel
theorem dX9_item_22 : decode cX9_item 22 = .ok (.bipush 10, 2) := by decide +kernel
theorem dX9_item_24 : decode cX9_item 24 = .ok (.invokevirtual 88, 3) := by decide +kernel
theorem dX9_item_27 : decode cX9_item 27 = .ok (.putfield 85, 3) := by decide +kernel
theorem dX9_item_30 : decode cX9_item 30 = .ok (.goto 54, 3) := by decide +kernel
theorem dX9_item_33 : decode cX9_item 33 = .ok (.iload_n 1, 1) := by decide +kernel
theorem dX9_item_34 : decode cX9_item 34 = .ok (.bipush 116, 2) := by decide +kernel
theorem dX9_item_36 : decode cX9_item 36 = .ok (.if_icmp .ne 10, 3) := by decide +kernel
theorem dX9_item_39 : decode cX9_item 39 = .ok (.aload_n 0, 1) := by decide +kernel
theorem dX9_item_40 : decode cX9_item 40 = .ok (.invokevirtual 92, 3) := by decide +kernel
theorem dX9_item_43 : decode cX9_item 43 = .ok (.goto 41, 3) := by decide +kernel
theorem dX9_item_46 : decode cX9_item 46 = .ok (.iload_n 1, 1) := by decide +kernel
theorem dX9_item_47 : decode cX9_item 47 = .ok (.bipush 108, 2) := by decide +kernel
theorem dX9_item_49 : decode cX9_item 49 = .ok (.if_icmp .ne 30, 3) := by decide +kernel
theorem dX9_item_52 : decode cX9_item 52 = .ok (.aload_n 0, 1) := by decide +kernel
theorem dX9_item_53 : decode cX9_item 53 = .ok (.aload_n 0, 1) := by decide +kernel
theorem dX9_item_54 : decode cX9_item 54 = .ok (.getfield 95, 3) := by decide +kernel
theorem dX9_item_57 : decode cX9_item 57 = .ok (.putfield 74, 3) := by decide +kernel
theorem dX9_item_60 : decode cX9_item 60 = .ok (.aload_n 0, 1) := by decide +kernel
theorem dX9_item_61 : decode cX9_item 61 = .ok (.aload_n 0, 1) := by decide +kernel
theorem dX9_item_62 : decode cX9_item 62 = .ok (.iconst 0, 1) := by decide +kernel
theorem dX9_item_63 : decode cX9_item 63 = .ok (.bipush 30, 2) := by decide +kernel
theorem dX9_item_65 : decode cX9_item 65 = .ok (.invokevirtual 88, 3) := by decide +kernel
theorem dX9_item_68 : decode cX9_item 68 = .ok (.putfield 98, 3) := by decide +kernel
theorem dX9_item_71 : decode cX9_item 71 = .ok (.aload_n 0, 1) := by decide +kernel
theorem dX9_item_72 : decode cX9_item 72 = .ok (.iconst 1, 1) := by decide +kernel
theorem dX9_item_73 : decode cX9_item 73 = .ok (.putfield 95, 3) := by decide +kernel
theorem dX9_item_76 : decode cX9_item 76 = .ok (.goto 8, 3) := by decide +kernel
theorem dX9_item_79 : decode cX9_item 79 = .ok (.aload_n 0, 1) := by decide +kernel
theorem dX9_item_80 : decode cX9_item 80 = .ok (.iconst 1, 1) := by decide +kernel
theorem dX9_item_81 : decode cX9_item 81 = .ok (.putfield 74, 3) := by decide +kernel
theorem dX9_item_84 : decode cX9_item 84 = .ok (.aload_n 0, 1) := by decide +kernel
theorem dX9_item_85 : decode cX9_item 85 = .ok (.aload_n 0, 1) := by decide +kernel
theorem dX9_item_86 : decode cX9_item 86 = .ok (.getfield 74, 3) := by decide +kernel
theorem dX9_item_89 : decode cX9_item 89 = .ok (.ifCond .ne 11, 3) := by decide +kernel
theorem dX9_item_92 : decode cX9_item 92 = .ok (.aload_n 0, 1) := by decide +kernel
theorem dX9_item_93 : decode cX9_item 93 = .ok (.invokevirtual 78, 3) := by decide +kernel
theorem dX9_item_96 : decode cX9_item 96 = .ok (.iconst 2, 1) := by decide +kernel
theorem dX9_item_97 : decode cX9_item 97 = .ok (.if_icmp .eq 7, 3) := by decide +kernel
theorem dX9_item_100 : decode cX9_item 100 = .ok (.iconst 1, 1) := by decide +kernel
theorem dX9_item_101 : decode cX9_item 101 = .ok (.goto 4, 3) := by decide +kernel
theorem dX9_item_104 : decode cX9_item 104 = .ok (.iconst 0, 1) := by decide +kernel
theorem dX9_item_105 : decode cX9_item 105 = .ok (.putfield 74, 3) := by decide +kernel
theorem dX9_item_108 : decode cX9_item 108 = .ok (.return_, 1) := by decide +kernel
theorem dX9_tray_0 : decode cX9_tray 0 = .ok (.aload_n 0, 1) := by decide +kernel
theorem dX9_tray_1 : decode cX9_tray 1 = .ok (.bipush 8, 2) := by decide +kernel
theorem dX9_tray_3 : decode cX9_tray 3 = .ok (.putfield 85, 3) := by decide +kernel
theorem dX9_tray_6 : decode cX9_tray 6 = .ok (.aload_n 0, 1) := by decide +kernel
theorem dX9_tray_7 : decode cX9_tray 7 = .ok (.iconst 0, 1) := by decide +kernel
theorem dX9_tray_8 : decode cX9_tray 8 = .ok (.putfield 82, 3) := by decide +kernel
theorem dX9_tray_11 : decode cX9_tray 11 = .ok (.aload_n 0, 1) := by decide +kernel
theorem dX9_tray_12 : decode cX9_tray 12 = .ok (.bipush 10, 2) := by decide +kernel
theorem dX9_tray_14 : decode cX9_tray 14 = .ok (.putfield 98, 3) := by decide +kernel
theorem dX9_tray_17 : decode cX9_tray 17 = .ok (.aload_n 0, 1) := by decide +kernel
theorem dX9_tray_18 : decode cX9_tray 18 = .ok (.iconst 0, 1) := by decide +kernel
theorem dX9_tray_19 : decode cX9_tray 19 = .ok (.putfield 57, 3) := by decide +kernel
theorem dX9_tray_22 : decode cX9_tray 22 = .ok (.aload_n 0, 1) := by decide +kernel
theorem dX9_tray_23 : decode cX9_tray 23 = .ok (.iconst 0, 1) := by decide +kernel
theorem dX9_tray_24 : decode cX9_tray 24 = .ok (.putfield 74, 3) := by decide +kernel
theorem dX9_tray_27 : decode cX9_tray 27 = .ok (.aload_n 0, 1) := by decide +kernel
theorem dX9_tray_28 : decode cX9_tray 28 = .ok (.iconst 0, 1) := by decide +kernel
theorem dX9_tray_29 : decode cX9_tray 29 = .ok (.putfield 95, 3) := by decide +kernel
theorem dX9_tray_32 : decode cX9_tray 32 = .ok (.iconst 0, 1) := by decide +kernel
theorem dX9_tray_33 : decode cX9_tray 33 = .ok (.istore_n 1, 1) := by decide +kernel
theorem dX9_tray_34 : decode cX9_tray 34 = .ok (.aload_n 0, 1) := by decide +kernel
theorem dX9_tray_35 : decode cX9_tray 35 = .ok (.invokevirtual 78, 3) := by decide +kernel
theorem dX9_tray_38 : decode cX9_tray 38 = .ok (.istore_n 2, 1) := by decide +kernel
theorem dX9_tray_39 : decode cX9_tray 39 = .ok (.iload_n 2, 1) := by decide +kernel
theorem dX9_tray_40 : decode cX9_tray 40 = .ok (.iconst 4, 1) := by decide +kernel
theorem dX9_tray_41 : decode cX9_tray 41 = .ok (.if_icmp .eq 47, 3) := by decide +kernel
theorem dX9_tray_44 : decode cX9_tray 44 = .ok (.aload_n 0, 1) := by decide +kernel
theorem dX9_tray_45 : decode cX9_tray 45 = .ok (.getfield 74, 3) := by decide +kernel
theorem dX9_tray_48 : decode cX9_tray 48 = .ok (.ifCond .ne 40, 3) := by decide +kernel
theorem dX9_tray_51 : decode cX9_tray 51 = .ok (.aload_n 0, 1) := by decide +kernel
theorem dX9_tray_52 : decode cX9_tray 52 = .ok (.iload_n 2, 1) := by decide +kernel
theorem dX9_tray_53 : decode cX9_tray 53 = .ok (.iconst 5, 1) := by decide +kernel
theorem dX9_tray_54 : decode cX9_tray 54 = .ok (.if_icmp .ge 7, 3) := by decide +kernel
theorem dX9_tray_57 : decode cX9_tray 57 = .ok (.iconst 0, 1) := by decide +kernel
theorem dX9_tray_58 : decode cX9_tray 58 = .ok (.goto 4, 3) := by decide +kernel
theorem dX9_tray_61 : decode cX9_tray 61 = .ok (.iload_n 2, 1) := by decide +kernel
theorem dX9_tray_62 : decode cX9_tray 62 = .ok (.iload_n 1, 1) := by decide +kernel
theorem dX9_tray_63 : decode cX9_tray 63 = .ok (.invokevirtual 101, 3) := by decide +kernel
theorem dX9_tray_66 : decode cX9_tray 66 = .ok (.iinc 1 1, 3) := by decide +kernel
theorem dX9_tray_69 : decode cX9_tray 69 = .ok (.aload_n 0, 1) := by decide +kernel
theorem dX9_tray_70 : decode cX9_tray 70 = .ok (.getfield 74, 3) := by decide +kernel
theorem dX9_tray_73 : decode cX9_tray 73 = .ok (.ifCond .eq 7, 3) := by decide +kernel
theorem dX9_tray_76 : decode cX9_tray 76 = .ok (.iload_n 2, 1) := by decide +kernel
theorem dX9_tray_77 : decode cX9_tray 77 = .ok (.goto 7, 3) := by decide +kernel
theorem dX9_tray_80 : decode cX9_tray 80 = .ok (.aload_n 0, 1) := by decide +kernel
theorem dX9_tray_81 : decode cX9_tray 81 = .ok (.invokevirtual 78, 3) := by decide +kernel
theorem dX9_tray_84 : decode cX9_tray 84 = .ok (.istore_n 2, 1) := by decide +kernel
theorem dX9_tray_85 : decode cX9_tray 85 = .ok (.goto (-46), 3) := by decide +kernel
theorem dX9_tray_88 : decode cX9_tray 88 = .ok (.aload_n 0, 1) := by decide +kernel
theorem dX9_tray_89 : decode cX9_tray 89 = .ok (.getfield 74, 3) := by decide +kernel
theorem dX9_tray_92 : decode cX9_tray 92 = .ok (.ifCond .eq 11, 3) := by decide +kernel
theorem dX9_tray_95 : decode cX9_tray 95 = .ok (.bipush (-10), 2) := by decide +kernel
theorem dX9_tray_97 : decode cX9_tray 97 = .ok (.aload_n 0, 1) := by decide +kernel
theorem dX9_tray_98 : decode cX9_tray 98 = .ok (.getfield 64, 3) := by decide +kernel
theorem dX9_tray_101 : decode cX9_tray 101 = .ok (.isub, 1) := by decide +kernel
theorem dX9_tray_102 : decode cX9_tray 102 = .ok (.ireturn, 1) := by decide +kernel
theorem dX9_tray_103 : decode cX9_tray 103 = .ok (.aload_n 0, 1) := by decide +kernel
theorem dX9_tray_104 : decode cX9_tray 104 = .ok (.invokevirtual 105, 3) := by decide +kernel
theorem dX9_tray_107 : decode cX9_tray 107 = .ok (.iload_n 1, 1) := by decide +kernel
theorem dX9_tray_108 : decode cX9_tray 108 = .ok (.ireturn, 1) := by decide +kernel
theorem dX9_settles_0 : decode cX9_settles 0 = .ok (.aload_n 0, 1) := by decide +kernel
theorem dX9_settles_1 : decode cX9_settles 1 = .ok (.aload_n 0, 1) := by decide +kernel
theorem dX9_settles_2 : decode cX9_settles 2 = .ok (.getfield 85, 3) := by decide +kernel
theorem dX9_settles_5 : decode cX9_settles 5 = .ok (.putfield 7, 3) := by decide +kernel
theorem dX9_settles_8 : decode cX9_settles 8 = .ok (.aload_n 0, 1) := by decide +kernel
theorem dX9_settles_9 : decode cX9_settles 9 = .ok (.aload_n 0, 1) := by decide +kernel
theorem dX9_settles_10 : decode cX9_settles 10 = .ok (.getfield 82, 3) := by decide +kernel
theorem dX9_settles_13 : decode cX9_settles 13 = .ok (.putfield 108, 3) := by decide +kernel
theorem dX9_settles_16 : decode cX9_settles 16 = .ok (.aload_n 0, 1) := by decide +kernel
theorem dX9_settles_17 : decode cX9_settles 17 = .ok (.aload_n 0, 1) := by decide +kernel
theorem dX9_settles_18 : decode cX9_settles 18 = .ok (.getfield 98, 3) := by decide +kernel
theorem dX9_settles_21 : decode cX9_settles 21 = .ok (.putfield 13, 3) := by decide +kernel
theorem dX9_settles_24 : decode cX9_settles 24 = .ok (.iconst 0, 1) := by decide +kernel
theorem dX9_settles_25 : decode cX9_settles 25 = .ok (.istore_n 1, 1) := by decide +kernel
theorem dX9_settles_26 : decode cX9_settles 26 = .ok (.iload_n 1, 1) := by decide +kernel
theorem dX9_settles_27 : decode cX9_settles 27 = .ok (.bipush 6, 2) := by decide +kernel
theorem dX9_settles_29 : decode cX9_settles 29 = .ok (.if_icmp .ge 72, 3) := by decide +kernel
theorem dX9_settles_32 : decode cX9_settles 32 = .ok (.aload_n 0, 1) := by decide +kernel
theorem dX9_settles_33 : decode cX9_settles 33 = .ok (.getfield 16, 3) := by decide +kernel
theorem dX9_settles_36 : decode cX9_settles 36 = .ok (.iload_n 1, 1) := by decide +kernel
theorem dX9_settles_37 : decode cX9_settles 37 = .ok (.aload_n 0, 1) := by decide +kernel
theorem dX9_settles_38 : decode cX9_settles 38 = .ok (.getfield 26, 3) := by decide +kernel
theorem dX9_settles_41 : decode cX9_settles 41 = .ok (.iload_n 1, 1) := by decide +kernel
theorem dX9_settles_42 : decode cX9_settles 42 = .ok (.iaload, 1) := by decide +kernel
theorem dX9_settles_43 : decode cX9_settles 43 = .ok (.iastore, 1) := by decide +kernel
theorem dX9_settles_44 : decode cX9_settles 44 = .ok (.aload_n 0, 1) := by decide +kernel
theorem dX9_settles_45 : decode cX9_settles 45 = .ok (.getfield 29, 3) := by decide +kernel
theorem dX9_settles_48 : decode cX9_settles 48 = .ok (.iload_n 1, 1) := by decide +kernel
theorem dX9_settles_49 : decode cX9_settles 49 = .ok (.iload_n 1, 1) := by decide +kernel
theorem dX9_settles_50 : decode cX9_settles 50 = .ok (.aload_n 0, 1) := by decide +kernel
theorem dX9_settles_51 : decode cX9_settles 51 = .ok (.getfield 108, 3) := by decide +kernel
theorem dX9_settles_54 : decode cX9_settles 54 = .ok (.if_icmp .ge 12, 3) := by decide +kernel
theorem dX9_settles_57 : decode cX9_settles 57 = .ok (.aload_n 0, 1) := by decide +kernel
theorem dX9_settles_58 : decode cX9_settles 58 = .ok (.getfield 20, 3) := by decide +kernel
theorem dX9_settles_61 : decode cX9_settles 61 = .ok (.iload_n 1, 1) := by decide +kernel
theorem dX9_settles_62 : decode cX9_settles 62 = .ok (.iaload, 1) := by decide +kernel
theorem dX9_settles_63 : decode cX9_settles 63 = .ok (.goto 4, 3) := by decide +kernel
theorem dX9_settles_66 : decode cX9_settles 66 = .ok (.iconst 0, 1) := by decide +kernel
theorem dX9_settles_67 : decode cX9_settles 67 = .ok (.iastore, 1) := by decide +kernel
theorem dX9_settles_68 : decode cX9_settles 68 = .ok (.aload_n 0, 1) := by decide +kernel
theorem dX9_settles_69 : decode cX9_settles 69 = .ok (.getfield 29, 3) := by decide +kernel
theorem dX9_settles_72 : decode cX9_settles 72 = .ok (.bipush 6, 2) := by decide +kernel
theorem dX9_settles_74 : decode cX9_settles 74 = .ok (.iload_n 1, 1) := by decide +kernel
theorem dX9_settles_75 : decode cX9_settles 75 = .ok (.iadd, 1) := by decide +kernel
theorem dX9_settles_76 : decode cX9_settles 76 = .ok (.iload_n 1, 1) := by decide +kernel
theorem dX9_settles_77 : decode cX9_settles 77 = .ok (.aload_n 0, 1) := by decide +kernel
theorem dX9_settles_78 : decode cX9_settles 78 = .ok (.getfield 108, 3) := by decide +kernel
theorem dX9_settles_81 : decode cX9_settles 81 = .ok (.if_icmp .ge 12, 3) := by decide +kernel
theorem dX9_settles_84 : decode cX9_settles 84 = .ok (.aload_n 0, 1) := by decide +kernel
theorem dX9_settles_85 : decode cX9_settles 85 = .ok (.getfield 23, 3) := by decide +kernel
theorem dX9_settles_88 : decode cX9_settles 88 = .ok (.iload_n 1, 1) := by decide +kernel
theorem dX9_settles_89 : decode cX9_settles 89 = .ok (.iaload, 1) := by decide +kernel
theorem dX9_settles_90 : decode cX9_settles 90 = .ok (.goto 4, 3) := by decide +kernel
theorem dX9_settles_93 : decode cX9_settles 93 = .ok (.iconst 0, 1) := by decide +kernel
theorem dX9_settles_94 : decode cX9_settles 94 = .ok (.iastore, 1) := by decide +kernel
theorem dX9_settles_95 : decode cX9_settles 95 = .ok (.iinc 1 1, 3) := by decide +kernel
theorem dX9_settles_98 : decode cX9_settles 98 = .ok (.goto (-72), 3) := by decide +kernel
theorem dX9_settles_101 : decode cX9_settles 101 = .ok (.aload_n 0, 1) := by decide +kernel
theorem dX9_settles_102 : decode cX9_settles 102 = .ok (.getfield 29, 3) := by decide +kernel
theorem dX9_settles_105 : decode cX9_settles 105 = .ok (.bipush 12, 2) := by decide +kernel
theorem dX9_settles_107 : decode cX9_settles 107 = .ok (.iconst 1, 1) := by decide +kernel
theorem dX9_settles_108 : decode cX9_settles 108 = .ok (.aload_n 0, 1) := by decide +kernel
theorem dX9_settles_109 : decode cX9_settles 109 = .ok (.getfield 108, 3) := by decide +kernel
theorem dX9_settles_112 : decode cX9_settles 112 = .ok (.ishl, 1) := by decide +kernel
theorem dX9_settles_113 : decode cX9_settles 113 = .ok (.iconst 1, 1) := by decide +kernel
theorem dX9_settles_114 : decode cX9_settles 114 = .ok (.isub, 1) := by decide +kernel
theorem dX9_settles_115 : decode cX9_settles 115 = .ok (.iastore, 1) := by decide +kernel
theorem dX9_settles_116 : decode cX9_settles 116 = .ok (.aload_n 0, 1) := by decide +kernel
theorem dX9_settles_117 : decode cX9_settles 117 = .ok (.getfield 29, 3) := by decide +kernel
theorem dX9_settles_120 : decode cX9_settles 120 = .ok (.bipush 13, 2) := by decide +kernel
theorem dX9_settles_122 : decode cX9_settles 122 = .ok (.iconst 0, 1) := by decide +kernel
theorem dX9_settles_123 : decode cX9_settles 123 = .ok (.iastore, 1) := by decide +kernel
theorem dX9_settles_124 : decode cX9_settles 124 = .ok (.aload_n 0, 1) := by decide +kernel
theorem dX9_settles_125 : decode cX9_settles 125 = .ok (.getfield 29, 3) := by decide +kernel
theorem dX9_settles_128 : decode cX9_settles 128 = .ok (.bipush 14, 2) := by decide +kernel
theorem dX9_settles_130 : decode cX9_settles 130 = .ok (.iconst 0, 1) := by decide +kernel
theorem dX9_settles_131 : decode cX9_settles 131 = .ok (.iastore, 1) := by decide +kernel
theorem dX9_settles_132 : decode cX9_settles 132 = .ok (.aload_n 0, 1) := by decide +kernel
theorem dX9_settles_133 : decode cX9_settles 133 = .ok (.iconst 0, 1) := by decide +kernel
theorem dX9_settles_134 : decode cX9_settles 134 = .ok (.putfield 111, 3) := by decide +kernel
theorem dX9_settles_137 : decode cX9_settles 137 = .ok (.aload_n 0, 1) := by decide +kernel
theorem dX9_settles_138 : decode cX9_settles 138 = .ok (.iconst 0, 1) := by decide +kernel
theorem dX9_settles_139 : decode cX9_settles 139 = .ok (.putfield 114, 3) := by decide +kernel
theorem dX9_settles_142 : decode cX9_settles 142 = .ok (.aload_n 0, 1) := by decide +kernel
theorem dX9_settles_143 : decode cX9_settles 143 = .ok (.getfield 32, 3) := by decide +kernel
theorem dX9_settles_146 : decode cX9_settles 146 = .ok (.iconst 0, 1) := by decide +kernel
theorem dX9_settles_147 : decode cX9_settles 147 = .ok (.iconst 0, 1) := by decide +kernel
theorem dX9_settles_148 : decode cX9_settles 148 = .ok (.iastore, 1) := by decide +kernel
theorem dX9_settles_149 : decode cX9_settles 149 = .ok (.aload_n 0, 1) := by decide +kernel
theorem dX9_settles_150 : decode cX9_settles 150 = .ok (.getfield 32, 3) := by decide +kernel
theorem dX9_settles_153 : decode cX9_settles 153 = .ok (.iconst 1, 1) := by decide +kernel
theorem dX9_settles_154 : decode cX9_settles 154 = .ok (.iconst 0, 1) := by decide +kernel
theorem dX9_settles_155 : decode cX9_settles 155 = .ok (.iastore, 1) := by decide +kernel
theorem dX9_settles_156 : decode cX9_settles 156 = .ok (.aload_n 0, 1) := by decide +kernel
theorem dX9_settles_157 : decode cX9_settles 157 = .ok (.iconst 0, 1) := by decide +kernel
theorem dX9_settles_158 : decode cX9_settles 158 = .ok (.putfield 54, 3) := by decide +kernel
theorem dX9_settles_161 : decode cX9_settles 161 = .ok (.return_, 1) := by decide +kernel
theorem dX9_falls_0 : decode cX9_falls 0 = .ok (.aload_n 0, 1) := by decide +kernel
theorem dX9_falls_1 : decode cX9_falls 1 = .ok (.getfield 29, 3) := by decide +kernel
theorem dX9_falls_4 : decode cX9_falls 4 = .ok (.iload_n 1, 1) := by decide +kernel
theorem dX9_falls_5 : decode cX9_falls 5 = .ok (.bipush 6, 2) := by decide +kernel
theorem dX9_falls_7 : decode cX9_falls 7 = .ok (.iadd, 1) := by decide +kernel
theorem dX9_falls_8 : decode cX9_falls 8 = .ok (.iload_n 2, 1) := by decide +kernel
theorem dX9_falls_9 : decode cX9_falls 9 = .ok (.iadd, 1) := by decide +kernel
theorem dX9_falls_10 : decode cX9_falls 10 = .ok (.iconst 0, 1) := by decide +kernel
theorem dX9_falls_11 : decode cX9_falls 11 = .ok (.iastore, 1) := by decide +kernel
theorem dX9_falls_12 : decode cX9_falls 12 = .ok (.aload_n 0, 1) := by decide +kernel
theorem dX9_falls_13 : decode cX9_falls 13 = .ok (.getfield 29, 3) := by decide +kernel
theorem dX9_falls_16 : decode cX9_falls 16 = .ok (.iload_n 1, 1) := by decide +kernel
theorem dX9_falls_17 : decode cX9_falls 17 = .ok (.bipush 12, 2) := by decide +kernel
theorem dX9_falls_19 : decode cX9_falls 19 = .ok (.iadd, 1) := by decide +kernel
theorem dX9_falls_20 : decode cX9_falls 20 = .ok (.dup2, 1) := by decide +kernel
theorem dX9_falls_21 : decode cX9_falls 21 = .ok (.iaload, 1) := by decide +kernel
theorem dX9_falls_22 : decode cX9_falls 22 = .ok (.iconst 1, 1) := by decide +kernel
theorem dX9_falls_23 : decode cX9_falls 23 = .ok (.iload_n 2, 1) := by decide +kernel
theorem dX9_falls_24 : decode cX9_falls 24 = .ok (.ishl, 1) := by decide +kernel
theorem dX9_falls_25 : decode cX9_falls 25 = .ok (.iconst (-1), 1) := by decide +kernel
theorem dX9_falls_26 : decode cX9_falls 26 = .ok (.ixor, 1) := by decide +kernel
theorem dX9_falls_27 : decode cX9_falls 27 = .ok (.iand, 1) := by decide +kernel
theorem dX9_falls_28 : decode cX9_falls 28 = .ok (.iastore, 1) := by decide +kernel
theorem dX9_falls_29 : decode cX9_falls 29 = .ok (.return_, 1) := by decide +kernel
theorem dX9_whoAt_0 : decode cX9_whoAt 0 = .ok (.bipush (-9), 2) := by decide +kernel
theorem dX9_whoAt_2 : decode cX9_whoAt 2 = .ok (.istore 4, 2) := by decide +kernel
theorem dX9_whoAt_4 : decode cX9_whoAt 4 = .ok (.iconst 0, 1) := by decide +kernel
theorem dX9_whoAt_5 : decode cX9_whoAt 5 = .ok (.istore 5, 2) := by decide +kernel
theorem dX9_whoAt_7 : decode cX9_whoAt 7 = .ok (.iload 5, 2) := by decide +kernel
theorem dX9_whoAt_9 : decode cX9_whoAt 9 = .ok (.aload_n 0, 1) := by decide +kernel
theorem dX9_whoAt_10 : decode cX9_whoAt 10 = .ok (.getfield 108, 3) := by decide +kernel
theorem dX9_whoAt_13 : decode cX9_whoAt 13 = .ok (.if_icmp .ge 54, 3) := by decide +kernel
theorem dX9_whoAt_16 : decode cX9_whoAt 16 = .ok (.iload 5, 2) := by decide +kernel
theorem dX9_whoAt_18 : decode cX9_whoAt 18 = .ok (.iload_n 3, 1) := by decide +kernel
theorem dX9_whoAt_19 : decode cX9_whoAt 19 = .ok (.if_icmp .eq 38, 3) := by decide +kernel
theorem dX9_whoAt_22 : decode cX9_whoAt 22 = .ok (.aload_n 0, 1) := by decide +kernel
theorem dX9_whoAt_23 : decode cX9_whoAt 23 = .ok (.getfield 29, 3) := by decide +kernel
theorem dX9_whoAt_26 : decode cX9_whoAt 26 = .ok (.iload_n 1, 1) := by decide +kernel
theorem dX9_whoAt_27 : decode cX9_whoAt 27 = .ok (.bipush 12, 2) := by decide +kernel
theorem dX9_whoAt_29 : decode cX9_whoAt 29 = .ok (.iadd, 1) := by decide +kernel
theorem dX9_whoAt_30 : decode cX9_whoAt 30 = .ok (.iaload, 1) := by decide +kernel
theorem dX9_whoAt_31 : decode cX9_whoAt 31 = .ok (.iload 5, 2) := by decide +kernel
theorem dX9_whoAt_33 : decode cX9_whoAt 33 = .ok (.invokestatic 117, 3) := by decide +kernel
theorem dX9_whoAt_36 : decode cX9_whoAt 36 = .ok (.ifCond .eq 21, 3) := by decide +kernel
theorem dX9_whoAt_39 : decode cX9_whoAt 39 = .ok (.aload_n 0, 1) := by decide +kernel
theorem dX9_whoAt_40 : decode cX9_whoAt 40 = .ok (.getfield 29, 3) := by decide +kernel
theorem dX9_whoAt_43 : decode cX9_whoAt 43 = .ok (.iload_n 1, 1) := by decide +kernel
theorem dX9_whoAt_44 : decode cX9_whoAt 44 = .ok (.iload 5, 2) := by decide +kernel
theorem dX9_whoAt_46 : decode cX9_whoAt 46 = .ok (.iadd, 1) := by decide +kernel
theorem dX9_whoAt_47 : decode cX9_whoAt 47 = .ok (.iaload, 1) := by decide +kernel
theorem dX9_whoAt_48 : decode cX9_whoAt 48 = .ok (.iload_n 2, 1) := by decide +kernel
theorem dX9_whoAt_49 : decode cX9_whoAt 49 = .ok (.if_icmp .ne 8, 3) := by decide +kernel
theorem dX9_whoAt_52 : decode cX9_whoAt 52 = .ok (.iload 5, 2) := by decide +kernel
theorem dX9_whoAt_54 : decode cX9_whoAt 54 = .ok (.goto 5, 3) := by decide +kernel
theorem dX9_whoAt_57 : decode cX9_whoAt 57 = .ok (.iload 4, 2) := by decide +kernel
theorem dX9_whoAt_59 : decode cX9_whoAt 59 = .ok (.istore 4, 2) := by decide +kernel
theorem dX9_whoAt_61 : decode cX9_whoAt 61 = .ok (.iinc 5 1, 3) := by decide +kernel
theorem dX9_whoAt_64 : decode cX9_whoAt 64 = .ok (.goto (-57), 3) := by decide +kernel
theorem dX9_whoAt_67 : decode cX9_whoAt 67 = .ok (.iload 4, 2) := by decide +kernel
theorem dX9_whoAt_69 : decode cX9_whoAt 69 = .ok (.ireturn, 1) := by decide +kernel
theorem dX9_wanders_0 : decode cX9_wanders 0 = .ok (.aload_n 0, 1) := by decide +kernel
theorem dX9_wanders_1 : decode cX9_wanders 1 = .ok (.getfield 29, 3) := by decide +kernel
theorem dX9_wanders_4 : decode cX9_wanders 4 = .ok (.iload_n 1, 1) := by decide +kernel
theorem dX9_wanders_5 : decode cX9_wanders 5 = .ok (.iload_n 2, 1) := by decide +kernel
theorem dX9_wanders_6 : decode cX9_wanders 6 = .ok (.iadd, 1) := by decide +kernel
theorem dX9_wanders_7 : decode cX9_wanders 7 = .ok (.iaload, 1) := by decide +kernel
theorem dX9_wanders_8 : decode cX9_wanders 8 = .ok (.aload_n 0, 1) := by decide +kernel
theorem dX9_wanders_9 : decode cX9_wanders 9 = .ok (.getfield 29, 3) := by decide +kernel
theorem dX9_wanders_12 : decode cX9_wanders 12 = .ok (.iload_n 1, 1) := by decide +kernel
theorem dX9_wanders_13 : decode cX9_wanders 13 = .ok (.bipush 14, 2) := by decide +kernel
theorem dX9_wanders_15 : decode cX9_wanders 15 = .ok (.iadd, 1) := by decide +kernel
theorem dX9_wanders_16 : decode cX9_wanders 16 = .ok (.iaload, 1) := by decide +kernel
theorem dX9_wanders_17 : decode cX9_wanders 17 = .ok (.iconst 1, 1) := by decide +kernel
theorem dX9_wanders_18 : decode cX9_wanders 18 = .ok (.if_icmp .ne 7, 3) := by decide +kernel
theorem dX9_wanders_21 : decode cX9_wanders 21 = .ok (.iconst 1, 1) := by decide +kernel
theorem dX9_wanders_22 : decode cX9_wanders 22 = .ok (.goto 9, 3) := by decide +kernel
theorem dX9_wanders_25 : decode cX9_wanders 25 = .ok (.aload_n 0, 1) := by decide +kernel
theorem dX9_wanders_26 : decode cX9_wanders 26 = .ok (.getfield 7, 3) := by decide +kernel
theorem dX9_wanders_29 : decode cX9_wanders 29 = .ok (.iconst 1, 1) := by decide +kernel
theorem dX9_wanders_30 : decode cX9_wanders 30 = .ok (.isub, 1) := by decide +kernel
theorem dX9_wanders_31 : decode cX9_wanders 31 = .ok (.iadd, 1) := by decide +kernel
theorem dX9_wanders_32 : decode cX9_wanders 32 = .ok (.aload_n 0, 1) := by decide +kernel
theorem dX9_wanders_33 : decode cX9_wanders 33 = .ok (.getfield 7, 3) := by decide +kernel
theorem dX9_wanders_36 : decode cX9_wanders 36 = .ok (.irem, 1) := by decide +kernel
theorem dX9_wanders_37 : decode cX9_wanders 37 = .ok (.istore_n 3, 1) := by decide +kernel
theorem dX9_wanders_38 : decode cX9_wanders 38 = .ok (.aload_n 0, 1) := by decide +kernel
theorem dX9_wanders_39 : decode cX9_wanders 39 = .ok (.iload_n 1, 1) := by decide +kernel
theorem dX9_wanders_40 : decode cX9_wanders 40 = .ok (.iload_n 3, 1) := by decide +kernel
theorem dX9_wanders_41 : decode cX9_wanders 41 = .ok (.iload_n 2, 1) := by decide +kernel
theorem dX9_wanders_42 : decode cX9_wanders 42 = .ok (.invokevirtual 121, 3) := by decide +kernel
theorem dX9_wanders_45 : decode cX9_wanders 45 = .ok (.istore 4, 2) := by decide +kernel
theorem dX9_wanders_47 : decode cX9_wanders 47 = .ok (.iload 4, 2) := by decide +kernel
theorem dX9_wanders_49 : decode cX9_wanders 49 = .ok (.ifCond .lt 103, 3) := by decide +kernel
theorem dX9_wanders_52 : decode cX9_wanders 52 = .ok (.aload_n 0, 1) := by decide +kernel
theorem dX9_wanders_53 : decode cX9_wanders 53 = .ok (.getfield 29, 3) := by decide +kernel
theorem dX9_wanders_56 : decode cX9_wanders 56 = .ok (.iload_n 1, 1) := by decide +kernel
theorem dX9_wanders_57 : decode cX9_wanders 57 = .ok (.bipush 6, 2) := by decide +kernel
theorem dX9_wanders_59 : decode cX9_wanders 59 = .ok (.iadd, 1) := by decide +kernel
theorem dX9_wanders_60 : decode cX9_wanders 60 = .ok (.iload_n 2, 1) := by decide +kernel
theorem dX9_wanders_61 : decode cX9_wanders 61 = .ok (.iadd, 1) := by decide +kernel
theorem dX9_wanders_62 : decode cX9_wanders 62 = .ok (.iaload, 1) := by decide +kernel
theorem dX9_wanders_63 : decode cX9_wanders 63 = .ok (.aload_n 0, 1) := by decide +kernel
theorem dX9_wanders_64 : decode cX9_wanders 64 = .ok (.getfield 29, 3) := by decide +kernel
theorem dX9_wanders_67 : decode cX9_wanders 67 = .ok (.iload_n 1, 1) := by decide +kernel
theorem dX9_wanders_68 : decode cX9_wanders 68 = .ok (.bipush 6, 2) := by decide +kernel
theorem dX9_wanders_70 : decode cX9_wanders 70 = .ok (.iadd, 1) := by decide +kernel
theorem dX9_wanders_71 : decode cX9_wanders 71 = .ok (.iload 4, 2) := by decide +kernel
theorem dX9_wanders_73 : decode cX9_wanders 73 = .ok (.iadd, 1) := by decide +kernel
theorem dX9_wanders_74 : decode cX9_wanders 74 = .ok (.iaload, 1) := by decide +kernel
theorem dX9_wanders_75 : decode cX9_wanders 75 = .ok (.if_icmp .gt 7, 3) := by decide +kernel
theorem dX9_wanders_78 : decode cX9_wanders 78 = .ok (.iconst 1, 1) := by decide +kernel
theorem dX9_wanders_79 : decode cX9_wanders 79 = .ok (.goto 4, 3) := by decide +kernel
theorem dX9_wanders_82 : decode cX9_wanders 82 = .ok (.iconst 0, 1) := by decide +kernel
theorem dX9_wanders_83 : decode cX9_wanders 83 = .ok (.istore 5, 2) := by decide +kernel
theorem dX9_wanders_85 : decode cX9_wanders 85 = .ok (.iload 5, 2) := by decide +kernel
theorem dX9_wanders_87 : decode cX9_wanders 87 = .ok (.ifCond .eq 8, 3) := by decide +kernel
theorem dX9_wanders_90 : decode cX9_wanders 90 = .ok (.iload 4, 2) := by decide +kernel
theorem dX9_wanders_92 : decode cX9_wanders 92 = .ok (.goto 4, 3) := by decide +kernel
theorem dX9_wanders_95 : decode cX9_wanders 95 = .ok (.iload_n 2, 1) := by decide +kernel
theorem dX9_wanders_96 : decode cX9_wanders 96 = .ok (.istore 6, 2) := by decide +kernel
theorem dX9_wanders_98 : decode cX9_wanders 98 = .ok (.aload_n 0, 1) := by decide +kernel
theorem dX9_wanders_99 : decode cX9_wanders 99 = .ok (.iload_n 1, 1) := by decide +kernel
theorem dX9_wanders_100 : decode cX9_wanders 100 = .ok (.iload 5, 2) := by decide +kernel
theorem dX9_wanders_102 : decode cX9_wanders 102 = .ok (.ifCond .eq 7, 3) := by decide +kernel
theorem dX9_wanders_105 : decode cX9_wanders 105 = .ok (.iload_n 2, 1) := by decide +kernel
theorem dX9_wanders_106 : decode cX9_wanders 106 = .ok (.goto 5, 3) := by decide +kernel
theorem dX9_wanders_109 : decode cX9_wanders 109 = .ok (.iload 4, 2) := by decide +kernel
theorem dX9_wanders_111 : decode cX9_wanders 111 = .ok (.invokevirtual 125, 3) := by decide +kernel
theorem dX9_wanders_114 : decode cX9_wanders 114 = .ok (.aload_n 0, 1) := by decide +kernel
theorem dX9_wanders_115 : decode cX9_wanders 115 = .ok (.getfield 29, 3) := by decide +kernel
theorem dX9_wanders_118 : decode cX9_wanders 118 = .ok (.iload_n 1, 1) := by decide +kernel
theorem dX9_wanders_119 : decode cX9_wanders 119 = .ok (.bipush 6, 2) := by decide +kernel
theorem dX9_wanders_121 : decode cX9_wanders 121 = .ok (.iadd, 1) := by decide +kernel
theorem dX9_wanders_122 : decode cX9_wanders 122 = .ok (.iload 6, 2) := by decide +kernel
theorem dX9_wanders_124 : decode cX9_wanders 124 = .ok (.iadd, 1) := by decide +kernel
theorem dX9_wanders_125 : decode cX9_wanders 125 = .ok (.dup2, 1) := by decide +kernel
theorem dX9_wanders_126 : decode cX9_wanders 126 = .ok (.iaload, 1) := by decide +kernel
theorem dX9_wanders_127 : decode cX9_wanders 127 = .ok (.iconst 5, 1) := by decide +kernel
theorem dX9_wanders_128 : decode cX9_wanders 128 = .ok (.isub, 1) := by decide +kernel
theorem dX9_wanders_129 : decode cX9_wanders 129 = .ok (.iastore, 1) := by decide +kernel
theorem dX9_wanders_130 : decode cX9_wanders 130 = .ok (.aload_n 0, 1) := by decide +kernel
theorem dX9_wanders_131 : decode cX9_wanders 131 = .ok (.getfield 29, 3) := by decide +kernel
theorem dX9_wanders_134 : decode cX9_wanders 134 = .ok (.iload_n 1, 1) := by decide +kernel
theorem dX9_wanders_135 : decode cX9_wanders 135 = .ok (.bipush 6, 2) := by decide +kernel
theorem dX9_wanders_137 : decode cX9_wanders 137 = .ok (.iadd, 1) := by decide +kernel
theorem dX9_wanders_138 : decode cX9_wanders 138 = .ok (.iload 6, 2) := by decide +kernel
theorem dX9_wanders_140 : decode cX9_wanders 140 = .ok (.iadd, 1) := by decide +kernel
theorem dX9_wanders_141 : decode cX9_wanders 141 = .ok (.iaload, 1) := by decide +kernel
theorem dX9_wanders_142 : decode cX9_wanders 142 = .ok (.ifCond .gt 10, 3) := by decide +kernel
theorem dX9_wanders_145 : decode cX9_wanders 145 = .ok (.aload_n 0, 1) := by decide +kernel
theorem dX9_wanders_146 : decode cX9_wanders 146 = .ok (.iload_n 1, 1) := by decide +kernel
theorem dX9_wanders_147 : decode cX9_wanders 147 = .ok (.iload 6, 2) := by decide +kernel
theorem dX9_wanders_149 : decode cX9_wanders 149 = .ok (.invokevirtual 125, 3) := by decide +kernel
theorem dX9_wanders_152 : decode cX9_wanders 152 = .ok (.aload_n 0, 1) := by decide +kernel
theorem dX9_wanders_153 : decode cX9_wanders 153 = .ok (.getfield 29, 3) := by decide +kernel
theorem dX9_wanders_156 : decode cX9_wanders 156 = .ok (.iload_n 1, 1) := by decide +kernel
theorem dX9_wanders_157 : decode cX9_wanders 157 = .ok (.iload_n 2, 1) := by decide +kernel
theorem dX9_wanders_158 : decode cX9_wanders 158 = .ok (.iadd, 1) := by decide +kernel
theorem dX9_wanders_159 : decode cX9_wanders 159 = .ok (.iload_n 3, 1) := by decide +kernel
theorem dX9_wanders_160 : decode cX9_wanders 160 = .ok (.iastore, 1) := by decide +kernel
theorem dX9_wanders_161 : decode cX9_wanders 161 = .ok (.return_, 1) := by decide +kernel
theorem dX9_beat_0 : decode cX9_beat 0 = .ok (.iconst 0, 1) := by decide +kernel
theorem dX9_beat_1 : decode cX9_beat 1 = .ok (.istore_n 2, 1) := by decide +kernel
theorem dX9_beat_2 : decode cX9_beat 2 = .ok (.iload_n 2, 1) := by decide +kernel
theorem dX9_beat_3 : decode cX9_beat 3 = .ok (.aload_n 0, 1) := by decide +kernel
theorem dX9_beat_4 : decode cX9_beat 4 = .ok (.getfield 108, 3) := by decide +kernel
theorem dX9_beat_7 : decode cX9_beat 7 = .ok (.if_icmp .ge 65, 3) := by decide +kernel
theorem dX9_beat_10 : decode cX9_beat 10 = .ok (.aload_n 0, 1) := by decide +kernel
theorem dX9_beat_11 : decode cX9_beat 11 = .ok (.getfield 29, 3) := by decide +kernel
theorem dX9_beat_14 : decode cX9_beat 14 = .ok (.iload_n 1, 1) := by decide +kernel
theorem dX9_beat_15 : decode cX9_beat 15 = .ok (.bipush 12, 2) := by decide +kernel
theorem dX9_beat_17 : decode cX9_beat 17 = .ok (.iadd, 1) := by decide +kernel
theorem dX9_beat_18 : decode cX9_beat 18 = .ok (.iaload, 1) := by decide +kernel
theorem dX9_beat_19 : decode cX9_beat 19 = .ok (.iload_n 2, 1) := by decide +kernel
theorem dX9_beat_20 : decode cX9_beat 20 = .ok (.invokestatic 117, 3) := by decide +kernel
theorem dX9_beat_23 : decode cX9_beat 23 = .ok (.ifCond .eq 43, 3) := by decide +kernel
theorem dX9_beat_26 : decode cX9_beat 26 = .ok (.aload_n 0, 1) := by decide +kernel
theorem dX9_beat_27 : decode cX9_beat 27 = .ok (.getfield 29, 3) := by decide +kernel
theorem dX9_beat_30 : decode cX9_beat 30 = .ok (.iload_n 1, 1) := by decide +kernel
theorem dX9_beat_31 : decode cX9_beat 31 = .ok (.bipush 6, 2) := by decide +kernel
theorem dX9_beat_33 : decode cX9_beat 33 = .ok (.iadd, 1) := by decide +kernel
theorem dX9_beat_34 : decode cX9_beat 34 = .ok (.iload_n 2, 1) := by decide +kernel
theorem dX9_beat_35 : decode cX9_beat 35 = .ok (.iadd, 1) := by decide +kernel
theorem dX9_beat_36 : decode cX9_beat 36 = .ok (.dup2, 1) := by decide +kernel
theorem dX9_beat_37 : decode cX9_beat 37 = .ok (.iaload, 1) := by decide +kernel
theorem dX9_beat_38 : decode cX9_beat 38 = .ok (.aload_n 0, 1) := by decide +kernel
theorem dX9_beat_39 : decode cX9_beat 39 = .ok (.getfield 16, 3) := by decide +kernel
theorem dX9_beat_42 : decode cX9_beat 42 = .ok (.iload_n 2, 1) := by decide +kernel
theorem dX9_beat_43 : decode cX9_beat 43 = .ok (.iaload, 1) := by decide +kernel
theorem dX9_beat_44 : decode cX9_beat 44 = .ok (.isub, 1) := by decide +kernel
theorem dX9_beat_45 : decode cX9_beat 45 = .ok (.iastore, 1) := by decide +kernel
theorem dX9_beat_46 : decode cX9_beat 46 = .ok (.aload_n 0, 1) := by decide +kernel
theorem dX9_beat_47 : decode cX9_beat 47 = .ok (.getfield 29, 3) := by decide +kernel
theorem dX9_beat_50 : decode cX9_beat 50 = .ok (.iload_n 1, 1) := by decide +kernel
theorem dX9_beat_51 : decode cX9_beat 51 = .ok (.bipush 6, 2) := by decide +kernel
theorem dX9_beat_53 : decode cX9_beat 53 = .ok (.iadd, 1) := by decide +kernel
theorem dX9_beat_54 : decode cX9_beat 54 = .ok (.iload_n 2, 1) := by decide +kernel
theorem dX9_beat_55 : decode cX9_beat 55 = .ok (.iadd, 1) := by decide +kernel
theorem dX9_beat_56 : decode cX9_beat 56 = .ok (.iaload, 1) := by decide +kernel
theorem dX9_beat_57 : decode cX9_beat 57 = .ok (.ifCond .gt 9, 3) := by decide +kernel
theorem dX9_beat_60 : decode cX9_beat 60 = .ok (.aload_n 0, 1) := by decide +kernel
theorem dX9_beat_61 : decode cX9_beat 61 = .ok (.iload_n 1, 1) := by decide +kernel
theorem dX9_beat_62 : decode cX9_beat 62 = .ok (.iload_n 2, 1) := by decide +kernel
theorem dX9_beat_63 : decode cX9_beat 63 = .ok (.invokevirtual 125, 3) := by decide +kernel
theorem dX9_beat_66 : decode cX9_beat 66 = .ok (.iinc 2 1, 3) := by decide +kernel
theorem dX9_beat_69 : decode cX9_beat 69 = .ok (.goto (-67), 3) := by decide +kernel
theorem dX9_beat_72 : decode cX9_beat 72 = .ok (.iconst 0, 1) := by decide +kernel
theorem dX9_beat_73 : decode cX9_beat 73 = .ok (.istore_n 2, 1) := by decide +kernel
theorem dX9_beat_74 : decode cX9_beat 74 = .ok (.iload_n 2, 1) := by decide +kernel
theorem dX9_beat_75 : decode cX9_beat 75 = .ok (.aload_n 0, 1) := by decide +kernel
theorem dX9_beat_76 : decode cX9_beat 76 = .ok (.getfield 108, 3) := by decide +kernel
theorem dX9_beat_79 : decode cX9_beat 79 = .ok (.if_icmp .ge 61, 3) := by decide +kernel
theorem dX9_beat_82 : decode cX9_beat 82 = .ok (.aload_n 0, 1) := by decide +kernel
theorem dX9_beat_83 : decode cX9_beat 83 = .ok (.getfield 29, 3) := by decide +kernel
theorem dX9_beat_86 : decode cX9_beat 86 = .ok (.iload_n 1, 1) := by decide +kernel
theorem dX9_beat_87 : decode cX9_beat 87 = .ok (.bipush 14, 2) := by decide +kernel
theorem dX9_beat_89 : decode cX9_beat 89 = .ok (.iadd, 1) := by decide +kernel
theorem dX9_beat_90 : decode cX9_beat 90 = .ok (.iaload, 1) := by decide +kernel
theorem dX9_beat_91 : decode cX9_beat 91 = .ok (.ifCond .eq 49, 3) := by decide +kernel
theorem dX9_beat_94 : decode cX9_beat 94 = .ok (.aload_n 0, 1) := by decide +kernel
theorem dX9_beat_95 : decode cX9_beat 95 = .ok (.getfield 29, 3) := by decide +kernel
theorem dX9_beat_98 : decode cX9_beat 98 = .ok (.iload_n 1, 1) := by decide +kernel
theorem dX9_beat_99 : decode cX9_beat 99 = .ok (.bipush 12, 2) := by decide +kernel
theorem dX9_beat_101 : decode cX9_beat 101 = .ok (.iadd, 1) := by decide +kernel
theorem dX9_beat_102 : decode cX9_beat 102 = .ok (.iaload, 1) := by decide +kernel
theorem dX9_beat_103 : decode cX9_beat 103 = .ok (.iload_n 2, 1) := by decide +kernel
theorem dX9_beat_104 : decode cX9_beat 104 = .ok (.invokestatic 117, 3) := by decide +kernel
theorem dX9_beat_107 : decode cX9_beat 107 = .ok (.ifCond .eq 27, 3) := by decide +kernel
theorem dX9_beat_110 : decode cX9_beat 110 = .ok (.aload_n 0, 1) := by decide +kernel
theorem dX9_beat_111 : decode cX9_beat 111 = .ok (.getfield 29, 3) := by decide +kernel
theorem dX9_beat_114 : decode cX9_beat 114 = .ok (.iload_n 1, 1) := by decide +kernel
theorem dX9_beat_115 : decode cX9_beat 115 = .ok (.bipush 6, 2) := by decide +kernel
theorem dX9_beat_117 : decode cX9_beat 117 = .ok (.iadd, 1) := by decide +kernel
theorem dX9_beat_118 : decode cX9_beat 118 = .ok (.iload_n 2, 1) := by decide +kernel
theorem dX9_beat_119 : decode cX9_beat 119 = .ok (.iadd, 1) := by decide +kernel
theorem dX9_beat_120 : decode cX9_beat 120 = .ok (.iaload, 1) := by decide +kernel
theorem dX9_beat_121 : decode cX9_beat 121 = .ok (.aload_n 0, 1) := by decide +kernel
theorem dX9_beat_122 : decode cX9_beat 122 = .ok (.getfield 13, 3) := by decide +kernel
theorem dX9_beat_125 : decode cX9_beat 125 = .ok (.if_icmp .gt 9, 3) := by decide +kernel
theorem dX9_beat_128 : decode cX9_beat 128 = .ok (.aload_n 0, 1) := by decide +kernel
theorem dX9_beat_129 : decode cX9_beat 129 = .ok (.iload_n 1, 1) := by decide +kernel
theorem dX9_beat_130 : decode cX9_beat 130 = .ok (.iload_n 2, 1) := by decide +kernel
theorem dX9_beat_131 : decode cX9_beat 131 = .ok (.invokevirtual 128, 3) := by decide +kernel
theorem dX9_beat_134 : decode cX9_beat 134 = .ok (.iinc 2 1, 3) := by decide +kernel
theorem dX9_beat_137 : decode cX9_beat 137 = .ok (.goto (-63), 3) := by decide +kernel
theorem dX9_beat_140 : decode cX9_beat 140 = .ok (.aload_n 0, 1) := by decide +kernel
theorem dX9_beat_141 : decode cX9_beat 141 = .ok (.getfield 29, 3) := by decide +kernel
theorem dX9_beat_144 : decode cX9_beat 144 = .ok (.iload_n 1, 1) := by decide +kernel
theorem dX9_beat_145 : decode cX9_beat 145 = .ok (.bipush 13, 2) := by decide +kernel
theorem dX9_beat_147 : decode cX9_beat 147 = .ok (.iadd, 1) := by decide +kernel
theorem dX9_beat_148 : decode cX9_beat 148 = .ok (.dup2, 1) := by decide +kernel
theorem dX9_beat_149 : decode cX9_beat 149 = .ok (.iaload, 1) := by decide +kernel
theorem dX9_beat_150 : decode cX9_beat 150 = .ok (.iconst 1, 1) := by decide +kernel
theorem dX9_beat_151 : decode cX9_beat 151 = .ok (.iadd, 1) := by decide +kernel
theorem dX9_beat_152 : decode cX9_beat 152 = .ok (.iastore, 1) := by decide +kernel
theorem dX9_beat_153 : decode cX9_beat 153 = .ok (.return_, 1) := by decide +kernel
theorem dX9_copies_0 : decode cX9_copies 0 = .ok (.iconst 0, 1) := by decide +kernel
theorem dX9_copies_1 : decode cX9_copies 1 = .ok (.istore_n 3, 1) := by decide +kernel
theorem dX9_copies_2 : decode cX9_copies 2 = .ok (.iload_n 3, 1) := by decide +kernel
theorem dX9_copies_3 : decode cX9_copies 3 = .ok (.bipush 15, 2) := by decide +kernel
theorem dX9_copies_5 : decode cX9_copies 5 = .ok (.if_icmp .ge 25, 3) := by decide +kernel
theorem dX9_copies_8 : decode cX9_copies 8 = .ok (.aload_n 0, 1) := by decide +kernel
theorem dX9_copies_9 : decode cX9_copies 9 = .ok (.getfield 29, 3) := by decide +kernel
theorem dX9_copies_12 : decode cX9_copies 12 = .ok (.iload_n 2, 1) := by decide +kernel
theorem dX9_copies_13 : decode cX9_copies 13 = .ok (.iload_n 3, 1) := by decide +kernel
theorem dX9_copies_14 : decode cX9_copies 14 = .ok (.iadd, 1) := by decide +kernel
theorem dX9_copies_15 : decode cX9_copies 15 = .ok (.aload_n 0, 1) := by decide +kernel
theorem dX9_copies_16 : decode cX9_copies 16 = .ok (.getfield 29, 3) := by decide +kernel
theorem dX9_copies_19 : decode cX9_copies 19 = .ok (.iload_n 1, 1) := by decide +kernel
theorem dX9_copies_20 : decode cX9_copies 20 = .ok (.iload_n 3, 1) := by decide +kernel
theorem dX9_copies_21 : decode cX9_copies 21 = .ok (.iadd, 1) := by decide +kernel
theorem dX9_copies_22 : decode cX9_copies 22 = .ok (.iaload, 1) := by decide +kernel
theorem dX9_copies_23 : decode cX9_copies 23 = .ok (.iastore, 1) := by decide +kernel
theorem dX9_copies_24 : decode cX9_copies 24 = .ok (.iinc 3 1, 3) := by decide +kernel
theorem dX9_copies_27 : decode cX9_copies 27 = .ok (.goto (-25), 3) := by decide +kernel
theorem dX9_copies_30 : decode cX9_copies 30 = .ok (.return_, 1) := by decide +kernel
theorem dX9_known_0 : decode cX9_known 0 = .ok (.aload_n 0, 1) := by decide +kernel
theorem dX9_known_1 : decode cX9_known 1 = .ok (.getfield 111, 3) := by decide +kernel
theorem dX9_known_4 : decode cX9_known 4 = .ok (.bipush 10, 2) := by decide +kernel
theorem dX9_known_6 : decode cX9_known 6 = .ok (.if_icmp .ne 40, 3) := by decide +kernel
theorem dX9_known_9 : decode cX9_known 9 = .ok (.bipush 15, 2) := by decide +kernel
theorem dX9_known_11 : decode cX9_known 11 = .ok (.istore_n 1, 1) := by decide +kernel
theorem dX9_known_12 : decode cX9_known 12 = .ok (.iload_n 1, 1) := by decide +kernel
theorem dX9_known_13 : decode cX9_known 13 = .ok (.sipush 150, 3) := by decide +kernel
theorem dX9_known_16 : decode cX9_known 16 = .ok (.if_icmp .ge 24, 3) := by decide +kernel
theorem dX9_known_19 : decode cX9_known 19 = .ok (.aload_n 0, 1) := by decide +kernel
theorem dX9_known_20 : decode cX9_known 20 = .ok (.getfield 29, 3) := by decide +kernel
theorem dX9_known_23 : decode cX9_known 23 = .ok (.iload_n 1, 1) := by decide +kernel
theorem dX9_known_24 : decode cX9_known 24 = .ok (.aload_n 0, 1) := by decide +kernel
theorem dX9_known_25 : decode cX9_known 25 = .ok (.getfield 29, 3) := by decide +kernel
theorem dX9_known_28 : decode cX9_known 28 = .ok (.iload_n 1, 1) := by decide +kernel
theorem dX9_known_29 : decode cX9_known 29 = .ok (.bipush 15, 2) := by decide +kernel
theorem dX9_known_31 : decode cX9_known 31 = .ok (.iadd, 1) := by decide +kernel
theorem dX9_known_32 : decode cX9_known 32 = .ok (.iaload, 1) := by decide +kernel
theorem dX9_known_33 : decode cX9_known 33 = .ok (.iastore, 1) := by decide +kernel
theorem dX9_known_34 : decode cX9_known 34 = .ok (.iinc 1 1, 3) := by decide +kernel
theorem dX9_known_37 : decode cX9_known 37 = .ok (.goto (-25), 3) := by decide +kernel
theorem dX9_known_40 : decode cX9_known 40 = .ok (.aload_n 0, 1) := by decide +kernel
theorem dX9_known_41 : decode cX9_known 41 = .ok (.bipush 9, 2) := by decide +kernel
theorem dX9_known_43 : decode cX9_known 43 = .ok (.putfield 111, 3) := by decide +kernel
theorem dX9_known_46 : decode cX9_known 46 = .ok (.aload_n 0, 1) := by decide +kernel
theorem dX9_known_47 : decode cX9_known 47 = .ok (.dup, 1) := by decide +kernel
theorem dX9_known_48 : decode cX9_known 48 = .ok (.getfield 111, 3) := by decide +kernel
theorem dX9_known_51 : decode cX9_known 51 = .ok (.iconst 1, 1) := by decide +kernel
theorem dX9_known_52 : decode cX9_known 52 = .ok (.iadd, 1) := by decide +kernel
theorem dX9_known_53 : decode cX9_known 53 = .ok (.putfield 111, 3) := by decide +kernel
theorem dX9_known_56 : decode cX9_known 56 = .ok (.aload_n 0, 1) := by decide +kernel
theorem dX9_known_57 : decode cX9_known 57 = .ok (.iconst 0, 1) := by decide +kernel
theorem dX9_known_58 : decode cX9_known 58 = .ok (.aload_n 0, 1) := by decide +kernel
theorem dX9_known_59 : decode cX9_known 59 = .ok (.getfield 111, 3) := by decide +kernel
theorem dX9_known_62 : decode cX9_known 62 = .ok (.bipush 15, 2) := by decide +kernel
theorem dX9_known_64 : decode cX9_known 64 = .ok (.imul, 1) := by decide +kernel
theorem dX9_known_65 : decode cX9_known 65 = .ok (.invokevirtual 131, 3) := by decide +kernel
theorem dX9_known_68 : decode cX9_known 68 = .ok (.return_, 1) := by decide +kernel
theorem dX9_isTop_0 : decode cX9_isTop 0 = .ok (.iload_n 1, 1) := by decide +kernel
theorem dX9_isTop_1 : decode cX9_isTop 1 = .ok (.i2l, 1) := by decide +kernel
theorem dX9_isTop_2 : decode cX9_isTop 2 = .ok (.lconst 0, 1) := by decide +kernel
theorem dX9_isTop_3 : decode cX9_isTop 3 = .ok (.aload_n 0, 1) := by decide +kernel
theorem dX9_isTop_4 : decode cX9_isTop 4 = .ok (.getfield 108, 3) := by decide +kernel
theorem dX9_isTop_7 : decode cX9_isTop 7 = .ok (.iconst 1, 1) := by decide +kernel
theorem dX9_isTop_8 : decode cX9_isTop 8 = .ok (.isub, 1) := by decide +kernel
theorem dX9_isTop_9 : decode cX9_isTop 9 = .ok (.i2l, 1) := by decide +kernel
theorem dX9_isTop_10 : decode cX9_isTop 10 = .ok (.invokestatic 50, 3) := by decide +kernel
theorem dX9_isTop_13 : decode cX9_isTop 13 = .ok (.ireturn, 1) := by decide +kernel
theorem dX9_stands_0 : decode cX9_stands 0 = .ok (.aload_n 0, 1) := by decide +kernel
theorem dX9_stands_1 : decode cX9_stands 1 = .ok (.getfield 29, 3) := by decide +kernel
theorem dX9_stands_4 : decode cX9_stands 4 = .ok (.bipush 12, 2) := by decide +kernel
theorem dX9_stands_6 : decode cX9_stands 6 = .ok (.iaload, 1) := by decide +kernel
theorem dX9_stands_7 : decode cX9_stands 7 = .ok (.iload_n 1, 1) := by decide +kernel
theorem dX9_stands_8 : decode cX9_stands 8 = .ok (.invokestatic 117, 3) := by decide +kernel
theorem dX9_stands_11 : decode cX9_stands 11 = .ok (.ireturn, 1) := by decide +kernel
theorem dX9_fallOf_0 : decode cX9_fallOf 0 = .ok (.aload_n 0, 1) := by decide +kernel
theorem dX9_fallOf_1 : decode cX9_fallOf 1 = .ok (.iconst 0, 1) := by decide +kernel
theorem dX9_fallOf_2 : decode cX9_fallOf 2 = .ok (.sipush 195, 3) := by decide +kernel
theorem dX9_fallOf_5 : decode cX9_fallOf 5 = .ok (.invokevirtual 131, 3) := by decide +kernel
theorem dX9_fallOf_8 : decode cX9_fallOf 8 = .ok (.iconst 0, 1) := by decide +kernel
theorem dX9_fallOf_9 : decode cX9_fallOf 9 = .ok (.istore_n 2, 1) := by decide +kernel
theorem dX9_fallOf_10 : decode cX9_fallOf 10 = .ok (.iload_n 2, 1) := by decide +kernel
theorem dX9_fallOf_11 : decode cX9_fallOf 11 = .ok (.bipush 60, 2) := by decide +kernel
theorem dX9_fallOf_13 : decode cX9_fallOf 13 = .ok (.if_icmp .ge 31, 3) := by decide +kernel
theorem dX9_fallOf_16 : decode cX9_fallOf 16 = .ok (.aload_n 0, 1) := by decide +kernel
theorem dX9_fallOf_17 : decode cX9_fallOf 17 = .ok (.getfield 29, 3) := by decide +kernel
theorem dX9_fallOf_20 : decode cX9_fallOf 20 = .ok (.sipush 207, 3) := by decide +kernel
theorem dX9_fallOf_23 : decode cX9_fallOf 23 = .ok (.iaload, 1) := by decide +kernel
theorem dX9_fallOf_24 : decode cX9_fallOf 24 = .ok (.iload_n 1, 1) := by decide +kernel
theorem dX9_fallOf_25 : decode cX9_fallOf 25 = .ok (.invokestatic 117, 3) := by decide +kernel
theorem dX9_fallOf_28 : decode cX9_fallOf 28 = .ok (.ifCond .eq 16, 3) := by decide +kernel
theorem dX9_fallOf_31 : decode cX9_fallOf 31 = .ok (.aload_n 0, 1) := by decide +kernel
theorem dX9_fallOf_32 : decode cX9_fallOf 32 = .ok (.sipush 195, 3) := by decide +kernel
theorem dX9_fallOf_35 : decode cX9_fallOf 35 = .ok (.invokevirtual 134, 3) := by decide +kernel
theorem dX9_fallOf_38 : decode cX9_fallOf 38 = .ok (.iinc 2 1, 3) := by decide +kernel
theorem dX9_fallOf_41 : decode cX9_fallOf 41 = .ok (.goto (-31), 3) := by decide +kernel
theorem dX9_fallOf_44 : decode cX9_fallOf 44 = .ok (.aload_n 0, 1) := by decide +kernel
theorem dX9_fallOf_45 : decode cX9_fallOf 45 = .ok (.getfield 29, 3) := by decide +kernel
theorem dX9_fallOf_48 : decode cX9_fallOf 48 = .ok (.sipush 207, 3) := by decide +kernel
theorem dX9_fallOf_51 : decode cX9_fallOf 51 = .ok (.iaload, 1) := by decide +kernel
theorem dX9_fallOf_52 : decode cX9_fallOf 52 = .ok (.iload_n 1, 1) := by decide +kernel
theorem dX9_fallOf_53 : decode cX9_fallOf 53 = .ok (.invokestatic 117, 3) := by decide +kernel
theorem dX9_fallOf_56 : decode cX9_fallOf 56 = .ok (.ifCond .eq 8, 3) := by decide +kernel
theorem dX9_fallOf_59 : decode cX9_fallOf 59 = .ok (.bipush (-9), 2) := by decide +kernel
theorem dX9_fallOf_61 : decode cX9_fallOf 61 = .ok (.goto 4, 3) := by decide +kernel
theorem dX9_fallOf_64 : decode cX9_fallOf 64 = .ok (.iload_n 2, 1) := by decide +kernel
theorem dX9_fallOf_65 : decode cX9_fallOf 65 = .ok (.ireturn, 1) := by decide +kernel
theorem dX9_last_0 : decode cX9_last 0 = .ok (.bipush (-9), 2) := by decide +kernel
theorem dX9_last_2 : decode cX9_last 2 = .ok (.istore_n 1, 1) := by decide +kernel
theorem dX9_last_3 : decode cX9_last 3 = .ok (.iconst (-1), 1) := by decide +kernel
theorem dX9_last_4 : decode cX9_last 4 = .ok (.istore_n 2, 1) := by decide +kernel
theorem dX9_last_5 : decode cX9_last 5 = .ok (.iconst 0, 1) := by decide +kernel
theorem dX9_last_6 : decode cX9_last 6 = .ok (.istore_n 3, 1) := by decide +kernel
theorem dX9_last_7 : decode cX9_last 7 = .ok (.iload_n 3, 1) := by decide +kernel
theorem dX9_last_8 : decode cX9_last 8 = .ok (.aload_n 0, 1) := by decide +kernel
theorem dX9_last_9 : decode cX9_last 9 = .ok (.getfield 108, 3) := by decide +kernel
theorem dX9_last_12 : decode cX9_last 12 = .ok (.if_icmp .ge 47, 3) := by decide +kernel
theorem dX9_last_15 : decode cX9_last 15 = .ok (.aload_n 0, 1) := by decide +kernel
theorem dX9_last_16 : decode cX9_last 16 = .ok (.iload_n 3, 1) := by decide +kernel
theorem dX9_last_17 : decode cX9_last 17 = .ok (.invokevirtual 138, 3) := by decide +kernel
theorem dX9_last_20 : decode cX9_last 20 = .ok (.ifCond .eq 11, 3) := by decide +kernel
theorem dX9_last_23 : decode cX9_last 23 = .ok (.aload_n 0, 1) := by decide +kernel
theorem dX9_last_24 : decode cX9_last 24 = .ok (.iload_n 3, 1) := by decide +kernel
theorem dX9_last_25 : decode cX9_last 25 = .ok (.invokevirtual 142, 3) := by decide +kernel
theorem dX9_last_28 : decode cX9_last 28 = .ok (.goto 4, 3) := by decide +kernel
theorem dX9_last_31 : decode cX9_last 31 = .ok (.iconst (-1), 1) := by decide +kernel
theorem dX9_last_32 : decode cX9_last 32 = .ok (.istore 4, 2) := by decide +kernel
theorem dX9_last_34 : decode cX9_last 34 = .ok (.iload 4, 2) := by decide +kernel
theorem dX9_last_36 : decode cX9_last 36 = .ok (.iload_n 2, 1) := by decide +kernel
theorem dX9_last_37 : decode cX9_last 37 = .ok (.if_icmp .le 7, 3) := by decide +kernel
theorem dX9_last_40 : decode cX9_last 40 = .ok (.iload_n 3, 1) := by decide +kernel
theorem dX9_last_41 : decode cX9_last 41 = .ok (.goto 4, 3) := by decide +kernel
theorem dX9_last_44 : decode cX9_last 44 = .ok (.iload_n 1, 1) := by decide +kernel
theorem dX9_last_45 : decode cX9_last 45 = .ok (.istore_n 1, 1) := by decide +kernel
theorem dX9_last_46 : decode cX9_last 46 = .ok (.iload_n 2, 1) := by decide +kernel
theorem dX9_last_47 : decode cX9_last 47 = .ok (.iload 4, 2) := by decide +kernel
theorem dX9_last_49 : decode cX9_last 49 = .ok (.invokestatic 145, 3) := by decide +kernel
theorem dX9_last_52 : decode cX9_last 52 = .ok (.istore_n 2, 1) := by decide +kernel
theorem dX9_last_53 : decode cX9_last 53 = .ok (.iinc 3 1, 3) := by decide +kernel
theorem dX9_last_56 : decode cX9_last 56 = .ok (.goto (-49), 3) := by decide +kernel
theorem dX9_last_59 : decode cX9_last 59 = .ok (.iload_n 1, 1) := by decide +kernel
theorem dX9_last_60 : decode cX9_last 60 = .ok (.ireturn, 1) := by decide +kernel
theorem dX9_top_0 : decode cX9_top 0 = .ok (.aload_n 0, 1) := by decide +kernel
theorem dX9_top_1 : decode cX9_top 1 = .ok (.iload_n 1, 1) := by decide +kernel
theorem dX9_top_2 : decode cX9_top 2 = .ok (.invokevirtual 148, 3) := by decide +kernel
theorem dX9_top_5 : decode cX9_top 5 = .ok (.ifCond .eq 15, 3) := by decide +kernel
theorem dX9_top_8 : decode cX9_top 8 = .ok (.iload_n 2, 1) := by decide +kernel
theorem dX9_top_9 : decode cX9_top 9 = .ok (.i2l, 1) := by decide +kernel
theorem dX9_top_10 : decode cX9_top 10 = .ok (.lconst 0, 1) := by decide +kernel
theorem dX9_top_11 : decode cX9_top 11 = .ok (.ldc2_w 151, 3) := by decide +kernel
theorem dX9_top_14 : decode cX9_top 14 = .ok (.invokestatic 50, 3) := by decide +kernel
theorem dX9_top_17 : decode cX9_top 17 = .ok (.ifCond .ne 5, 3) := by decide +kernel
theorem dX9_top_20 : decode cX9_top 20 = .ok (.iconst (-1), 1) := by decide +kernel
theorem dX9_top_21 : decode cX9_top 21 = .ok (.ireturn, 1) := by decide +kernel
theorem dX9_top_22 : decode cX9_top 22 = .ok (.iload_n 2, 1) := by decide +kernel
theorem dX9_top_23 : decode cX9_top 23 = .ok (.ifCond .ne 25, 3) := by decide +kernel
theorem dX9_top_26 : decode cX9_top 26 = .ok (.aload_n 0, 1) := by decide +kernel
theorem dX9_top_27 : decode cX9_top 27 = .ok (.iload_n 1, 1) := by decide +kernel
theorem dX9_top_28 : decode cX9_top 28 = .ok (.invokevirtual 138, 3) := by decide +kernel
theorem dX9_top_31 : decode cX9_top 31 = .ok (.ifCond .eq 12, 3) := by decide +kernel
theorem dX9_top_34 : decode cX9_top 34 = .ok (.aload_n 0, 1) := by decide +kernel
theorem dX9_top_35 : decode cX9_top 35 = .ok (.getfield 29, 3) := by decide +kernel
theorem dX9_top_38 : decode cX9_top 38 = .ok (.iload_n 1, 1) := by decide +kernel
theorem dX9_top_39 : decode cX9_top 39 = .ok (.iaload, 1) := by decide +kernel
theorem dX9_top_40 : decode cX9_top 40 = .ok (.goto 65, 3) := by decide +kernel
theorem dX9_top_43 : decode cX9_top 43 = .ok (.bipush (-9), 2) := by decide +kernel
theorem dX9_top_45 : decode cX9_top 45 = .ok (.goto 60, 3) := by decide +kernel
theorem dX9_top_48 : decode cX9_top 48 = .ok (.iload_n 2, 1) := by decide +kernel
theorem dX9_top_49 : decode cX9_top 49 = .ok (.iconst 1, 1) := by decide +kernel
theorem dX9_top_50 : decode cX9_top 50 = .ok (.if_icmp .ne 15, 3) := by decide +kernel
theorem dX9_top_53 : decode cX9_top 53 = .ok (.aload_n 0, 1) := by decide +kernel
theorem dX9_top_54 : decode cX9_top 54 = .ok (.getfield 29, 3) := by decide +kernel
theorem dX9_top_57 : decode cX9_top 57 = .ok (.bipush 6, 2) := by decide +kernel
theorem dX9_top_59 : decode cX9_top 59 = .ok (.iload_n 1, 1) := by decide +kernel
theorem dX9_top_60 : decode cX9_top 60 = .ok (.iadd, 1) := by decide +kernel
theorem dX9_top_61 : decode cX9_top 61 = .ok (.iaload, 1) := by decide +kernel
theorem dX9_top_62 : decode cX9_top 62 = .ok (.goto 43, 3) := by decide +kernel
theorem dX9_top_65 : decode cX9_top 65 = .ok (.iload_n 2, 1) := by decide +kernel
theorem dX9_top_66 : decode cX9_top 66 = .ok (.iconst 2, 1) := by decide +kernel
theorem dX9_top_67 : decode cX9_top 67 = .ok (.if_icmp .ne 12, 3) := by decide +kernel
theorem dX9_top_70 : decode cX9_top 70 = .ok (.aload_n 0, 1) := by decide +kernel
theorem dX9_top_71 : decode cX9_top 71 = .ok (.getfield 16, 3) := by decide +kernel
theorem dX9_top_74 : decode cX9_top 74 = .ok (.iload_n 1, 1) := by decide +kernel
theorem dX9_top_75 : decode cX9_top 75 = .ok (.iaload, 1) := by decide +kernel
theorem dX9_top_76 : decode cX9_top 76 = .ok (.goto 29, 3) := by decide +kernel
theorem dX9_top_79 : decode cX9_top 79 = .ok (.iload_n 2, 1) := by decide +kernel
theorem dX9_top_80 : decode cX9_top 80 = .ok (.iconst 3, 1) := by decide +kernel
theorem dX9_top_81 : decode cX9_top 81 = .ok (.if_icmp .ne 19, 3) := by decide +kernel
theorem dX9_top_84 : decode cX9_top 84 = .ok (.aload_n 0, 1) := by decide +kernel
theorem dX9_top_85 : decode cX9_top 85 = .ok (.iload_n 1, 1) := by decide +kernel
theorem dX9_top_86 : decode cX9_top 86 = .ok (.invokevirtual 138, 3) := by decide +kernel
theorem dX9_top_89 : decode cX9_top 89 = .ok (.ifCond .eq 7, 3) := by decide +kernel
theorem dX9_top_92 : decode cX9_top 92 = .ok (.iconst 1, 1) := by decide +kernel
theorem dX9_top_93 : decode cX9_top 93 = .ok (.goto 12, 3) := by decide +kernel
theorem dX9_top_96 : decode cX9_top 96 = .ok (.iconst 0, 1) := by decide +kernel
theorem dX9_top_97 : decode cX9_top 97 = .ok (.goto 8, 3) := by decide +kernel
theorem dX9_top_100 : decode cX9_top 100 = .ok (.aload_n 0, 1) := by decide +kernel
theorem dX9_top_101 : decode cX9_top 101 = .ok (.iload_n 1, 1) := by decide +kernel
theorem dX9_top_102 : decode cX9_top 102 = .ok (.invokevirtual 142, 3) := by decide +kernel
theorem dX9_top_105 : decode cX9_top 105 = .ok (.ireturn, 1) := by decide +kernel
theorem dX9_at_0 : decode cX9_at 0 = .ok (.iload_n 1, 1) := by decide +kernel
theorem dX9_at_1 : decode cX9_at 1 = .ok (.i2l, 1) := by decide +kernel
theorem dX9_at_2 : decode cX9_at 2 = .ok (.lconst 0, 1) := by decide +kernel
theorem dX9_at_3 : decode cX9_at 3 = .ok (.aload_n 0, 1) := by decide +kernel
theorem dX9_at_4 : decode cX9_at 4 = .ok (.getfield 7, 3) := by decide +kernel
theorem dX9_at_7 : decode cX9_at 7 = .ok (.iconst 1, 1) := by decide +kernel
theorem dX9_at_8 : decode cX9_at 8 = .ok (.isub, 1) := by decide +kernel
theorem dX9_at_9 : decode cX9_at 9 = .ok (.i2l, 1) := by decide +kernel
theorem dX9_at_10 : decode cX9_at 10 = .ok (.invokestatic 50, 3) := by decide +kernel
theorem dX9_at_13 : decode cX9_at 13 = .ok (.ifCond .eq 14, 3) := by decide +kernel
theorem dX9_at_16 : decode cX9_at 16 = .ok (.aload_n 0, 1) := by decide +kernel
theorem dX9_at_17 : decode cX9_at 17 = .ok (.iconst 0, 1) := by decide +kernel
theorem dX9_at_18 : decode cX9_at 18 = .ok (.iload_n 1, 1) := by decide +kernel
theorem dX9_at_19 : decode cX9_at 19 = .ok (.bipush (-9), 2) := by decide +kernel
theorem dX9_at_21 : decode cX9_at 21 = .ok (.invokevirtual 121, 3) := by decide +kernel
theorem dX9_at_24 : decode cX9_at 24 = .ok (.goto 4, 3) := by decide +kernel
theorem dX9_at_27 : decode cX9_at 27 = .ok (.iconst (-1), 1) := by decide +kernel
theorem dX9_at_28 : decode cX9_at 28 = .ok (.ireturn, 1) := by decide +kernel
theorem dX9_spins_0 : decode cX9_spins 0 = .ok (.iconst 0, 1) := by decide +kernel
theorem dX9_spins_1 : decode cX9_spins 1 = .ok (.istore_n 1, 1) := by decide +kernel
theorem dX9_spins_2 : decode cX9_spins 2 = .ok (.iconst 0, 1) := by decide +kernel
theorem dX9_spins_3 : decode cX9_spins 3 = .ok (.istore_n 2, 1) := by decide +kernel
theorem dX9_spins_4 : decode cX9_spins 4 = .ok (.iload_n 2, 1) := by decide +kernel
theorem dX9_spins_5 : decode cX9_spins 5 = .ok (.aload_n 0, 1) := by decide +kernel
theorem dX9_spins_6 : decode cX9_spins 6 = .ok (.getfield 108, 3) := by decide +kernel
theorem dX9_spins_9 : decode cX9_spins 9 = .ok (.if_icmp .ge 21, 3) := by decide +kernel
theorem dX9_spins_12 : decode cX9_spins 12 = .ok (.iload_n 1, 1) := by decide +kernel
theorem dX9_spins_13 : decode cX9_spins 13 = .ok (.aload_n 0, 1) := by decide +kernel
theorem dX9_spins_14 : decode cX9_spins 14 = .ok (.getfield 29, 3) := by decide +kernel
theorem dX9_spins_17 : decode cX9_spins 17 = .ok (.bipush 6, 2) := by decide +kernel
theorem dX9_spins_19 : decode cX9_spins 19 = .ok (.iload_n 2, 1) := by decide +kernel
theorem dX9_spins_20 : decode cX9_spins 20 = .ok (.iadd, 1) := by decide +kernel
theorem dX9_spins_21 : decode cX9_spins 21 = .ok (.iaload, 1) := by decide +kernel
theorem dX9_spins_22 : decode cX9_spins 22 = .ok (.iadd, 1) := by decide +kernel
theorem dX9_spins_23 : decode cX9_spins 23 = .ok (.istore_n 1, 1) := by decide +kernel
theorem dX9_spins_24 : decode cX9_spins 24 = .ok (.iinc 2 1, 3) := by decide +kernel
theorem dX9_spins_27 : decode cX9_spins 27 = .ok (.goto (-23), 3) := by decide +kernel
theorem dX9_spins_30 : decode cX9_spins 30 = .ok (.iload_n 1, 1) := by decide +kernel
theorem dX9_spins_31 : decode cX9_spins 31 = .ok (.ireturn, 1) := by decide +kernel
theorem dX9_now_0 : decode cX9_now 0 = .ok (.iload_n 1, 1) := by decide +kernel
theorem dX9_now_1 : decode cX9_now 1 = .ok (.i2l, 1) := by decide +kernel
theorem dX9_now_2 : decode cX9_now 2 = .ok (.lconst 0, 1) := by decide +kernel
theorem dX9_now_3 : decode cX9_now 3 = .ok (.ldc2_w 153, 3) := by decide +kernel
theorem dX9_now_6 : decode cX9_now 6 = .ok (.invokestatic 50, 3) := by decide +kernel
theorem dX9_now_9 : decode cX9_now 9 = .ok (.ifCond .ne 5, 3) := by decide +kernel
theorem dX9_now_12 : decode cX9_now 12 = .ok (.iconst (-1), 1) := by decide +kernel
theorem dX9_now_13 : decode cX9_now 13 = .ok (.ireturn, 1) := by decide +kernel
theorem dX9_now_14 : decode cX9_now 14 = .ok (.iload_n 1, 1) := by decide +kernel
theorem dX9_now_15 : decode cX9_now 15 = .ok (.ifCond .ne 13, 3) := by decide +kernel
theorem dX9_now_18 : decode cX9_now 18 = .ok (.aload_n 0, 1) := by decide +kernel
theorem dX9_now_19 : decode cX9_now 19 = .ok (.getfield 29, 3) := by decide +kernel
theorem dX9_now_22 : decode cX9_now 22 = .ok (.bipush 13, 2) := by decide +kernel
theorem dX9_now_24 : decode cX9_now 24 = .ok (.iaload, 1) := by decide +kernel
theorem dX9_now_25 : decode cX9_now 25 = .ok (.goto 61, 3) := by decide +kernel
theorem dX9_now_28 : decode cX9_now 28 = .ok (.iload_n 1, 1) := by decide +kernel
theorem dX9_now_29 : decode cX9_now 29 = .ok (.iconst 1, 1) := by decide +kernel
theorem dX9_now_30 : decode cX9_now 30 = .ok (.if_icmp .ne 13, 3) := by decide +kernel
theorem dX9_now_33 : decode cX9_now 33 = .ok (.aload_n 0, 1) := by decide +kernel
theorem dX9_now_34 : decode cX9_now 34 = .ok (.getfield 29, 3) := by decide +kernel
theorem dX9_now_37 : decode cX9_now 37 = .ok (.bipush 14, 2) := by decide +kernel
theorem dX9_now_39 : decode cX9_now 39 = .ok (.iaload, 1) := by decide +kernel
theorem dX9_now_40 : decode cX9_now 40 = .ok (.goto 46, 3) := by decide +kernel
theorem dX9_now_43 : decode cX9_now 43 = .ok (.iload_n 1, 1) := by decide +kernel
theorem dX9_now_44 : decode cX9_now 44 = .ok (.iconst 2, 1) := by decide +kernel
theorem dX9_now_45 : decode cX9_now 45 = .ok (.if_icmp .ne 13, 3) := by decide +kernel
theorem dX9_now_48 : decode cX9_now 48 = .ok (.aload_n 0, 1) := by decide +kernel
theorem dX9_now_49 : decode cX9_now 49 = .ok (.getfield 29, 3) := by decide +kernel
theorem dX9_now_52 : decode cX9_now 52 = .ok (.bipush 12, 2) := by decide +kernel
theorem dX9_now_54 : decode cX9_now 54 = .ok (.iaload, 1) := by decide +kernel
theorem dX9_now_55 : decode cX9_now 55 = .ok (.goto 31, 3) := by decide +kernel
theorem dX9_now_58 : decode cX9_now 58 = .ok (.iload_n 1, 1) := by decide +kernel
theorem dX9_now_59 : decode cX9_now 59 = .ok (.iconst 3, 1) := by decide +kernel
theorem dX9_now_60 : decode cX9_now 60 = .ok (.if_icmp .ne 10, 3) := by decide +kernel
theorem dX9_now_63 : decode cX9_now 63 = .ok (.aload_n 0, 1) := by decide +kernel
theorem dX9_now_64 : decode cX9_now 64 = .ok (.invokevirtual 155, 3) := by decide +kernel
theorem dX9_now_67 : decode cX9_now 67 = .ok (.goto 19, 3) := by decide +kernel
theorem dX9_now_70 : decode cX9_now 70 = .ok (.iload_n 1, 1) := by decide +kernel
theorem dX9_now_71 : decode cX9_now 71 = .ok (.iconst 4, 1) := by decide +kernel
theorem dX9_now_72 : decode cX9_now 72 = .ok (.if_icmp .ne 10, 3) := by decide +kernel
theorem dX9_now_75 : decode cX9_now 75 = .ok (.aload_n 0, 1) := by decide +kernel
theorem dX9_now_76 : decode cX9_now 76 = .ok (.invokevirtual 158, 3) := by decide +kernel
theorem dX9_now_79 : decode cX9_now 79 = .ok (.goto 7, 3) := by decide +kernel
theorem dX9_now_82 : decode cX9_now 82 = .ok (.aload_n 0, 1) := by decide +kernel
theorem dX9_now_83 : decode cX9_now 83 = .ok (.getfield 111, 3) := by decide +kernel
theorem dX9_now_86 : decode cX9_now 86 = .ok (.ireturn, 1) := by decide +kernel
theorem dX9_beats_0 : decode cX9_beats 0 = .ok (.aload_n 0, 1) := by decide +kernel
theorem dX9_beats_1 : decode cX9_beats 1 = .ok (.getfield 29, 3) := by decide +kernel
theorem dX9_beats_4 : decode cX9_beats 4 = .ok (.bipush 13, 2) := by decide +kernel
theorem dX9_beats_6 : decode cX9_beats 6 = .ok (.iaload, 1) := by decide +kernel
theorem dX9_beats_7 : decode cX9_beats 7 = .ok (.sipush 999, 3) := by decide +kernel
theorem dX9_beats_10 : decode cX9_beats 10 = .ok (.if_icmp .ne 6, 3) := by decide +kernel
theorem dX9_beats_13 : decode cX9_beats 13 = .ok (.bipush (-2), 2) := by decide +kernel
theorem dX9_beats_15 : decode cX9_beats 15 = .ok (.ireturn, 1) := by decide +kernel
theorem dX9_beats_16 : decode cX9_beats 16 = .ok (.aload_n 0, 1) := by decide +kernel
theorem dX9_beats_17 : decode cX9_beats 17 = .ok (.invokevirtual 161, 3) := by decide +kernel
theorem dX9_beats_20 : decode cX9_beats 20 = .ok (.aload_n 0, 1) := by decide +kernel
theorem dX9_beats_21 : decode cX9_beats 21 = .ok (.getfield 29, 3) := by decide +kernel
theorem dX9_beats_24 : decode cX9_beats 24 = .ok (.bipush 12, 2) := by decide +kernel
theorem dX9_beats_26 : decode cX9_beats 26 = .ok (.iaload, 1) := by decide +kernel
theorem dX9_beats_27 : decode cX9_beats 27 = .ok (.invokestatic 164, 3) := by decide +kernel
theorem dX9_beats_30 : decode cX9_beats 30 = .ok (.istore_n 1, 1) := by decide +kernel
theorem dX9_beats_31 : decode cX9_beats 31 = .ok (.aload_n 0, 1) := by decide +kernel
theorem dX9_beats_32 : decode cX9_beats 32 = .ok (.iconst 0, 1) := by decide +kernel
theorem dX9_beats_33 : decode cX9_beats 33 = .ok (.invokevirtual 134, 3) := by decide +kernel
theorem dX9_beats_36 : decode cX9_beats 36 = .ok (.iload_n 1, 1) := by decide +kernel
theorem dX9_beats_37 : decode cX9_beats 37 = .ok (.aload_n 0, 1) := by decide +kernel
theorem dX9_beats_38 : decode cX9_beats 38 = .ok (.getfield 29, 3) := by decide +kernel
theorem dX9_beats_41 : decode cX9_beats 41 = .ok (.bipush 12, 2) := by decide +kernel
theorem dX9_beats_43 : decode cX9_beats 43 = .ok (.iaload, 1) := by decide +kernel
theorem dX9_beats_44 : decode cX9_beats 44 = .ok (.invokestatic 164, 3) := by decide +kernel
theorem dX9_beats_47 : decode cX9_beats 47 = .ok (.isub, 1) := by decide +kernel
theorem dX9_beats_48 : decode cX9_beats 48 = .ok (.ireturn, 1) := by decide +kernel
theorem dX9_whipped_0 : decode cX9_whipped 0 = .ok (.aload_n 0, 1) := by decide +kernel
theorem dX9_whipped_1 : decode cX9_whipped 1 = .ok (.getfield 29, 3) := by decide +kernel
theorem dX9_whipped_4 : decode cX9_whipped 4 = .ok (.iload_n 1, 1) := by decide +kernel
theorem dX9_whipped_5 : decode cX9_whipped 5 = .ok (.bipush 6, 2) := by decide +kernel
theorem dX9_whipped_7 : decode cX9_whipped 7 = .ok (.iadd, 1) := by decide +kernel
theorem dX9_whipped_8 : decode cX9_whipped 8 = .ok (.iload_n 2, 1) := by decide +kernel
theorem dX9_whipped_9 : decode cX9_whipped 9 = .ok (.iadd, 1) := by decide +kernel
theorem dX9_whipped_10 : decode cX9_whipped 10 = .ok (.aload_n 0, 1) := by decide +kernel
theorem dX9_whipped_11 : decode cX9_whipped 11 = .ok (.getfield 29, 3) := by decide +kernel
theorem dX9_whipped_14 : decode cX9_whipped 14 = .ok (.iload_n 1, 1) := by decide +kernel
theorem dX9_whipped_15 : decode cX9_whipped 15 = .ok (.bipush 6, 2) := by decide +kernel
theorem dX9_whipped_17 : decode cX9_whipped 17 = .ok (.iadd, 1) := by decide +kernel
theorem dX9_whipped_18 : decode cX9_whipped 18 = .ok (.iload_n 2, 1) := by decide +kernel
theorem dX9_whipped_19 : decode cX9_whipped 19 = .ok (.iadd, 1) := by decide +kernel
theorem dX9_whipped_20 : decode cX9_whipped 20 = .ok (.iaload, 1) := by decide +kernel
theorem dX9_whipped_21 : decode cX9_whipped 21 = .ok (.iload_n 3, 1) := by decide +kernel
theorem dX9_whipped_22 : decode cX9_whipped 22 = .ok (.iadd, 1) := by decide +kernel
theorem dX9_whipped_23 : decode cX9_whipped 23 = .ok (.bipush 60, 2) := by decide +kernel
theorem dX9_whipped_25 : decode cX9_whipped 25 = .ok (.if_icmp .le 8, 3) := by decide +kernel
theorem dX9_whipped_28 : decode cX9_whipped 28 = .ok (.bipush 60, 2) := by decide +kernel
theorem dX9_whipped_30 : decode cX9_whipped 30 = .ok (.goto 16, 3) := by decide +kernel
theorem dX9_whipped_33 : decode cX9_whipped 33 = .ok (.aload_n 0, 1) := by decide +kernel
theorem dX9_whipped_34 : decode cX9_whipped 34 = .ok (.getfield 29, 3) := by decide +kernel
theorem dX9_whipped_37 : decode cX9_whipped 37 = .ok (.iload_n 1, 1) := by decide +kernel
theorem dX9_whipped_38 : decode cX9_whipped 38 = .ok (.bipush 6, 2) := by decide +kernel
theorem dX9_whipped_40 : decode cX9_whipped 40 = .ok (.iadd, 1) := by decide +kernel
theorem dX9_whipped_41 : decode cX9_whipped 41 = .ok (.iload_n 2, 1) := by decide +kernel
theorem dX9_whipped_42 : decode cX9_whipped 42 = .ok (.iadd, 1) := by decide +kernel
theorem dX9_whipped_43 : decode cX9_whipped 43 = .ok (.iaload, 1) := by decide +kernel
theorem dX9_whipped_44 : decode cX9_whipped 44 = .ok (.iload_n 3, 1) := by decide +kernel
theorem dX9_whipped_45 : decode cX9_whipped 45 = .ok (.iadd, 1) := by decide +kernel
theorem dX9_whipped_46 : decode cX9_whipped 46 = .ok (.iastore, 1) := by decide +kernel
theorem dX9_whipped_47 : decode cX9_whipped 47 = .ok (.return_, 1) := by decide +kernel
theorem dX9_whips_0 : decode cX9_whips 0 = .ok (.aload_n 0, 1) := by decide +kernel
theorem dX9_whips_1 : decode cX9_whips 1 = .ok (.iload_n 1, 1) := by decide +kernel
theorem dX9_whips_2 : decode cX9_whips 2 = .ok (.invokevirtual 148, 3) := by decide +kernel
theorem dX9_whips_5 : decode cX9_whips 5 = .ok (.ifCond .eq 15, 3) := by decide +kernel
theorem dX9_whips_8 : decode cX9_whips 8 = .ok (.iload_n 2, 1) := by decide +kernel
theorem dX9_whips_9 : decode cX9_whips 9 = .ok (.i2l, 1) := by decide +kernel
theorem dX9_whips_10 : decode cX9_whips 10 = .ok (.lconst 1, 1) := by decide +kernel
theorem dX9_whips_11 : decode cX9_whips 11 = .ok (.ldc2_w 167, 3) := by decide +kernel
theorem dX9_whips_14 : decode cX9_whips 14 = .ok (.invokestatic 50, 3) := by decide +kernel
theorem dX9_whips_17 : decode cX9_whips 17 = .ok (.ifCond .ne 5, 3) := by decide +kernel
theorem dX9_whips_20 : decode cX9_whips 20 = .ok (.iconst (-1), 1) := by decide +kernel
theorem dX9_whips_21 : decode cX9_whips 21 = .ok (.ireturn, 1) := by decide +kernel
theorem dX9_whips_22 : decode cX9_whips 22 = .ok (.aload_n 0, 1) := by decide +kernel
theorem dX9_whips_23 : decode cX9_whips 23 = .ok (.iload_n 1, 1) := by decide +kernel
theorem dX9_whips_24 : decode cX9_whips 24 = .ok (.invokevirtual 138, 3) := by decide +kernel
theorem dX9_whips_27 : decode cX9_whips 27 = .ok (.ifCond .ne 6, 3) := by decide +kernel
theorem dX9_whips_30 : decode cX9_whips 30 = .ok (.bipush (-2), 2) := by decide +kernel
theorem dX9_whips_32 : decode cX9_whips 32 = .ok (.ireturn, 1) := by decide +kernel
theorem dX9_whips_33 : decode cX9_whips 33 = .ok (.aload_n 0, 1) := by decide +kernel
theorem dX9_whips_34 : decode cX9_whips 34 = .ok (.invokevirtual 161, 3) := by decide +kernel
theorem dX9_whips_37 : decode cX9_whips 37 = .ok (.aload_n 0, 1) := by decide +kernel
theorem dX9_whips_38 : decode cX9_whips 38 = .ok (.iconst 0, 1) := by decide +kernel
theorem dX9_whips_39 : decode cX9_whips 39 = .ok (.iload_n 1, 1) := by decide +kernel
theorem dX9_whips_40 : decode cX9_whips 40 = .ok (.iload_n 2, 1) := by decide +kernel
theorem dX9_whips_41 : decode cX9_whips 41 = .ok (.invokevirtual 169, 3) := by decide +kernel
theorem dX9_whips_44 : decode cX9_whips 44 = .ok (.aload_n 0, 1) := by decide +kernel
theorem dX9_whips_45 : decode cX9_whips 45 = .ok (.getfield 29, 3) := by decide +kernel
theorem dX9_whips_48 : decode cX9_whips 48 = .ok (.bipush 6, 2) := by decide +kernel
theorem dX9_whips_50 : decode cX9_whips 50 = .ok (.iload_n 1, 1) := by decide +kernel
theorem dX9_whips_51 : decode cX9_whips 51 = .ok (.iadd, 1) := by decide +kernel
theorem dX9_whips_52 : decode cX9_whips 52 = .ok (.iaload, 1) := by decide +kernel
theorem dX9_whips_53 : decode cX9_whips 53 = .ok (.ireturn, 1) := by decide +kernel
theorem dX9_tilts_0 : decode cX9_tilts 0 = .ok (.iload_n 1, 1) := by decide +kernel
theorem dX9_tilts_1 : decode cX9_tilts 1 = .ok (.i2l, 1) := by decide +kernel
theorem dX9_tilts_2 : decode cX9_tilts 2 = .ok (.lconst 0, 1) := by decide +kernel
theorem dX9_tilts_3 : decode cX9_tilts 3 = .ok (.ldc2_w 173, 3) := by decide +kernel
theorem dX9_tilts_6 : decode cX9_tilts 6 = .ok (.invokestatic 50, 3) := by decide +kernel
theorem dX9_tilts_9 : decode cX9_tilts 9 = .ok (.ifCond .ne 5, 3) := by decide +kernel
theorem dX9_tilts_12 : decode cX9_tilts 12 = .ok (.iconst (-1), 1) := by decide +kernel
theorem dX9_tilts_13 : decode cX9_tilts 13 = .ok (.ireturn, 1) := by decide +kernel
theorem dX9_tilts_14 : decode cX9_tilts 14 = .ok (.aload_n 0, 1) := by decide +kernel
theorem dX9_tilts_15 : decode cX9_tilts 15 = .ok (.getfield 29, 3) := by decide +kernel
theorem dX9_tilts_18 : decode cX9_tilts 18 = .ok (.bipush 14, 2) := by decide +kernel
theorem dX9_tilts_20 : decode cX9_tilts 20 = .ok (.iaload, 1) := by decide +kernel
theorem dX9_tilts_21 : decode cX9_tilts 21 = .ok (.iload_n 1, 1) := by decide +kernel
theorem dX9_tilts_22 : decode cX9_tilts 22 = .ok (.if_icmp .ne 6, 3) := by decide +kernel
theorem dX9_tilts_25 : decode cX9_tilts 25 = .ok (.bipush (-2), 2) := by decide +kernel
theorem dX9_tilts_27 : decode cX9_tilts 27 = .ok (.ireturn, 1) := by decide +kernel
theorem dX9_tilts_28 : decode cX9_tilts 28 = .ok (.aload_n 0, 1) := by decide +kernel
theorem dX9_tilts_29 : decode cX9_tilts 29 = .ok (.invokevirtual 161, 3) := by decide +kernel
theorem dX9_tilts_32 : decode cX9_tilts 32 = .ok (.aload_n 0, 1) := by decide +kernel
theorem dX9_tilts_33 : decode cX9_tilts 33 = .ok (.getfield 29, 3) := by decide +kernel
theorem dX9_tilts_36 : decode cX9_tilts 36 = .ok (.bipush 14, 2) := by decide +kernel
theorem dX9_tilts_38 : decode cX9_tilts 38 = .ok (.iaload, 1) := by decide +kernel
theorem dX9_tilts_39 : decode cX9_tilts 39 = .ok (.istore_n 2, 1) := by decide +kernel
theorem dX9_tilts_40 : decode cX9_tilts 40 = .ok (.aload_n 0, 1) := by decide +kernel
theorem dX9_tilts_41 : decode cX9_tilts 41 = .ok (.getfield 29, 3) := by decide +kernel
theorem dX9_tilts_44 : decode cX9_tilts 44 = .ok (.bipush 14, 2) := by decide +kernel
theorem dX9_tilts_46 : decode cX9_tilts 46 = .ok (.iload_n 1, 1) := by decide +kernel
theorem dX9_tilts_47 : decode cX9_tilts 47 = .ok (.iastore, 1) := by decide +kernel
theorem dX9_tilts_48 : decode cX9_tilts 48 = .ok (.iload_n 2, 1) := by decide +kernel
theorem dX9_tilts_49 : decode cX9_tilts 49 = .ok (.ireturn, 1) := by decide +kernel
theorem dX9_sets_0 : decode cX9_sets 0 = .ok (.aload_n 0, 1) := by decide +kernel
theorem dX9_sets_1 : decode cX9_sets 1 = .ok (.iload_n 1, 1) := by decide +kernel
theorem dX9_sets_2 : decode cX9_sets 2 = .ok (.invokevirtual 148, 3) := by decide +kernel
theorem dX9_sets_5 : decode cX9_sets 5 = .ok (.ifCond .eq 19, 3) := by decide +kernel
theorem dX9_sets_8 : decode cX9_sets 8 = .ok (.iload_n 2, 1) := by decide +kernel
theorem dX9_sets_9 : decode cX9_sets 9 = .ok (.i2l, 1) := by decide +kernel
theorem dX9_sets_10 : decode cX9_sets 10 = .ok (.lconst 0, 1) := by decide +kernel
theorem dX9_sets_11 : decode cX9_sets 11 = .ok (.aload_n 0, 1) := by decide +kernel
theorem dX9_sets_12 : decode cX9_sets 12 = .ok (.getfield 7, 3) := by decide +kernel
theorem dX9_sets_15 : decode cX9_sets 15 = .ok (.iconst 1, 1) := by decide +kernel
theorem dX9_sets_16 : decode cX9_sets 16 = .ok (.isub, 1) := by decide +kernel
theorem dX9_sets_17 : decode cX9_sets 17 = .ok (.i2l, 1) := by decide +kernel
theorem dX9_sets_18 : decode cX9_sets 18 = .ok (.invokestatic 50, 3) := by decide +kernel
theorem dX9_sets_21 : decode cX9_sets 21 = .ok (.ifCond .ne 5, 3) := by decide +kernel
theorem dX9_sets_24 : decode cX9_sets 24 = .ok (.iconst (-1), 1) := by decide +kernel
theorem dX9_sets_25 : decode cX9_sets 25 = .ok (.ireturn, 1) := by decide +kernel
theorem dX9_sets_26 : decode cX9_sets 26 = .ok (.aload_n 0, 1) := by decide +kernel
theorem dX9_sets_27 : decode cX9_sets 27 = .ok (.iload_n 1, 1) := by decide +kernel
theorem dX9_sets_28 : decode cX9_sets 28 = .ok (.invokevirtual 138, 3) := by decide +kernel
theorem dX9_sets_31 : decode cX9_sets 31 = .ok (.ifCond .eq 14, 3) := by decide +kernel
theorem dX9_sets_34 : decode cX9_sets 34 = .ok (.aload_n 0, 1) := by decide +kernel
theorem dX9_sets_35 : decode cX9_sets 35 = .ok (.iconst 0, 1) := by decide +kernel
theorem dX9_sets_36 : decode cX9_sets 36 = .ok (.iload_n 2, 1) := by decide +kernel
theorem dX9_sets_37 : decode cX9_sets 37 = .ok (.bipush (-9), 2) := by decide +kernel
theorem dX9_sets_39 : decode cX9_sets 39 = .ok (.invokevirtual 121, 3) := by decide +kernel
theorem dX9_sets_42 : decode cX9_sets 42 = .ok (.ifCond .lt 6, 3) := by decide +kernel
theorem dX9_sets_45 : decode cX9_sets 45 = .ok (.bipush (-2), 2) := by decide +kernel
theorem dX9_sets_47 : decode cX9_sets 47 = .ok (.ireturn, 1) := by decide +kernel
theorem dX9_sets_48 : decode cX9_sets 48 = .ok (.aload_n 0, 1) := by decide +kernel
theorem dX9_sets_49 : decode cX9_sets 49 = .ok (.invokevirtual 161, 3) := by decide +kernel
theorem dX9_sets_52 : decode cX9_sets 52 = .ok (.aload_n 0, 1) := by decide +kernel
theorem dX9_sets_53 : decode cX9_sets 53 = .ok (.getfield 29, 3) := by decide +kernel
theorem dX9_sets_56 : decode cX9_sets 56 = .ok (.iload_n 1, 1) := by decide +kernel
theorem dX9_sets_57 : decode cX9_sets 57 = .ok (.iaload, 1) := by decide +kernel
theorem dX9_sets_58 : decode cX9_sets 58 = .ok (.istore_n 3, 1) := by decide +kernel
theorem dX9_sets_59 : decode cX9_sets 59 = .ok (.aload_n 0, 1) := by decide +kernel
theorem dX9_sets_60 : decode cX9_sets 60 = .ok (.getfield 29, 3) := by decide +kernel
theorem dX9_sets_63 : decode cX9_sets 63 = .ok (.iload_n 1, 1) := by decide +kernel
theorem dX9_sets_64 : decode cX9_sets 64 = .ok (.iload_n 2, 1) := by decide +kernel
theorem dX9_sets_65 : decode cX9_sets 65 = .ok (.iastore, 1) := by decide +kernel
theorem dX9_sets_66 : decode cX9_sets 66 = .ok (.iload_n 3, 1) := by decide +kernel
theorem dX9_sets_67 : decode cX9_sets 67 = .ok (.ireturn, 1) := by decide +kernel
theorem dX9_undo_0 : decode cX9_undo 0 = .ok (.aload_n 0, 1) := by decide +kernel
theorem dX9_undo_1 : decode cX9_undo 1 = .ok (.getfield 111, 3) := by decide +kernel
theorem dX9_undo_4 : decode cX9_undo 4 = .ok (.ifCond .ne 6, 3) := by decide +kernel
theorem dX9_undo_7 : decode cX9_undo 7 = .ok (.bipush (-2), 2) := by decide +kernel
theorem dX9_undo_9 : decode cX9_undo 9 = .ok (.ireturn, 1) := by decide +kernel
theorem dX9_undo_10 : decode cX9_undo 10 = .ok (.aload_n 0, 1) := by decide +kernel
theorem dX9_undo_11 : decode cX9_undo 11 = .ok (.aload_n 0, 1) := by decide +kernel
theorem dX9_undo_12 : decode cX9_undo 12 = .ok (.getfield 111, 3) := by decide +kernel
theorem dX9_undo_15 : decode cX9_undo 15 = .ok (.bipush 15, 2) := by decide +kernel
theorem dX9_undo_17 : decode cX9_undo 17 = .ok (.imul, 1) := by decide +kernel
theorem dX9_undo_18 : decode cX9_undo 18 = .ok (.iconst 0, 1) := by decide +kernel
theorem dX9_undo_19 : decode cX9_undo 19 = .ok (.invokevirtual 131, 3) := by decide +kernel
theorem dX9_undo_22 : decode cX9_undo 22 = .ok (.aload_n 0, 1) := by decide +kernel
theorem dX9_undo_23 : decode cX9_undo 23 = .ok (.dup, 1) := by decide +kernel
theorem dX9_undo_24 : decode cX9_undo 24 = .ok (.getfield 111, 3) := by decide +kernel
theorem dX9_undo_27 : decode cX9_undo 27 = .ok (.iconst 1, 1) := by decide +kernel
theorem dX9_undo_28 : decode cX9_undo 28 = .ok (.isub, 1) := by decide +kernel
theorem dX9_undo_29 : decode cX9_undo 29 = .ok (.putfield 111, 3) := by decide +kernel
theorem dX9_undo_32 : decode cX9_undo 32 = .ok (.aload_n 0, 1) := by decide +kernel
theorem dX9_undo_33 : decode cX9_undo 33 = .ok (.getfield 111, 3) := by decide +kernel
theorem dX9_undo_36 : decode cX9_undo 36 = .ok (.ireturn, 1) := by decide +kernel
theorem dX9_standBehind_0 : decode cX9_standBehind 0 = .ok (.iconst 0, 1) := by decide +kernel
theorem dX9_standBehind_1 : decode cX9_standBehind 1 = .ok (.istore_n 2, 1) := by decide +kernel
theorem dX9_standBehind_2 : decode cX9_standBehind 2 = .ok (.iload_n 2, 1) := by decide +kernel
theorem dX9_standBehind_3 : decode cX9_standBehind 3 = .ok (.iload_n 1, 1) := by decide +kernel
theorem dX9_standBehind_4 : decode cX9_standBehind 4 = .ok (.if_icmp .ge 16, 3) := by decide +kernel
theorem dX9_standBehind_7 : decode cX9_standBehind 7 = .ok (.aload_n 0, 1) := by decide +kernel
theorem dX9_standBehind_8 : decode cX9_standBehind 8 = .ok (.sipush 195, 3) := by decide +kernel
theorem dX9_standBehind_11 : decode cX9_standBehind 11 = .ok (.invokevirtual 134, 3) := by decide +kernel
theorem dX9_standBehind_14 : decode cX9_standBehind 14 = .ok (.iinc 2 1, 3) := by decide +kernel
theorem dX9_standBehind_17 : decode cX9_standBehind 17 = .ok (.goto (-15), 3) := by decide +kernel
theorem dX9_standBehind_20 : decode cX9_standBehind 20 = .ok (.aload_n 0, 1) := by decide +kernel
theorem dX9_standBehind_21 : decode cX9_standBehind 21 = .ok (.getfield 29, 3) := by decide +kernel
theorem dX9_standBehind_24 : decode cX9_standBehind 24 = .ok (.sipush 207, 3) := by decide +kernel
theorem dX9_standBehind_27 : decode cX9_standBehind 27 = .ok (.iaload, 1) := by decide +kernel
theorem dX9_standBehind_28 : decode cX9_standBehind 28 = .ok (.ireturn, 1) := by decide +kernel
theorem dX9_stand_0 : decode cX9_stand 0 = .ok (.iload_n 1, 1) := by decide +kernel
theorem dX9_stand_1 : decode cX9_stand 1 = .ok (.i2l, 1) := by decide +kernel
theorem dX9_stand_2 : decode cX9_stand 2 = .ok (.lconst 0, 1) := by decide +kernel
theorem dX9_stand_3 : decode cX9_stand 3 = .ok (.ldc2_w 175, 3) := by decide +kernel
theorem dX9_stand_6 : decode cX9_stand 6 = .ok (.invokestatic 50, 3) := by decide +kernel
theorem dX9_stand_9 : decode cX9_stand 9 = .ok (.ifCond .ne 5, 3) := by decide +kernel
theorem dX9_stand_12 : decode cX9_stand 12 = .ok (.iconst (-1), 1) := by decide +kernel
theorem dX9_stand_13 : decode cX9_stand 13 = .ok (.ireturn, 1) := by decide +kernel
theorem dX9_stand_14 : decode cX9_stand 14 = .ok (.aload_n 0, 1) := by decide +kernel
theorem dX9_stand_15 : decode cX9_stand 15 = .ok (.iconst 0, 1) := by decide +kernel
theorem dX9_stand_16 : decode cX9_stand 16 = .ok (.sipush 195, 3) := by decide +kernel
theorem dX9_stand_19 : decode cX9_stand 19 = .ok (.invokevirtual 131, 3) := by decide +kernel
theorem dX9_stand_22 : decode cX9_stand 22 = .ok (.aload_n 0, 1) := by decide +kernel
theorem dX9_stand_23 : decode cX9_stand 23 = .ok (.iload_n 1, 1) := by decide +kernel
theorem dX9_stand_24 : decode cX9_stand 24 = .ok (.invokevirtual 177, 3) := by decide +kernel
theorem dX9_stand_27 : decode cX9_stand 27 = .ok (.ireturn, 1) := by decide +kernel
theorem dX9_whip_0 : decode cX9_whip 0 = .ok (.iload_n 1, 1) := by decide +kernel
theorem dX9_whip_1 : decode cX9_whip 1 = .ok (.i2l, 1) := by decide +kernel
theorem dX9_whip_2 : decode cX9_whip 2 = .ok (.lconst 1, 1) := by decide +kernel
theorem dX9_whip_3 : decode cX9_whip 3 = .ok (.ldc2_w 167, 3) := by decide +kernel
theorem dX9_whip_6 : decode cX9_whip 6 = .ok (.invokestatic 50, 3) := by decide +kernel
theorem dX9_whip_9 : decode cX9_whip 9 = .ok (.ifCond .eq 15, 3) := by decide +kernel
theorem dX9_whip_12 : decode cX9_whip 12 = .ok (.iload_n 2, 1) := by decide +kernel
theorem dX9_whip_13 : decode cX9_whip 13 = .ok (.i2l, 1) := by decide +kernel
theorem dX9_whip_14 : decode cX9_whip 14 = .ok (.lconst 0, 1) := by decide +kernel
theorem dX9_whip_15 : decode cX9_whip 15 = .ok (.ldc2_w 175, 3) := by decide +kernel
theorem dX9_whip_18 : decode cX9_whip 18 = .ok (.invokestatic 50, 3) := by decide +kernel
theorem dX9_whip_21 : decode cX9_whip 21 = .ok (.ifCond .ne 5, 3) := by decide +kernel
theorem dX9_whip_24 : decode cX9_whip 24 = .ok (.iconst (-1), 1) := by decide +kernel
theorem dX9_whip_25 : decode cX9_whip 25 = .ok (.ireturn, 1) := by decide +kernel
theorem dX9_whip_26 : decode cX9_whip 26 = .ok (.bipush (-9), 2) := by decide +kernel
theorem dX9_whip_28 : decode cX9_whip 28 = .ok (.istore_n 3, 1) := by decide +kernel
theorem dX9_whip_29 : decode cX9_whip 29 = .ok (.iconst (-1), 1) := by decide +kernel
theorem dX9_whip_30 : decode cX9_whip 30 = .ok (.istore 4, 2) := by decide +kernel
theorem dX9_whip_32 : decode cX9_whip 32 = .ok (.iconst 0, 1) := by decide +kernel
theorem dX9_whip_33 : decode cX9_whip 33 = .ok (.istore 5, 2) := by decide +kernel
theorem dX9_whip_35 : decode cX9_whip 35 = .ok (.iload 5, 2) := by decide +kernel
theorem dX9_whip_37 : decode cX9_whip 37 = .ok (.aload_n 0, 1) := by decide +kernel
theorem dX9_whip_38 : decode cX9_whip 38 = .ok (.getfield 108, 3) := by decide +kernel
theorem dX9_whip_41 : decode cX9_whip 41 = .ok (.if_icmp .ge 69, 3) := by decide +kernel
theorem dX9_whip_44 : decode cX9_whip 44 = .ok (.aload_n 0, 1) := by decide +kernel
theorem dX9_whip_45 : decode cX9_whip 45 = .ok (.iload 5, 2) := by decide +kernel
theorem dX9_whip_47 : decode cX9_whip 47 = .ok (.invokevirtual 138, 3) := by decide +kernel
theorem dX9_whip_50 : decode cX9_whip 50 = .ok (.ifCond .eq 54, 3) := by decide +kernel
theorem dX9_whip_53 : decode cX9_whip 53 = .ok (.aload_n 0, 1) := by decide +kernel
theorem dX9_whip_54 : decode cX9_whip 54 = .ok (.iconst 0, 1) := by decide +kernel
theorem dX9_whip_55 : decode cX9_whip 55 = .ok (.sipush 195, 3) := by decide +kernel
theorem dX9_whip_58 : decode cX9_whip 58 = .ok (.invokevirtual 131, 3) := by decide +kernel
theorem dX9_whip_61 : decode cX9_whip 61 = .ok (.aload_n 0, 1) := by decide +kernel
theorem dX9_whip_62 : decode cX9_whip 62 = .ok (.sipush 195, 3) := by decide +kernel
theorem dX9_whip_65 : decode cX9_whip 65 = .ok (.iload 5, 2) := by decide +kernel
theorem dX9_whip_67 : decode cX9_whip 67 = .ok (.iload_n 1, 1) := by decide +kernel
theorem dX9_whip_68 : decode cX9_whip 68 = .ok (.invokevirtual 169, 3) := by decide +kernel
theorem dX9_whip_71 : decode cX9_whip 71 = .ok (.aload_n 0, 1) := by decide +kernel
theorem dX9_whip_72 : decode cX9_whip 72 = .ok (.iload_n 2, 1) := by decide +kernel
theorem dX9_whip_73 : decode cX9_whip 73 = .ok (.invokevirtual 177, 3) := by decide +kernel
theorem dX9_whip_76 : decode cX9_whip 76 = .ok (.invokestatic 164, 3) := by decide +kernel
theorem dX9_whip_79 : decode cX9_whip 79 = .ok (.istore 6, 2) := by decide +kernel
theorem dX9_whip_81 : decode cX9_whip 81 = .ok (.iload 6, 2) := by decide +kernel
theorem dX9_whip_83 : decode cX9_whip 83 = .ok (.iload 4, 2) := by decide +kernel
theorem dX9_whip_85 : decode cX9_whip 85 = .ok (.if_icmp .le 8, 3) := by decide +kernel
theorem dX9_whip_88 : decode cX9_whip 88 = .ok (.iload 5, 2) := by decide +kernel
theorem dX9_whip_90 : decode cX9_whip 90 = .ok (.goto 4, 3) := by decide +kernel
theorem dX9_whip_93 : decode cX9_whip 93 = .ok (.iload_n 3, 1) := by decide +kernel
theorem dX9_whip_94 : decode cX9_whip 94 = .ok (.istore_n 3, 1) := by decide +kernel
theorem dX9_whip_95 : decode cX9_whip 95 = .ok (.iload 4, 2) := by decide +kernel
theorem dX9_whip_97 : decode cX9_whip 97 = .ok (.iload 6, 2) := by decide +kernel
theorem dX9_whip_99 : decode cX9_whip 99 = .ok (.invokestatic 145, 3) := by decide +kernel
theorem dX9_whip_102 : decode cX9_whip 102 = .ok (.istore 4, 2) := by decide +kernel
theorem dX9_whip_104 : decode cX9_whip 104 = .ok (.iinc 5 1, 3) := by decide +kernel
theorem dX9_whip_107 : decode cX9_whip 107 = .ok (.goto (-72), 3) := by decide +kernel
theorem dX9_whip_110 : decode cX9_whip 110 = .ok (.iload_n 3, 1) := by decide +kernel
theorem dX9_whip_111 : decode cX9_whip 111 = .ok (.ireturn, 1) := by decide +kernel
theorem dX9_row_0 : decode cX9_row 0 = .ok (.iload_n 1, 1) := by decide +kernel
theorem dX9_row_1 : decode cX9_row 1 = .ok (.i2l, 1) := by decide +kernel
theorem dX9_row_2 : decode cX9_row 2 = .ok (.lconst 0, 1) := by decide +kernel
theorem dX9_row_3 : decode cX9_row 3 = .ok (.ldc2_w 153, 3) := by decide +kernel
theorem dX9_row_6 : decode cX9_row 6 = .ok (.invokestatic 50, 3) := by decide +kernel
theorem dX9_row_9 : decode cX9_row 9 = .ok (.ifCond .eq 17, 3) := by decide +kernel
theorem dX9_row_12 : decode cX9_row 12 = .ok (.iload_n 2, 1) := by decide +kernel
theorem dX9_row_13 : decode cX9_row 13 = .ok (.i2l, 1) := by decide +kernel
theorem dX9_row_14 : decode cX9_row 14 = .ok (.ldc2_w 180, 3) := by decide +kernel
theorem dX9_row_17 : decode cX9_row 17 = .ok (.ldc2_w 151, 3) := by decide +kernel
theorem dX9_row_20 : decode cX9_row 20 = .ok (.invokestatic 50, 3) := by decide +kernel
theorem dX9_row_23 : decode cX9_row 23 = .ok (.ifCond .ne 5, 3) := by decide +kernel
theorem dX9_row_26 : decode cX9_row 26 = .ok (.iconst (-1), 1) := by decide +kernel
theorem dX9_row_27 : decode cX9_row 27 = .ok (.ireturn, 1) := by decide +kernel
theorem dX9_row_28 : decode cX9_row 28 = .ok (.iconst 1, 1) := by decide +kernel
theorem dX9_row_29 : decode cX9_row 29 = .ok (.istore_n 3, 1) := by decide +kernel
theorem dX9_row_30 : decode cX9_row 30 = .ok (.iconst 0, 1) := by decide +kernel
theorem dX9_row_31 : decode cX9_row 31 = .ok (.istore 4, 2) := by decide +kernel
theorem dX9_row_33 : decode cX9_row 33 = .ok (.iload 4, 2) := by decide +kernel
theorem dX9_row_35 : decode cX9_row 35 = .ok (.iload_n 1, 1) := by decide +kernel
theorem dX9_row_36 : decode cX9_row 36 = .ok (.if_icmp .ge 13, 3) := by decide +kernel
theorem dX9_row_39 : decode cX9_row 39 = .ok (.iload_n 3, 1) := by decide +kernel
theorem dX9_row_40 : decode cX9_row 40 = .ok (.iconst 3, 1) := by decide +kernel
theorem dX9_row_41 : decode cX9_row 41 = .ok (.imul, 1) := by decide +kernel
theorem dX9_row_42 : decode cX9_row 42 = .ok (.istore_n 3, 1) := by decide +kernel
theorem dX9_row_43 : decode cX9_row 43 = .ok (.iinc 4 1, 3) := by decide +kernel
theorem dX9_row_46 : decode cX9_row 46 = .ok (.goto (-13), 3) := by decide +kernel
theorem dX9_row_49 : decode cX9_row 49 = .ok (.iconst 0, 1) := by decide +kernel
theorem dX9_row_50 : decode cX9_row 50 = .ok (.istore 4, 2) := by decide +kernel
theorem dX9_row_52 : decode cX9_row 52 = .ok (.iconst (-1), 1) := by decide +kernel
theorem dX9_row_53 : decode cX9_row 53 = .ok (.istore 5, 2) := by decide +kernel
theorem dX9_row_55 : decode cX9_row 55 = .ok (.iconst 0, 1) := by decide +kernel
theorem dX9_row_56 : decode cX9_row 56 = .ok (.istore 6, 2) := by decide +kernel
theorem dX9_row_58 : decode cX9_row 58 = .ok (.iload 6, 2) := by decide +kernel
theorem dX9_row_60 : decode cX9_row 60 = .ok (.iload_n 3, 1) := by decide +kernel
theorem dX9_row_61 : decode cX9_row 61 = .ok (.if_icmp .ge 101, 3) := by decide +kernel
theorem dX9_row_64 : decode cX9_row 64 = .ok (.aload_n 0, 1) := by decide +kernel
theorem dX9_row_65 : decode cX9_row 65 = .ok (.iconst 0, 1) := by decide +kernel
theorem dX9_row_66 : decode cX9_row 66 = .ok (.sipush 195, 3) := by decide +kernel
theorem dX9_row_69 : decode cX9_row 69 = .ok (.invokevirtual 131, 3) := by decide +kernel
theorem dX9_row_72 : decode cX9_row 72 = .ok (.iload_n 3, 1) := by decide +kernel
theorem dX9_row_73 : decode cX9_row 73 = .ok (.istore 7, 2) := by decide +kernel
theorem dX9_row_75 : decode cX9_row 75 = .ok (.iconst 0, 1) := by decide +kernel
theorem dX9_row_76 : decode cX9_row 76 = .ok (.istore 8, 2) := by decide +kernel
theorem dX9_row_78 : decode cX9_row 78 = .ok (.iload 8, 2) := by decide +kernel
theorem dX9_row_80 : decode cX9_row 80 = .ok (.iload_n 1, 1) := by decide +kernel
theorem dX9_row_81 : decode cX9_row 81 = .ok (.if_icmp .ge 37, 3) := by decide +kernel
theorem dX9_row_84 : decode cX9_row 84 = .ok (.iload 7, 2) := by decide +kernel
theorem dX9_row_86 : decode cX9_row 86 = .ok (.iconst 3, 1) := by decide +kernel
theorem dX9_row_87 : decode cX9_row 87 = .ok (.idiv, 1) := by decide +kernel
theorem dX9_row_88 : decode cX9_row 88 = .ok (.istore 7, 2) := by decide +kernel
theorem dX9_row_90 : decode cX9_row 90 = .ok (.aload_n 0, 1) := by decide +kernel
theorem dX9_row_91 : decode cX9_row 91 = .ok (.getfield 29, 3) := by decide +kernel
theorem dX9_row_94 : decode cX9_row 94 = .ok (.sipush 209, 3) := by decide +kernel
theorem dX9_row_97 : decode cX9_row 97 = .ok (.iload 6, 2) := by decide +kernel
theorem dX9_row_99 : decode cX9_row 99 = .ok (.iload 7, 2) := by decide +kernel
theorem dX9_row_101 : decode cX9_row 101 = .ok (.idiv, 1) := by decide +kernel
theorem dX9_row_102 : decode cX9_row 102 = .ok (.iconst 3, 1) := by decide +kernel
theorem dX9_row_103 : decode cX9_row 103 = .ok (.irem, 1) := by decide +kernel
theorem dX9_row_104 : decode cX9_row 104 = .ok (.iastore, 1) := by decide +kernel
theorem dX9_row_105 : decode cX9_row 105 = .ok (.aload_n 0, 1) := by decide +kernel
theorem dX9_row_106 : decode cX9_row 106 = .ok (.sipush 195, 3) := by decide +kernel
theorem dX9_row_109 : decode cX9_row 109 = .ok (.invokevirtual 134, 3) := by decide +kernel
theorem dX9_row_112 : decode cX9_row 112 = .ok (.iinc 8 1, 3) := by decide +kernel
theorem dX9_row_115 : decode cX9_row 115 = .ok (.goto (-37), 3) := by decide +kernel
theorem dX9_row_118 : decode cX9_row 118 = .ok (.aload_n 0, 1) := by decide +kernel
theorem dX9_row_119 : decode cX9_row 119 = .ok (.getfield 29, 3) := by decide +kernel
theorem dX9_row_122 : decode cX9_row 122 = .ok (.sipush 207, 3) := by decide +kernel
theorem dX9_row_125 : decode cX9_row 125 = .ok (.iaload, 1) := by decide +kernel
theorem dX9_row_126 : decode cX9_row 126 = .ok (.invokestatic 164, 3) := by decide +kernel
theorem dX9_row_129 : decode cX9_row 129 = .ok (.istore 8, 2) := by decide +kernel
theorem dX9_row_131 : decode cX9_row 131 = .ok (.iload 8, 2) := by decide +kernel
theorem dX9_row_133 : decode cX9_row 133 = .ok (.iload 5, 2) := by decide +kernel
theorem dX9_row_135 : decode cX9_row 135 = .ok (.if_icmp .le 8, 3) := by decide +kernel
theorem dX9_row_138 : decode cX9_row 138 = .ok (.iload 6, 2) := by decide +kernel
theorem dX9_row_140 : decode cX9_row 140 = .ok (.goto 5, 3) := by decide +kernel
theorem dX9_row_143 : decode cX9_row 143 = .ok (.iload 4, 2) := by decide +kernel
theorem dX9_row_145 : decode cX9_row 145 = .ok (.istore 4, 2) := by decide +kernel
theorem dX9_row_147 : decode cX9_row 147 = .ok (.iload 5, 2) := by decide +kernel
theorem dX9_row_149 : decode cX9_row 149 = .ok (.iload 8, 2) := by decide +kernel
theorem dX9_row_151 : decode cX9_row 151 = .ok (.invokestatic 145, 3) := by decide +kernel
theorem dX9_row_154 : decode cX9_row 154 = .ok (.istore 5, 2) := by decide +kernel
theorem dX9_row_156 : decode cX9_row 156 = .ok (.iinc 6 1, 3) := by decide +kernel
theorem dX9_row_159 : decode cX9_row 159 = .ok (.goto (-101), 3) := by decide +kernel
theorem dX9_row_162 : decode cX9_row 162 = .ok (.iload_n 1, 1) := by decide +kernel
theorem dX9_row_163 : decode cX9_row 163 = .ok (.iconst 1, 1) := by decide +kernel
theorem dX9_row_164 : decode cX9_row 164 = .ok (.isub, 1) := by decide +kernel
theorem dX9_row_165 : decode cX9_row 165 = .ok (.istore 6, 2) := by decide +kernel
theorem dX9_row_167 : decode cX9_row 167 = .ok (.iload 6, 2) := by decide +kernel
theorem dX9_row_169 : decode cX9_row 169 = .ok (.iload_n 2, 1) := by decide +kernel
theorem dX9_row_170 : decode cX9_row 170 = .ok (.if_icmp .le 19, 3) := by decide +kernel
theorem dX9_row_173 : decode cX9_row 173 = .ok (.iload_n 2, 1) := by decide +kernel
theorem dX9_row_174 : decode cX9_row 174 = .ok (.ifCond .lt 15, 3) := by decide +kernel
theorem dX9_row_177 : decode cX9_row 177 = .ok (.iload 4, 2) := by decide +kernel
theorem dX9_row_179 : decode cX9_row 179 = .ok (.iconst 3, 1) := by decide +kernel
theorem dX9_row_180 : decode cX9_row 180 = .ok (.idiv, 1) := by decide +kernel
theorem dX9_row_181 : decode cX9_row 181 = .ok (.istore 4, 2) := by decide +kernel
theorem dX9_row_183 : decode cX9_row 183 = .ok (.iinc 6 (-1), 3) := by decide +kernel
theorem dX9_row_186 : decode cX9_row 186 = .ok (.goto (-19), 3) := by decide +kernel
theorem dX9_row_189 : decode cX9_row 189 = .ok (.iload_n 2, 1) := by decide +kernel
theorem dX9_row_190 : decode cX9_row 190 = .ok (.ifCond .ge 8, 3) := by decide +kernel
theorem dX9_row_193 : decode cX9_row 193 = .ok (.iload 5, 2) := by decide +kernel
theorem dX9_row_195 : decode cX9_row 195 = .ok (.goto 17, 3) := by decide +kernel
theorem dX9_row_198 : decode cX9_row 198 = .ok (.iload_n 2, 1) := by decide +kernel
theorem dX9_row_199 : decode cX9_row 199 = .ok (.iload_n 1, 1) := by decide +kernel
theorem dX9_row_200 : decode cX9_row 200 = .ok (.if_icmp .lt 8, 3) := by decide +kernel
theorem dX9_row_203 : decode cX9_row 203 = .ok (.bipush (-9), 2) := by decide +kernel
theorem dX9_row_205 : decode cX9_row 205 = .ok (.goto 7, 3) := by decide +kernel
theorem dX9_row_208 : decode cX9_row 208 = .ok (.iload 4, 2) := by decide +kernel
theorem dX9_row_210 : decode cX9_row 210 = .ok (.iconst 3, 1) := by decide +kernel
theorem dX9_row_211 : decode cX9_row 211 = .ok (.irem, 1) := by decide +kernel
theorem dX9_row_212 : decode cX9_row 212 = .ok (.ireturn, 1) := by decide +kernel
theorem dX9_odds_0 : decode cX9_odds 0 = .ok (.aload_n 0, 1) := by decide +kernel
theorem dX9_odds_1 : decode cX9_odds 1 = .ok (.iload_n 1, 1) := by decide +kernel
theorem dX9_odds_2 : decode cX9_odds 2 = .ok (.invokevirtual 148, 3) := by decide +kernel
theorem dX9_odds_5 : decode cX9_odds 5 = .ok (.ifCond .eq 38, 3) := by decide +kernel
theorem dX9_odds_8 : decode cX9_odds 8 = .ok (.iload_n 2, 1) := by decide +kernel
theorem dX9_odds_9 : decode cX9_odds 9 = .ok (.i2l, 1) := by decide +kernel
theorem dX9_odds_10 : decode cX9_odds 10 = .ok (.lconst 0, 1) := by decide +kernel
theorem dX9_odds_11 : decode cX9_odds 11 = .ok (.ldc2_w 182, 3) := by decide +kernel
theorem dX9_odds_14 : decode cX9_odds 14 = .ok (.invokestatic 50, 3) := by decide +kernel
theorem dX9_odds_17 : decode cX9_odds 17 = .ok (.ifCond .eq 26, 3) := by decide +kernel
theorem dX9_odds_20 : decode cX9_odds 20 = .ok (.iload_n 3, 1) := by decide +kernel
theorem dX9_odds_21 : decode cX9_odds 21 = .ok (.i2l, 1) := by decide +kernel
theorem dX9_odds_22 : decode cX9_odds 22 = .ok (.lconst 0, 1) := by decide +kernel
theorem dX9_odds_23 : decode cX9_odds 23 = .ok (.ldc2_w 175, 3) := by decide +kernel
theorem dX9_odds_26 : decode cX9_odds 26 = .ok (.invokestatic 50, 3) := by decide +kernel
theorem dX9_odds_29 : decode cX9_odds 29 = .ok (.ifCond .eq 14, 3) := by decide +kernel
theorem dX9_odds_32 : decode cX9_odds 32 = .ok (.iload 4, 2) := by decide +kernel
theorem dX9_odds_34 : decode cX9_odds 34 = .ok (.i2l, 1) := by decide +kernel
theorem dX9_odds_35 : decode cX9_odds 35 = .ok (.lconst 0, 1) := by decide +kernel
theorem dX9_odds_36 : decode cX9_odds 36 = .ok (.lconst 1, 1) := by decide +kernel
theorem dX9_odds_37 : decode cX9_odds 37 = .ok (.invokestatic 50, 3) := by decide +kernel
theorem dX9_odds_40 : decode cX9_odds 40 = .ok (.ifCond .ne 5, 3) := by decide +kernel
theorem dX9_odds_43 : decode cX9_odds 43 = .ok (.iconst (-1), 1) := by decide +kernel
theorem dX9_odds_44 : decode cX9_odds 44 = .ok (.ireturn, 1) := by decide +kernel
theorem dX9_odds_45 : decode cX9_odds 45 = .ok (.iconst 0, 1) := by decide +kernel
theorem dX9_odds_46 : decode cX9_odds 46 = .ok (.istore 5, 2) := by decide +kernel
theorem dX9_odds_48 : decode cX9_odds 48 = .ok (.iconst 0, 1) := by decide +kernel
theorem dX9_odds_49 : decode cX9_odds 49 = .ok (.istore 6, 2) := by decide +kernel
theorem dX9_odds_51 : decode cX9_odds 51 = .ok (.iconst 0, 1) := by decide +kernel
theorem dX9_odds_52 : decode cX9_odds 52 = .ok (.istore 7, 2) := by decide +kernel
theorem dX9_odds_54 : decode cX9_odds 54 = .ok (.iload 7, 2) := by decide +kernel
theorem dX9_odds_56 : decode cX9_odds 56 = .ok (.bipush 64, 2) := by decide +kernel
theorem dX9_odds_58 : decode cX9_odds 58 = .ok (.if_icmp .ge 139, 3) := by decide +kernel
theorem dX9_odds_61 : decode cX9_odds 61 = .ok (.iload 7, 2) := by decide +kernel
theorem dX9_odds_63 : decode cX9_odds 63 = .ok (.aload_n 0, 1) := by decide +kernel
theorem dX9_odds_64 : decode cX9_odds 64 = .ok (.getfield 29, 3) := by decide +kernel
theorem dX9_odds_67 : decode cX9_odds 67 = .ok (.bipush 12, 2) := by decide +kernel
theorem dX9_odds_69 : decode cX9_odds 69 = .ok (.iaload, 1) := by decide +kernel
theorem dX9_odds_70 : decode cX9_odds 70 = .ok (.iconst (-1), 1) := by decide +kernel
theorem dX9_odds_71 : decode cX9_odds 71 = .ok (.ixor, 1) := by decide +kernel
theorem dX9_odds_72 : decode cX9_odds 72 = .ok (.iand, 1) := by decide +kernel
theorem dX9_odds_73 : decode cX9_odds 73 = .ok (.ifCond .ne 118, 3) := by decide +kernel
theorem dX9_odds_76 : decode cX9_odds 76 = .ok (.aload_n 0, 1) := by decide +kernel
theorem dX9_odds_77 : decode cX9_odds 77 = .ok (.iconst 0, 1) := by decide +kernel
theorem dX9_odds_78 : decode cX9_odds 78 = .ok (.sipush 195, 3) := by decide +kernel
theorem dX9_odds_81 : decode cX9_odds 81 = .ok (.invokevirtual 131, 3) := by decide +kernel
theorem dX9_odds_84 : decode cX9_odds 84 = .ok (.iconst 1, 1) := by decide +kernel
theorem dX9_odds_85 : decode cX9_odds 85 = .ok (.istore 8, 2) := by decide +kernel
theorem dX9_odds_87 : decode cX9_odds 87 = .ok (.iconst 0, 1) := by decide +kernel
theorem dX9_odds_88 : decode cX9_odds 88 = .ok (.istore 9, 2) := by decide +kernel
theorem dX9_odds_90 : decode cX9_odds 90 = .ok (.iload 9, 2) := by decide +kernel
theorem dX9_odds_92 : decode cX9_odds 92 = .ok (.aload_n 0, 1) := by decide +kernel
theorem dX9_odds_93 : decode cX9_odds 93 = .ok (.getfield 108, 3) := by decide +kernel
theorem dX9_odds_96 : decode cX9_odds 96 = .ok (.if_icmp .ge 65, 3) := by decide +kernel
theorem dX9_odds_99 : decode cX9_odds 99 = .ok (.aload_n 0, 1) := by decide +kernel
theorem dX9_odds_100 : decode cX9_odds 100 = .ok (.iload 9, 2) := by decide +kernel
theorem dX9_odds_102 : decode cX9_odds 102 = .ok (.invokevirtual 138, 3) := by decide +kernel
theorem dX9_odds_105 : decode cX9_odds 105 = .ok (.ifCond .eq 50, 3) := by decide +kernel
theorem dX9_odds_108 : decode cX9_odds 108 = .ok (.iload 8, 2) := by decide +kernel
theorem dX9_odds_110 : decode cX9_odds 110 = .ok (.iload 7, 2) := by decide +kernel
theorem dX9_odds_112 : decode cX9_odds 112 = .ok (.iload 9, 2) := by decide +kernel
theorem dX9_odds_114 : decode cX9_odds 114 = .ok (.invokestatic 117, 3) := by decide +kernel
theorem dX9_odds_117 : decode cX9_odds 117 = .ok (.ifCond .eq 7, 3) := by decide +kernel
theorem dX9_odds_120 : decode cX9_odds 120 = .ok (.iload_n 2, 1) := by decide +kernel
theorem dX9_odds_121 : decode cX9_odds 121 = .ok (.goto 7, 3) := by decide +kernel
theorem dX9_odds_124 : decode cX9_odds 124 = .ok (.bipush 10, 2) := by decide +kernel
theorem dX9_odds_126 : decode cX9_odds 126 = .ok (.iload_n 2, 1) := by decide +kernel
theorem dX9_odds_127 : decode cX9_odds 127 = .ok (.isub, 1) := by decide +kernel
theorem dX9_odds_128 : decode cX9_odds 128 = .ok (.imul, 1) := by decide +kernel
theorem dX9_odds_129 : decode cX9_odds 129 = .ok (.istore 8, 2) := by decide +kernel
theorem dX9_odds_131 : decode cX9_odds 131 = .ok (.aload_n 0, 1) := by decide +kernel
theorem dX9_odds_132 : decode cX9_odds 132 = .ok (.sipush 195, 3) := by decide +kernel
theorem dX9_odds_135 : decode cX9_odds 135 = .ok (.iload 9, 2) := by decide +kernel
theorem dX9_odds_137 : decode cX9_odds 137 = .ok (.iload 7, 2) := by decide +kernel
theorem dX9_odds_139 : decode cX9_odds 139 = .ok (.iload 9, 2) := by decide +kernel
theorem dX9_odds_141 : decode cX9_odds 141 = .ok (.invokestatic 117, 3) := by decide +kernel
theorem dX9_odds_144 : decode cX9_odds 144 = .ok (.ifCond .eq 7, 3) := by decide +kernel
theorem dX9_odds_147 : decode cX9_odds 147 = .ok (.iconst 5, 1) := by decide +kernel
theorem dX9_odds_148 : decode cX9_odds 148 = .ok (.goto 4, 3) := by decide +kernel
theorem dX9_odds_151 : decode cX9_odds 151 = .ok (.iconst 0, 1) := by decide +kernel
theorem dX9_odds_152 : decode cX9_odds 152 = .ok (.invokevirtual 169, 3) := by decide +kernel
theorem dX9_odds_155 : decode cX9_odds 155 = .ok (.iinc 9 1, 3) := by decide +kernel
theorem dX9_odds_158 : decode cX9_odds 158 = .ok (.goto (-68), 3) := by decide +kernel
theorem dX9_odds_161 : decode cX9_odds 161 = .ok (.iload 6, 2) := by decide +kernel
theorem dX9_odds_163 : decode cX9_odds 163 = .ok (.iload 8, 2) := by decide +kernel
theorem dX9_odds_165 : decode cX9_odds 165 = .ok (.iadd, 1) := by decide +kernel
theorem dX9_odds_166 : decode cX9_odds 166 = .ok (.istore 6, 2) := by decide +kernel
theorem dX9_odds_168 : decode cX9_odds 168 = .ok (.iload 5, 2) := by decide +kernel
theorem dX9_odds_170 : decode cX9_odds 170 = .ok (.aload_n 0, 1) := by decide +kernel
theorem dX9_odds_171 : decode cX9_odds 171 = .ok (.iload_n 3, 1) := by decide +kernel
theorem dX9_odds_172 : decode cX9_odds 172 = .ok (.invokevirtual 177, 3) := by decide +kernel
theorem dX9_odds_175 : decode cX9_odds 175 = .ok (.iload_n 1, 1) := by decide +kernel
theorem dX9_odds_176 : decode cX9_odds 176 = .ok (.invokestatic 117, 3) := by decide +kernel
theorem dX9_odds_179 : decode cX9_odds 179 = .ok (.ifCond .eq 8, 3) := by decide +kernel
theorem dX9_odds_182 : decode cX9_odds 182 = .ok (.iload 8, 2) := by decide +kernel
theorem dX9_odds_184 : decode cX9_odds 184 = .ok (.goto 4, 3) := by decide +kernel
theorem dX9_odds_187 : decode cX9_odds 187 = .ok (.iconst 0, 1) := by decide +kernel
theorem dX9_odds_188 : decode cX9_odds 188 = .ok (.iadd, 1) := by decide +kernel
theorem dX9_odds_189 : decode cX9_odds 189 = .ok (.istore 5, 2) := by decide +kernel
theorem dX9_odds_191 : decode cX9_odds 191 = .ok (.iinc 7 1, 3) := by decide +kernel
theorem dX9_odds_194 : decode cX9_odds 194 = .ok (.goto (-140), 3) := by decide +kernel
theorem dX9_odds_197 : decode cX9_odds 197 = .ok (.iload 5, 2) := by decide +kernel
theorem dX9_odds_199 : decode cX9_odds 199 = .ok (.istore 7, 2) := by decide +kernel
theorem dX9_odds_201 : decode cX9_odds 201 = .ok (.iload 6, 2) := by decide +kernel
theorem dX9_odds_203 : decode cX9_odds 203 = .ok (.istore 8, 2) := by decide +kernel
theorem dX9_odds_205 : decode cX9_odds 205 = .ok (.iload 8, 2) := by decide +kernel
theorem dX9_odds_207 : decode cX9_odds 207 = .ok (.ifCond .eq 21, 3) := by decide +kernel
theorem dX9_odds_210 : decode cX9_odds 210 = .ok (.iload 7, 2) := by decide +kernel
theorem dX9_odds_212 : decode cX9_odds 212 = .ok (.iload 8, 2) := by decide +kernel
theorem dX9_odds_214 : decode cX9_odds 214 = .ok (.irem, 1) := by decide +kernel
theorem dX9_odds_215 : decode cX9_odds 215 = .ok (.istore 9, 2) := by decide +kernel
theorem dX9_odds_217 : decode cX9_odds 217 = .ok (.iload 8, 2) := by decide +kernel
theorem dX9_odds_219 : decode cX9_odds 219 = .ok (.istore 7, 2) := by decide +kernel
theorem dX9_odds_221 : decode cX9_odds 221 = .ok (.iload 9, 2) := by decide +kernel
theorem dX9_odds_223 : decode cX9_odds 223 = .ok (.istore 8, 2) := by decide +kernel
theorem dX9_odds_225 : decode cX9_odds 225 = .ok (.goto (-20), 3) := by decide +kernel
theorem dX9_odds_228 : decode cX9_odds 228 = .ok (.iload 4, 2) := by decide +kernel
theorem dX9_odds_230 : decode cX9_odds 230 = .ok (.ifCond .ne 11, 3) := by decide +kernel
theorem dX9_odds_233 : decode cX9_odds 233 = .ok (.iload 5, 2) := by decide +kernel
theorem dX9_odds_235 : decode cX9_odds 235 = .ok (.iload 7, 2) := by decide +kernel
theorem dX9_odds_237 : decode cX9_odds 237 = .ok (.idiv, 1) := by decide +kernel
theorem dX9_odds_238 : decode cX9_odds 238 = .ok (.goto 8, 3) := by decide +kernel
theorem dX9_odds_241 : decode cX9_odds 241 = .ok (.iload 6, 2) := by decide +kernel
theorem dX9_odds_243 : decode cX9_odds 243 = .ok (.iload 7, 2) := by decide +kernel
theorem dX9_odds_245 : decode cX9_odds 245 = .ok (.idiv, 1) := by decide +kernel
theorem dX9_odds_246 : decode cX9_odds 246 = .ok (.ireturn, 1) := by decide +kernel
theorem dX9_sees_0 : decode cX9_sees 0 = .ok (.iload_n 1, 1) := by decide +kernel
theorem dX9_sees_1 : decode cX9_sees 1 = .ok (.i2l, 1) := by decide +kernel
theorem dX9_sees_2 : decode cX9_sees 2 = .ok (.lconst 1, 1) := by decide +kernel
theorem dX9_sees_3 : decode cX9_sees 3 = .ok (.ldc2_w 175, 3) := by decide +kernel
theorem dX9_sees_6 : decode cX9_sees 6 = .ok (.invokestatic 50, 3) := by decide +kernel
theorem dX9_sees_9 : decode cX9_sees 9 = .ok (.ifCond .eq 27, 3) := by decide +kernel
theorem dX9_sees_12 : decode cX9_sees 12 = .ok (.iload_n 2, 1) := by decide +kernel
theorem dX9_sees_13 : decode cX9_sees 13 = .ok (.i2l, 1) := by decide +kernel
theorem dX9_sees_14 : decode cX9_sees 14 = .ok (.lconst 1, 1) := by decide +kernel
theorem dX9_sees_15 : decode cX9_sees 15 = .ok (.ldc2_w 167, 3) := by decide +kernel
theorem dX9_sees_18 : decode cX9_sees 18 = .ok (.invokestatic 50, 3) := by decide +kernel
theorem dX9_sees_21 : decode cX9_sees 21 = .ok (.ifCond .eq 15, 3) := by decide +kernel
theorem dX9_sees_24 : decode cX9_sees 24 = .ok (.iload_n 3, 1) := by decide +kernel
theorem dX9_sees_25 : decode cX9_sees 25 = .ok (.i2l, 1) := by decide +kernel
theorem dX9_sees_26 : decode cX9_sees 26 = .ok (.lconst 0, 1) := by decide +kernel
theorem dX9_sees_27 : decode cX9_sees 27 = .ok (.ldc2_w 175, 3) := by decide +kernel
theorem dX9_sees_30 : decode cX9_sees 30 = .ok (.invokestatic 50, 3) := by decide +kernel
theorem dX9_sees_33 : decode cX9_sees 33 = .ok (.ifCond .ne 5, 3) := by decide +kernel
theorem dX9_sees_36 : decode cX9_sees 36 = .ok (.iconst (-1), 1) := by decide +kernel
theorem dX9_sees_37 : decode cX9_sees 37 = .ok (.ireturn, 1) := by decide +kernel
theorem dX9_sees_38 : decode cX9_sees 38 = .ok (.aload_n 0, 1) := by decide +kernel
theorem dX9_sees_39 : decode cX9_sees 39 = .ok (.getfield 114, 3) := by decide +kernel
theorem dX9_sees_42 : decode cX9_sees 42 = .ok (.bipush 6, 2) := by decide +kernel
theorem dX9_sees_44 : decode cX9_sees 44 = .ok (.if_icmp .ne 6, 3) := by decide +kernel
theorem dX9_sees_47 : decode cX9_sees 47 = .ok (.bipush (-3), 2) := by decide +kernel
theorem dX9_sees_49 : decode cX9_sees 49 = .ok (.ireturn, 1) := by decide +kernel
theorem dX9_sees_50 : decode cX9_sees 50 = .ok (.aload_n 0, 1) := by decide +kernel
theorem dX9_sees_51 : decode cX9_sees 51 = .ok (.getfield 39, 3) := by decide +kernel
theorem dX9_sees_54 : decode cX9_sees 54 = .ok (.aload_n 0, 1) := by decide +kernel
theorem dX9_sees_55 : decode cX9_sees 55 = .ok (.getfield 114, 3) := by decide +kernel
theorem dX9_sees_58 : decode cX9_sees 58 = .ok (.iload_n 1, 1) := by decide +kernel
theorem dX9_sees_59 : decode cX9_sees 59 = .ok (.iastore, 1) := by decide +kernel
theorem dX9_sees_60 : decode cX9_sees 60 = .ok (.aload_n 0, 1) := by decide +kernel
theorem dX9_sees_61 : decode cX9_sees 61 = .ok (.getfield 42, 3) := by decide +kernel
theorem dX9_sees_64 : decode cX9_sees 64 = .ok (.aload_n 0, 1) := by decide +kernel
theorem dX9_sees_65 : decode cX9_sees 65 = .ok (.getfield 114, 3) := by decide +kernel
theorem dX9_sees_68 : decode cX9_sees 68 = .ok (.iload_n 2, 1) := by decide +kernel
theorem dX9_sees_69 : decode cX9_sees 69 = .ok (.iastore, 1) := by decide +kernel
theorem dX9_sees_70 : decode cX9_sees 70 = .ok (.aload_n 0, 1) := by decide +kernel
theorem dX9_sees_71 : decode cX9_sees 71 = .ok (.getfield 45, 3) := by decide +kernel
theorem dX9_sees_74 : decode cX9_sees 74 = .ok (.aload_n 0, 1) := by decide +kernel
theorem dX9_sees_75 : decode cX9_sees 75 = .ok (.getfield 114, 3) := by decide +kernel
theorem dX9_sees_78 : decode cX9_sees 78 = .ok (.iload_n 3, 1) := by decide +kernel
theorem dX9_sees_79 : decode cX9_sees 79 = .ok (.iastore, 1) := by decide +kernel
theorem dX9_sees_80 : decode cX9_sees 80 = .ok (.aload_n 0, 1) := by decide +kernel
theorem dX9_sees_81 : decode cX9_sees 81 = .ok (.dup, 1) := by decide +kernel
theorem dX9_sees_82 : decode cX9_sees 82 = .ok (.getfield 114, 3) := by decide +kernel
theorem dX9_sees_85 : decode cX9_sees 85 = .ok (.iconst 1, 1) := by decide +kernel
theorem dX9_sees_86 : decode cX9_sees 86 = .ok (.iadd, 1) := by decide +kernel
theorem dX9_sees_87 : decode cX9_sees 87 = .ok (.putfield 114, 3) := by decide +kernel
theorem dX9_sees_90 : decode cX9_sees 90 = .ok (.aload_n 0, 1) := by decide +kernel
theorem dX9_sees_91 : decode cX9_sees 91 = .ok (.getfield 114, 3) := by decide +kernel
theorem dX9_sees_94 : decode cX9_sees 94 = .ok (.ireturn, 1) := by decide +kernel
theorem dX9_forget_0 : decode cX9_forget 0 = .ok (.aload_n 0, 1) := by decide +kernel
theorem dX9_forget_1 : decode cX9_forget 1 = .ok (.getfield 114, 3) := by decide +kernel
theorem dX9_forget_4 : decode cX9_forget 4 = .ok (.istore_n 1, 1) := by decide +kernel
theorem dX9_forget_5 : decode cX9_forget 5 = .ok (.aload_n 0, 1) := by decide +kernel
theorem dX9_forget_6 : decode cX9_forget 6 = .ok (.iconst 0, 1) := by decide +kernel
theorem dX9_forget_7 : decode cX9_forget 7 = .ok (.putfield 114, 3) := by decide +kernel
theorem dX9_forget_10 : decode cX9_forget 10 = .ok (.iload_n 1, 1) := by decide +kernel
theorem dX9_forget_11 : decode cX9_forget 11 = .ok (.ireturn, 1) := by decide +kernel
theorem dX9_spun_0 : decode cX9_spun 0 = .ok (.iconst 0, 1) := by decide +kernel
theorem dX9_spun_1 : decode cX9_spun 1 = .ok (.iload_n 0, 1) := by decide +kernel
theorem dX9_spun_2 : decode cX9_spun 2 = .ok (.iload_n 1, 1) := by decide +kernel
theorem dX9_spun_3 : decode cX9_spun 3 = .ok (.iload_n 2, 1) := by decide +kernel
theorem dX9_spun_4 : decode cX9_spun 4 = .ok (.imul, 1) := by decide +kernel
theorem dX9_spun_5 : decode cX9_spun 5 = .ok (.isub, 1) := by decide +kernel
theorem dX9_spun_6 : decode cX9_spun 6 = .ok (.invokestatic 145, 3) := by decide +kernel
theorem dX9_spun_9 : decode cX9_spun 9 = .ok (.ireturn, 1) := by decide +kernel
theorem dX9_isSo_0 : decode cX9_isSo 0 = .ok (.iconst 1, 1) := by decide +kernel
theorem dX9_isSo_1 : decode cX9_isSo 1 = .ok (.istore_n 2, 1) := by decide +kernel
theorem dX9_isSo_2 : decode cX9_isSo 2 = .ok (.iconst 0, 1) := by decide +kernel
theorem dX9_isSo_3 : decode cX9_isSo 3 = .ok (.istore_n 3, 1) := by decide +kernel
theorem dX9_isSo_4 : decode cX9_isSo 4 = .ok (.iload_n 3, 1) := by decide +kernel
theorem dX9_isSo_5 : decode cX9_isSo 5 = .ok (.aload_n 0, 1) := by decide +kernel
theorem dX9_isSo_6 : decode cX9_isSo 6 = .ok (.getfield 114, 3) := by decide +kernel
theorem dX9_isSo_9 : decode cX9_isSo 9 = .ok (.if_icmp .ge 44, 3) := by decide +kernel
theorem dX9_isSo_12 : decode cX9_isSo 12 = .ok (.iload_n 2, 1) := by decide +kernel
theorem dX9_isSo_13 : decode cX9_isSo 13 = .ok (.ifCond .eq 32, 3) := by decide +kernel
theorem dX9_isSo_16 : decode cX9_isSo 16 = .ok (.aload_n 0, 1) := by decide +kernel
theorem dX9_isSo_17 : decode cX9_isSo 17 = .ok (.getfield 39, 3) := by decide +kernel
theorem dX9_isSo_20 : decode cX9_isSo 20 = .ok (.iload_n 3, 1) := by decide +kernel
theorem dX9_isSo_21 : decode cX9_isSo 21 = .ok (.iaload, 1) := by decide +kernel
theorem dX9_isSo_22 : decode cX9_isSo 22 = .ok (.aload_n 0, 1) := by decide +kernel
theorem dX9_isSo_23 : decode cX9_isSo 23 = .ok (.getfield 42, 3) := by decide +kernel
theorem dX9_isSo_26 : decode cX9_isSo 26 = .ok (.iload_n 3, 1) := by decide +kernel
theorem dX9_isSo_27 : decode cX9_isSo 27 = .ok (.iaload, 1) := by decide +kernel
theorem dX9_isSo_28 : decode cX9_isSo 28 = .ok (.iload_n 1, 1) := by decide +kernel
theorem dX9_isSo_29 : decode cX9_isSo 29 = .ok (.invokestatic 184, 3) := by decide +kernel
theorem dX9_isSo_32 : decode cX9_isSo 32 = .ok (.aload_n 0, 1) := by decide +kernel
theorem dX9_isSo_33 : decode cX9_isSo 33 = .ok (.getfield 45, 3) := by decide +kernel
theorem dX9_isSo_36 : decode cX9_isSo 36 = .ok (.iload_n 3, 1) := by decide +kernel
theorem dX9_isSo_37 : decode cX9_isSo 37 = .ok (.iaload, 1) := by decide +kernel
theorem dX9_isSo_38 : decode cX9_isSo 38 = .ok (.if_icmp .ne 7, 3) := by decide +kernel
theorem dX9_isSo_41 : decode cX9_isSo 41 = .ok (.iconst 1, 1) := by decide +kernel
theorem dX9_isSo_42 : decode cX9_isSo 42 = .ok (.goto 4, 3) := by decide +kernel
theorem dX9_isSo_45 : decode cX9_isSo 45 = .ok (.iconst 0, 1) := by decide +kernel
theorem dX9_isSo_46 : decode cX9_isSo 46 = .ok (.istore_n 2, 1) := by decide +kernel
theorem dX9_isSo_47 : decode cX9_isSo 47 = .ok (.iinc 3 1, 3) := by decide +kernel
theorem dX9_isSo_50 : decode cX9_isSo 50 = .ok (.goto (-46), 3) := by decide +kernel
theorem dX9_isSo_53 : decode cX9_isSo 53 = .ok (.iload_n 2, 1) := by decide +kernel
theorem dX9_isSo_54 : decode cX9_isSo 54 = .ok (.ireturn, 1) := by decide +kernel
theorem dX9_drags_0 : decode cX9_drags 0 = .ok (.iload_n 1, 1) := by decide +kernel
theorem dX9_drags_1 : decode cX9_drags 1 = .ok (.i2l, 1) := by decide +kernel
theorem dX9_drags_2 : decode cX9_drags 2 = .ok (.lconst 0, 1) := by decide +kernel
theorem dX9_drags_3 : decode cX9_drags 3 = .ok (.ldc2_w 173, 3) := by decide +kernel
theorem dX9_drags_6 : decode cX9_drags 6 = .ok (.invokestatic 50, 3) := by decide +kernel
theorem dX9_drags_9 : decode cX9_drags 9 = .ok (.ifCond .ne 5, 3) := by decide +kernel
theorem dX9_drags_12 : decode cX9_drags 12 = .ok (.iconst (-1), 1) := by decide +kernel
theorem dX9_drags_13 : decode cX9_drags 13 = .ok (.ireturn, 1) := by decide +kernel
theorem dX9_drags_14 : decode cX9_drags 14 = .ok (.iconst 0, 1) := by decide +kernel
theorem dX9_drags_15 : decode cX9_drags 15 = .ok (.istore_n 2, 1) := by decide +kernel
theorem dX9_drags_16 : decode cX9_drags 16 = .ok (.bipush (-9), 2) := by decide +kernel
theorem dX9_drags_18 : decode cX9_drags 18 = .ok (.istore_n 3, 1) := by decide +kernel
theorem dX9_drags_19 : decode cX9_drags 19 = .ok (.bipush (-9), 2) := by decide +kernel
theorem dX9_drags_21 : decode cX9_drags 21 = .ok (.istore 4, 2) := by decide +kernel
theorem dX9_drags_23 : decode cX9_drags 23 = .ok (.iconst 1, 1) := by decide +kernel
theorem dX9_drags_24 : decode cX9_drags 24 = .ok (.istore 5, 2) := by decide +kernel
theorem dX9_drags_26 : decode cX9_drags 26 = .ok (.iload 5, 2) := by decide +kernel
theorem dX9_drags_28 : decode cX9_drags 28 = .ok (.bipush 10, 2) := by decide +kernel
theorem dX9_drags_30 : decode cX9_drags 30 = .ok (.if_icmp .ge 60, 3) := by decide +kernel
theorem dX9_drags_33 : decode cX9_drags 33 = .ok (.aload_n 0, 1) := by decide +kernel
theorem dX9_drags_34 : decode cX9_drags 34 = .ok (.iload 5, 2) := by decide +kernel
theorem dX9_drags_36 : decode cX9_drags 36 = .ok (.invokevirtual 187, 3) := by decide +kernel
theorem dX9_drags_39 : decode cX9_drags 39 = .ok (.istore 6, 2) := by decide +kernel
theorem dX9_drags_41 : decode cX9_drags 41 = .ok (.iload_n 2, 1) := by decide +kernel
theorem dX9_drags_42 : decode cX9_drags 42 = .ok (.iload 6, 2) := by decide +kernel
theorem dX9_drags_44 : decode cX9_drags 44 = .ok (.ifCond .eq 7, 3) := by decide +kernel
theorem dX9_drags_47 : decode cX9_drags 47 = .ok (.iconst 1, 1) := by decide +kernel
theorem dX9_drags_48 : decode cX9_drags 48 = .ok (.goto 4, 3) := by decide +kernel
theorem dX9_drags_51 : decode cX9_drags 51 = .ok (.iconst 0, 1) := by decide +kernel
theorem dX9_drags_52 : decode cX9_drags 52 = .ok (.iadd, 1) := by decide +kernel
theorem dX9_drags_53 : decode cX9_drags 53 = .ok (.istore_n 2, 1) := by decide +kernel
theorem dX9_drags_54 : decode cX9_drags 54 = .ok (.iload 6, 2) := by decide +kernel
theorem dX9_drags_56 : decode cX9_drags 56 = .ok (.ifCond .eq 12, 3) := by decide +kernel
theorem dX9_drags_59 : decode cX9_drags 59 = .ok (.iload_n 3, 1) := by decide +kernel
theorem dX9_drags_60 : decode cX9_drags 60 = .ok (.ifCond .ge 8, 3) := by decide +kernel
theorem dX9_drags_63 : decode cX9_drags 63 = .ok (.iload 5, 2) := by decide +kernel
theorem dX9_drags_65 : decode cX9_drags 65 = .ok (.goto 4, 3) := by decide +kernel
theorem dX9_drags_68 : decode cX9_drags 68 = .ok (.iload_n 3, 1) := by decide +kernel
theorem dX9_drags_69 : decode cX9_drags 69 = .ok (.istore_n 3, 1) := by decide +kernel
theorem dX9_drags_70 : decode cX9_drags 70 = .ok (.iload 6, 2) := by decide +kernel
theorem dX9_drags_72 : decode cX9_drags 72 = .ok (.ifCond .eq 8, 3) := by decide +kernel
theorem dX9_drags_75 : decode cX9_drags 75 = .ok (.iload 5, 2) := by decide +kernel
theorem dX9_drags_77 : decode cX9_drags 77 = .ok (.goto 5, 3) := by decide +kernel
theorem dX9_drags_80 : decode cX9_drags 80 = .ok (.iload 4, 2) := by decide +kernel
theorem dX9_drags_82 : decode cX9_drags 82 = .ok (.istore 4, 2) := by decide +kernel
theorem dX9_drags_84 : decode cX9_drags 84 = .ok (.iinc 5 1, 3) := by decide +kernel
theorem dX9_drags_87 : decode cX9_drags 87 = .ok (.goto (-61), 3) := by decide +kernel
theorem dX9_drags_90 : decode cX9_drags 90 = .ok (.iload_n 1, 1) := by decide +kernel
theorem dX9_drags_91 : decode cX9_drags 91 = .ok (.ifCond .ne 7, 3) := by decide +kernel
theorem dX9_drags_94 : decode cX9_drags 94 = .ok (.iload_n 2, 1) := by decide +kernel
theorem dX9_drags_95 : decode cX9_drags 95 = .ok (.goto 14, 3) := by decide +kernel
theorem dX9_drags_98 : decode cX9_drags 98 = .ok (.iload_n 1, 1) := by decide +kernel
theorem dX9_drags_99 : decode cX9_drags 99 = .ok (.iconst 1, 1) := by decide +kernel
theorem dX9_drags_100 : decode cX9_drags 100 = .ok (.if_icmp .ne 7, 3) := by decide +kernel
theorem dX9_drags_103 : decode cX9_drags 103 = .ok (.iload_n 3, 1) := by decide +kernel
theorem dX9_drags_104 : decode cX9_drags 104 = .ok (.goto 5, 3) := by decide +kernel
theorem dX9_drags_107 : decode cX9_drags 107 = .ok (.iload 4, 2) := by decide +kernel
theorem dX9_drags_109 : decode cX9_drags 109 = .ok (.ireturn, 1) := by decide +kernel
theorem dX9_look_0 : decode cX9_look 0 = .ok (.iload_n 1, 1) := by decide +kernel
theorem dX9_look_1 : decode cX9_look 1 = .ok (.i2l, 1) := by decide +kernel
theorem dX9_look_2 : decode cX9_look 2 = .ok (.lconst 1, 1) := by decide +kernel
theorem dX9_look_3 : decode cX9_look 3 = .ok (.ldc2_w 175, 3) := by decide +kernel
theorem dX9_look_6 : decode cX9_look 6 = .ok (.invokestatic 50, 3) := by decide +kernel
theorem dX9_look_9 : decode cX9_look 9 = .ok (.ifCond .ne 5, 3) := by decide +kernel
theorem dX9_look_12 : decode cX9_look 12 = .ok (.iconst (-1), 1) := by decide +kernel
theorem dX9_look_13 : decode cX9_look 13 = .ok (.ireturn, 1) := by decide +kernel
theorem dX9_look_14 : decode cX9_look 14 = .ok (.bipush (-9), 2) := by decide +kernel
theorem dX9_look_16 : decode cX9_look 16 = .ok (.istore_n 2, 1) := by decide +kernel
theorem dX9_look_17 : decode cX9_look 17 = .ok (.bipush 99, 2) := by decide +kernel
theorem dX9_look_19 : decode cX9_look 19 = .ok (.istore_n 3, 1) := by decide +kernel
theorem dX9_look_20 : decode cX9_look 20 = .ok (.iconst 1, 1) := by decide +kernel
theorem dX9_look_21 : decode cX9_look 21 = .ok (.istore 4, 2) := by decide +kernel
theorem dX9_look_23 : decode cX9_look 23 = .ok (.iload 4, 2) := by decide +kernel
theorem dX9_look_25 : decode cX9_look 25 = .ok (.bipush 20, 2) := by decide +kernel
theorem dX9_look_27 : decode cX9_look 27 = .ok (.if_icmp .gt 138, 3) := by decide +kernel
theorem dX9_look_30 : decode cX9_look 30 = .ok (.aload_n 0, 1) := by decide +kernel
theorem dX9_look_31 : decode cX9_look 31 = .ok (.iconst 0, 1) := by decide +kernel
theorem dX9_look_32 : decode cX9_look 32 = .ok (.invokevirtual 190, 3) := by decide +kernel
theorem dX9_look_35 : decode cX9_look 35 = .ok (.iconst 1, 1) := by decide +kernel
theorem dX9_look_36 : decode cX9_look 36 = .ok (.if_icmp .le 129, 3) := by decide +kernel
theorem dX9_look_39 : decode cX9_look 39 = .ok (.iconst 0, 1) := by decide +kernel
theorem dX9_look_40 : decode cX9_look 40 = .ok (.istore 5, 2) := by decide +kernel
theorem dX9_look_42 : decode cX9_look 42 = .ok (.iconst 1, 1) := by decide +kernel
theorem dX9_look_43 : decode cX9_look 43 = .ok (.istore 6, 2) := by decide +kernel
theorem dX9_look_45 : decode cX9_look 45 = .ok (.iload 6, 2) := by decide +kernel
theorem dX9_look_47 : decode cX9_look 47 = .ok (.bipush 10, 2) := by decide +kernel
theorem dX9_look_49 : decode cX9_look 49 = .ok (.if_icmp .ge 84, 3) := by decide +kernel
theorem dX9_look_52 : decode cX9_look 52 = .ok (.iconst 0, 1) := by decide +kernel
theorem dX9_look_53 : decode cX9_look 53 = .ok (.istore 7, 2) := by decide +kernel
theorem dX9_look_55 : decode cX9_look 55 = .ok (.iconst 1, 1) := by decide +kernel
theorem dX9_look_56 : decode cX9_look 56 = .ok (.istore 8, 2) := by decide +kernel
theorem dX9_look_58 : decode cX9_look 58 = .ok (.iload 8, 2) := by decide +kernel
theorem dX9_look_60 : decode cX9_look 60 = .ok (.bipush 10, 2) := by decide +kernel
theorem dX9_look_62 : decode cX9_look 62 = .ok (.if_icmp .ge 56, 3) := by decide +kernel
theorem dX9_look_65 : decode cX9_look 65 = .ok (.iload 7, 2) := by decide +kernel
theorem dX9_look_67 : decode cX9_look 67 = .ok (.aload_n 0, 1) := by decide +kernel
theorem dX9_look_68 : decode cX9_look 68 = .ok (.iload 6, 2) := by decide +kernel
theorem dX9_look_70 : decode cX9_look 70 = .ok (.invokevirtual 187, 3) := by decide +kernel
theorem dX9_look_73 : decode cX9_look 73 = .ok (.ifCond .eq 35, 3) := by decide +kernel
theorem dX9_look_76 : decode cX9_look 76 = .ok (.aload_n 0, 1) := by decide +kernel
theorem dX9_look_77 : decode cX9_look 77 = .ok (.iload 8, 2) := by decide +kernel
theorem dX9_look_79 : decode cX9_look 79 = .ok (.invokevirtual 187, 3) := by decide +kernel
theorem dX9_look_82 : decode cX9_look 82 = .ok (.ifCond .eq 26, 3) := by decide +kernel
theorem dX9_look_85 : decode cX9_look 85 = .ok (.iload_n 1, 1) := by decide +kernel
theorem dX9_look_86 : decode cX9_look 86 = .ok (.iload 4, 2) := by decide +kernel
theorem dX9_look_88 : decode cX9_look 88 = .ok (.iload 6, 2) := by decide +kernel
theorem dX9_look_90 : decode cX9_look 90 = .ok (.invokestatic 184, 3) := by decide +kernel
theorem dX9_look_93 : decode cX9_look 93 = .ok (.iload_n 1, 1) := by decide +kernel
theorem dX9_look_94 : decode cX9_look 94 = .ok (.iload 4, 2) := by decide +kernel
theorem dX9_look_96 : decode cX9_look 96 = .ok (.iload 8, 2) := by decide +kernel
theorem dX9_look_98 : decode cX9_look 98 = .ok (.invokestatic 184, 3) := by decide +kernel
theorem dX9_look_101 : decode cX9_look 101 = .ok (.if_icmp .ne 7, 3) := by decide +kernel
theorem dX9_look_104 : decode cX9_look 104 = .ok (.iconst 1, 1) := by decide +kernel
theorem dX9_look_105 : decode cX9_look 105 = .ok (.goto 4, 3) := by decide +kernel
theorem dX9_look_108 : decode cX9_look 108 = .ok (.iconst 0, 1) := by decide +kernel
theorem dX9_look_109 : decode cX9_look 109 = .ok (.iadd, 1) := by decide +kernel
theorem dX9_look_110 : decode cX9_look 110 = .ok (.istore 7, 2) := by decide +kernel
theorem dX9_look_112 : decode cX9_look 112 = .ok (.iinc 8 1, 3) := by decide +kernel
theorem dX9_look_115 : decode cX9_look 115 = .ok (.goto (-57), 3) := by decide +kernel
theorem dX9_look_118 : decode cX9_look 118 = .ok (.iload 5, 2) := by decide +kernel
theorem dX9_look_120 : decode cX9_look 120 = .ok (.iload 7, 2) := by decide +kernel
theorem dX9_look_122 : decode cX9_look 122 = .ok (.invokestatic 145, 3) := by decide +kernel
theorem dX9_look_125 : decode cX9_look 125 = .ok (.istore 5, 2) := by decide +kernel
theorem dX9_look_127 : decode cX9_look 127 = .ok (.iinc 6 1, 3) := by decide +kernel
theorem dX9_look_130 : decode cX9_look 130 = .ok (.goto (-85), 3) := by decide +kernel
theorem dX9_look_133 : decode cX9_look 133 = .ok (.iload 5, 2) := by decide +kernel
theorem dX9_look_135 : decode cX9_look 135 = .ok (.iload_n 3, 1) := by decide +kernel
theorem dX9_look_136 : decode cX9_look 136 = .ok (.if_icmp .ge 8, 3) := by decide +kernel
theorem dX9_look_139 : decode cX9_look 139 = .ok (.iload 4, 2) := by decide +kernel
theorem dX9_look_141 : decode cX9_look 141 = .ok (.goto 4, 3) := by decide +kernel
theorem dX9_look_144 : decode cX9_look 144 = .ok (.iload_n 2, 1) := by decide +kernel
theorem dX9_look_145 : decode cX9_look 145 = .ok (.istore_n 2, 1) := by decide +kernel
theorem dX9_look_146 : decode cX9_look 146 = .ok (.iload 5, 2) := by decide +kernel
theorem dX9_look_148 : decode cX9_look 148 = .ok (.iload_n 3, 1) := by decide +kernel
theorem dX9_look_149 : decode cX9_look 149 = .ok (.if_icmp .ge 8, 3) := by decide +kernel
theorem dX9_look_152 : decode cX9_look 152 = .ok (.iload 5, 2) := by decide +kernel
theorem dX9_look_154 : decode cX9_look 154 = .ok (.goto 4, 3) := by decide +kernel
theorem dX9_look_157 : decode cX9_look 157 = .ok (.iload_n 3, 1) := by decide +kernel
theorem dX9_look_158 : decode cX9_look 158 = .ok (.istore_n 3, 1) := by decide +kernel
theorem dX9_look_159 : decode cX9_look 159 = .ok (.iinc 4 1, 3) := by decide +kernel
theorem dX9_look_162 : decode cX9_look 162 = .ok (.goto (-139), 3) := by decide +kernel
theorem dX9_look_165 : decode cX9_look 165 = .ok (.iload_n 2, 1) := by decide +kernel
theorem dX9_look_166 : decode cX9_look 166 = .ok (.ireturn, 1) := by decide +kernel
theorem dX9_rate_0 : decode cX9_rate 0 = .ok (.iload_n 1, 1) := by decide +kernel
theorem dX9_rate_1 : decode cX9_rate 1 = .ok (.i2l, 1) := by decide +kernel
theorem dX9_rate_2 : decode cX9_rate 2 = .ok (.lconst 0, 1) := by decide +kernel
theorem dX9_rate_3 : decode cX9_rate 3 = .ok (.ldc2_w 153, 3) := by decide +kernel
theorem dX9_rate_6 : decode cX9_rate 6 = .ok (.invokestatic 50, 3) := by decide +kernel
theorem dX9_rate_9 : decode cX9_rate 9 = .ok (.ifCond .eq 11, 3) := by decide +kernel
theorem dX9_rate_12 : decode cX9_rate 12 = .ok (.aload_n 0, 1) := by decide +kernel
theorem dX9_rate_13 : decode cX9_rate 13 = .ok (.iload_n 2, 1) := by decide +kernel
theorem dX9_rate_14 : decode cX9_rate 14 = .ok (.invokevirtual 148, 3) := by decide +kernel
theorem dX9_rate_17 : decode cX9_rate 17 = .ok (.ifCond .ne 6, 3) := by decide +kernel
theorem dX9_rate_20 : decode cX9_rate 20 = .ok (.ldc 193, 2) := by decide +kernel
theorem dX9_rate_22 : decode cX9_rate 22 = .ok (.ireturn, 1) := by decide +kernel
theorem dX9_rate_23 : decode cX9_rate 23 = .ok (.aload_n 0, 1) := by decide +kernel
theorem dX9_rate_24 : decode cX9_rate 24 = .ok (.getfield 29, 3) := by decide +kernel
theorem dX9_rate_27 : decode cX9_rate 27 = .ok (.bipush 6, 2) := by decide +kernel
theorem dX9_rate_29 : decode cX9_rate 29 = .ok (.iload_n 2, 1) := by decide +kernel
theorem dX9_rate_30 : decode cX9_rate 30 = .ok (.iadd, 1) := by decide +kernel
theorem dX9_rate_31 : decode cX9_rate 31 = .ok (.iaload, 1) := by decide +kernel
theorem dX9_rate_32 : decode cX9_rate 32 = .ok (.istore_n 3, 1) := by decide +kernel
theorem dX9_rate_33 : decode cX9_rate 33 = .ok (.aload_n 0, 1) := by decide +kernel
theorem dX9_rate_34 : decode cX9_rate 34 = .ok (.dup, 1) := by decide +kernel
theorem dX9_rate_35 : decode cX9_rate 35 = .ok (.getfield 194, 3) := by decide +kernel
theorem dX9_rate_38 : decode cX9_rate 38 = .ok (.lconst 1, 1) := by decide +kernel
theorem dX9_rate_39 : decode cX9_rate 39 = .ok (.ladd, 1) := by decide +kernel
theorem dX9_rate_40 : decode cX9_rate 40 = .ok (.putfield 194, 3) := by decide +kernel
theorem dX9_rate_43 : decode cX9_rate 43 = .ok (.iload_n 1, 1) := by decide +kernel
theorem dX9_rate_44 : decode cX9_rate 44 = .ok (.iconst 1, 1) := by decide +kernel
theorem dX9_rate_45 : decode cX9_rate 45 = .ok (.if_icmp .eq 8, 3) := by decide +kernel
theorem dX9_rate_48 : decode cX9_rate 48 = .ok (.iload_n 1, 1) := by decide +kernel
theorem dX9_rate_49 : decode cX9_rate 49 = .ok (.iconst 3, 1) := by decide +kernel
theorem dX9_rate_50 : decode cX9_rate 50 = .ok (.if_icmp .ne 24, 3) := by decide +kernel
theorem dX9_rate_53 : decode cX9_rate 53 = .ok (.iload_n 3, 1) := by decide +kernel
theorem dX9_rate_54 : decode cX9_rate 54 = .ok (.aload_n 0, 1) := by decide +kernel
theorem dX9_rate_55 : decode cX9_rate 55 = .ok (.getfield 16, 3) := by decide +kernel
theorem dX9_rate_58 : decode cX9_rate 58 = .ok (.iload_n 2, 1) := by decide +kernel
theorem dX9_rate_59 : decode cX9_rate 59 = .ok (.iaload, 1) := by decide +kernel
theorem dX9_rate_60 : decode cX9_rate 60 = .ok (.iadd, 1) := by decide +kernel
theorem dX9_rate_61 : decode cX9_rate 61 = .ok (.istore_n 3, 1) := by decide +kernel
theorem dX9_rate_62 : decode cX9_rate 62 = .ok (.aload_n 0, 1) := by decide +kernel
theorem dX9_rate_63 : decode cX9_rate 63 = .ok (.dup, 1) := by decide +kernel
theorem dX9_rate_64 : decode cX9_rate 64 = .ok (.getfield 194, 3) := by decide +kernel
theorem dX9_rate_67 : decode cX9_rate 67 = .ok (.ldc2_w 182, 3) := by decide +kernel
theorem dX9_rate_70 : decode cX9_rate 70 = .ok (.ladd, 1) := by decide +kernel
theorem dX9_rate_71 : decode cX9_rate 71 = .ok (.putfield 194, 3) := by decide +kernel
theorem dX9_rate_74 : decode cX9_rate 74 = .ok (.iload_n 1, 1) := by decide +kernel
theorem dX9_rate_75 : decode cX9_rate 75 = .ok (.iconst 2, 1) := by decide +kernel
theorem dX9_rate_76 : decode cX9_rate 76 = .ok (.if_icmp .eq 8, 3) := by decide +kernel
theorem dX9_rate_79 : decode cX9_rate 79 = .ok (.iload_n 1, 1) := by decide +kernel
theorem dX9_rate_80 : decode cX9_rate 80 = .ok (.iconst 4, 1) := by decide +kernel
theorem dX9_rate_81 : decode cX9_rate 81 = .ok (.if_icmp .ne 28, 3) := by decide +kernel
theorem dX9_rate_84 : decode cX9_rate 84 = .ok (.iload_n 3, 1) := by decide +kernel
theorem dX9_rate_85 : decode cX9_rate 85 = .ok (.aload_n 0, 1) := by decide +kernel
theorem dX9_rate_86 : decode cX9_rate 86 = .ok (.getfield 29, 3) := by decide +kernel
theorem dX9_rate_89 : decode cX9_rate 89 = .ok (.bipush 12, 2) := by decide +kernel
theorem dX9_rate_91 : decode cX9_rate 91 = .ok (.iaload, 1) := by decide +kernel
theorem dX9_rate_92 : decode cX9_rate 92 = .ok (.invokestatic 164, 3) := by decide +kernel
theorem dX9_rate_95 : decode cX9_rate 95 = .ok (.isub, 1) := by decide +kernel
theorem dX9_rate_96 : decode cX9_rate 96 = .ok (.istore_n 3, 1) := by decide +kernel
theorem dX9_rate_97 : decode cX9_rate 97 = .ok (.aload_n 0, 1) := by decide +kernel
theorem dX9_rate_98 : decode cX9_rate 98 = .ok (.dup, 1) := by decide +kernel
theorem dX9_rate_99 : decode cX9_rate 99 = .ok (.getfield 194, 3) := by decide +kernel
theorem dX9_rate_102 : decode cX9_rate 102 = .ok (.ldc2_w 198, 3) := by decide +kernel
theorem dX9_rate_105 : decode cX9_rate 105 = .ok (.ladd, 1) := by decide +kernel
theorem dX9_rate_106 : decode cX9_rate 106 = .ok (.putfield 194, 3) := by decide +kernel
theorem dX9_rate_109 : decode cX9_rate 109 = .ok (.iload_n 1, 1) := by decide +kernel
theorem dX9_rate_110 : decode cX9_rate 110 = .ok (.iconst 3, 1) := by decide +kernel
theorem dX9_rate_111 : decode cX9_rate 111 = .ok (.if_icmp .ne 19, 3) := by decide +kernel
theorem dX9_rate_114 : decode cX9_rate 114 = .ok (.iload_n 3, 1) := by decide +kernel
theorem dX9_rate_115 : decode cX9_rate 115 = .ok (.iconst 2, 1) := by decide +kernel
theorem dX9_rate_116 : decode cX9_rate 116 = .ok (.imul, 1) := by decide +kernel
theorem dX9_rate_117 : decode cX9_rate 117 = .ok (.istore_n 3, 1) := by decide +kernel
theorem dX9_rate_118 : decode cX9_rate 118 = .ok (.aload_n 0, 1) := by decide +kernel
theorem dX9_rate_119 : decode cX9_rate 119 = .ok (.dup, 1) := by decide +kernel
theorem dX9_rate_120 : decode cX9_rate 120 = .ok (.getfield 194, 3) := by decide +kernel
theorem dX9_rate_123 : decode cX9_rate 123 = .ok (.ldc2_w 200, 3) := by decide +kernel
theorem dX9_rate_126 : decode cX9_rate 126 = .ok (.ladd, 1) := by decide +kernel
theorem dX9_rate_127 : decode cX9_rate 127 = .ok (.putfield 194, 3) := by decide +kernel
theorem dX9_rate_130 : decode cX9_rate 130 = .ok (.iload_n 1, 1) := by decide +kernel
theorem dX9_rate_131 : decode cX9_rate 131 = .ok (.iconst 4, 1) := by decide +kernel
theorem dX9_rate_132 : decode cX9_rate 132 = .ok (.if_icmp .ne 19, 3) := by decide +kernel
theorem dX9_rate_135 : decode cX9_rate 135 = .ok (.iload_n 3, 1) := by decide +kernel
theorem dX9_rate_136 : decode cX9_rate 136 = .ok (.iload_n 2, 1) := by decide +kernel
theorem dX9_rate_137 : decode cX9_rate 137 = .ok (.iadd, 1) := by decide +kernel
theorem dX9_rate_138 : decode cX9_rate 138 = .ok (.istore_n 3, 1) := by decide +kernel
theorem dX9_rate_139 : decode cX9_rate 139 = .ok (.aload_n 0, 1) := by decide +kernel
theorem dX9_rate_140 : decode cX9_rate 140 = .ok (.dup, 1) := by decide +kernel
theorem dX9_rate_141 : decode cX9_rate 141 = .ok (.getfield 194, 3) := by decide +kernel
theorem dX9_rate_144 : decode cX9_rate 144 = .ok (.ldc2_w 202, 3) := by decide +kernel
theorem dX9_rate_147 : decode cX9_rate 147 = .ok (.ladd, 1) := by decide +kernel
theorem dX9_rate_148 : decode cX9_rate 148 = .ok (.putfield 194, 3) := by decide +kernel
theorem dX9_rate_151 : decode cX9_rate 151 = .ok (.iload_n 1, 1) := by decide +kernel
theorem dX9_rate_152 : decode cX9_rate 152 = .ok (.iconst 5, 1) := by decide +kernel
theorem dX9_rate_153 : decode cX9_rate 153 = .ok (.if_icmp .ne 25, 3) := by decide +kernel
theorem dX9_rate_156 : decode cX9_rate 156 = .ok (.iload_n 3, 1) := by decide +kernel
theorem dX9_rate_157 : decode cX9_rate 157 = .ok (.aload_n 0, 1) := by decide +kernel
theorem dX9_rate_158 : decode cX9_rate 158 = .ok (.getfield 29, 3) := by decide +kernel
theorem dX9_rate_161 : decode cX9_rate 161 = .ok (.bipush 13, 2) := by decide +kernel
theorem dX9_rate_163 : decode cX9_rate 163 = .ok (.iaload, 1) := by decide +kernel
theorem dX9_rate_164 : decode cX9_rate 164 = .ok (.iadd, 1) := by decide +kernel
theorem dX9_rate_165 : decode cX9_rate 165 = .ok (.istore_n 3, 1) := by decide +kernel
theorem dX9_rate_166 : decode cX9_rate 166 = .ok (.aload_n 0, 1) := by decide +kernel
theorem dX9_rate_167 : decode cX9_rate 167 = .ok (.dup, 1) := by decide +kernel
theorem dX9_rate_168 : decode cX9_rate 168 = .ok (.getfield 194, 3) := by decide +kernel
theorem dX9_rate_171 : decode cX9_rate 171 = .ok (.ldc2_w 204, 3) := by decide +kernel
theorem dX9_rate_174 : decode cX9_rate 174 = .ok (.ladd, 1) := by decide +kernel
theorem dX9_rate_175 : decode cX9_rate 175 = .ok (.putfield 194, 3) := by decide +kernel
theorem dX9_rate_178 : decode cX9_rate 178 = .ok (.iload_n 3, 1) := by decide +kernel
theorem dX9_rate_179 : decode cX9_rate 179 = .ok (.ireturn, 1) := by decide +kernel
theorem dX9_keep_0 : decode cX9_keep 0 = .ok (.iload_n 1, 1) := by decide +kernel
theorem dX9_keep_1 : decode cX9_keep 1 = .ok (.i2l, 1) := by decide +kernel
theorem dX9_keep_2 : decode cX9_keep 2 = .ok (.lconst 0, 1) := by decide +kernel
theorem dX9_keep_3 : decode cX9_keep 3 = .ok (.lconst 1, 1) := by decide +kernel
theorem dX9_keep_4 : decode cX9_keep 4 = .ok (.invokestatic 50, 3) := by decide +kernel
theorem dX9_keep_7 : decode cX9_keep 7 = .ok (.ifCond .ne 5, 3) := by decide +kernel
theorem dX9_keep_10 : decode cX9_keep 10 = .ok (.iconst (-1), 1) := by decide +kernel
theorem dX9_keep_11 : decode cX9_keep 11 = .ok (.ireturn, 1) := by decide +kernel
theorem dX9_keep_12 : decode cX9_keep 12 = .ok (.aload_n 0, 1) := by decide +kernel
theorem dX9_keep_13 : decode cX9_keep 13 = .ok (.iconst 0, 1) := by decide +kernel
theorem dX9_keep_14 : decode cX9_keep 14 = .ok (.sipush 165, 3) := by decide +kernel
theorem dX9_keep_17 : decode cX9_keep 17 = .ok (.iload_n 1, 1) := by decide +kernel
theorem dX9_keep_18 : decode cX9_keep 18 = .ok (.bipush 15, 2) := by decide +kernel
theorem dX9_keep_20 : decode cX9_keep 20 = .ok (.imul, 1) := by decide +kernel
theorem dX9_keep_21 : decode cX9_keep 21 = .ok (.iadd, 1) := by decide +kernel
theorem dX9_keep_22 : decode cX9_keep 22 = .ok (.invokevirtual 131, 3) := by decide +kernel
theorem dX9_keep_25 : decode cX9_keep 25 = .ok (.aload_n 0, 1) := by decide +kernel
theorem dX9_keep_26 : decode cX9_keep 26 = .ok (.getfield 32, 3) := by decide +kernel
theorem dX9_keep_29 : decode cX9_keep 29 = .ok (.iload_n 1, 1) := by decide +kernel
theorem dX9_keep_30 : decode cX9_keep 30 = .ok (.iconst 1, 1) := by decide +kernel
theorem dX9_keep_31 : decode cX9_keep 31 = .ok (.iastore, 1) := by decide +kernel
theorem dX9_keep_32 : decode cX9_keep 32 = .ok (.aload_n 0, 1) := by decide +kernel
theorem dX9_keep_33 : decode cX9_keep 33 = .ok (.getfield 29, 3) := by decide +kernel
theorem dX9_keep_36 : decode cX9_keep 36 = .ok (.bipush 13, 2) := by decide +kernel
theorem dX9_keep_38 : decode cX9_keep 38 = .ok (.iaload, 1) := by decide +kernel
theorem dX9_keep_39 : decode cX9_keep 39 = .ok (.ireturn, 1) := by decide +kernel
theorem dX9_back_0 : decode cX9_back 0 = .ok (.iload_n 1, 1) := by decide +kernel
theorem dX9_back_1 : decode cX9_back 1 = .ok (.i2l, 1) := by decide +kernel
theorem dX9_back_2 : decode cX9_back 2 = .ok (.lconst 0, 1) := by decide +kernel
theorem dX9_back_3 : decode cX9_back 3 = .ok (.lconst 1, 1) := by decide +kernel
theorem dX9_back_4 : decode cX9_back 4 = .ok (.invokestatic 50, 3) := by decide +kernel
theorem dX9_back_7 : decode cX9_back 7 = .ok (.ifCond .ne 5, 3) := by decide +kernel
theorem dX9_back_10 : decode cX9_back 10 = .ok (.iconst (-1), 1) := by decide +kernel
theorem dX9_back_11 : decode cX9_back 11 = .ok (.ireturn, 1) := by decide +kernel
theorem dX9_back_12 : decode cX9_back 12 = .ok (.aload_n 0, 1) := by decide +kernel
theorem dX9_back_13 : decode cX9_back 13 = .ok (.getfield 32, 3) := by decide +kernel
theorem dX9_back_16 : decode cX9_back 16 = .ok (.iload_n 1, 1) := by decide +kernel
theorem dX9_back_17 : decode cX9_back 17 = .ok (.iaload, 1) := by decide +kernel
theorem dX9_back_18 : decode cX9_back 18 = .ok (.ifCond .ne 6, 3) := by decide +kernel
theorem dX9_back_21 : decode cX9_back 21 = .ok (.bipush (-2), 2) := by decide +kernel
theorem dX9_back_23 : decode cX9_back 23 = .ok (.ireturn, 1) := by decide +kernel
theorem dX9_back_24 : decode cX9_back 24 = .ok (.aload_n 0, 1) := by decide +kernel
theorem dX9_back_25 : decode cX9_back 25 = .ok (.sipush 165, 3) := by decide +kernel
theorem dX9_back_28 : decode cX9_back 28 = .ok (.iload_n 1, 1) := by decide +kernel
theorem dX9_back_29 : decode cX9_back 29 = .ok (.bipush 15, 2) := by decide +kernel
theorem dX9_back_31 : decode cX9_back 31 = .ok (.imul, 1) := by decide +kernel
theorem dX9_back_32 : decode cX9_back 32 = .ok (.iadd, 1) := by decide +kernel
theorem dX9_back_33 : decode cX9_back 33 = .ok (.iconst 0, 1) := by decide +kernel
theorem dX9_back_34 : decode cX9_back 34 = .ok (.invokevirtual 131, 3) := by decide +kernel
theorem dX9_back_37 : decode cX9_back 37 = .ok (.aload_n 0, 1) := by decide +kernel
theorem dX9_back_38 : decode cX9_back 38 = .ok (.iconst 0, 1) := by decide +kernel
theorem dX9_back_39 : decode cX9_back 39 = .ok (.putfield 111, 3) := by decide +kernel
theorem dX9_back_42 : decode cX9_back 42 = .ok (.aload_n 0, 1) := by decide +kernel
theorem dX9_back_43 : decode cX9_back 43 = .ok (.getfield 29, 3) := by decide +kernel
theorem dX9_back_46 : decode cX9_back 46 = .ok (.bipush 13, 2) := by decide +kernel
theorem dX9_back_48 : decode cX9_back 48 = .ok (.iaload, 1) := by decide +kernel
theorem dX9_back_49 : decode cX9_back 49 = .ok (.ireturn, 1) := by decide +kernel
theorem dX9_count_0 : decode cX9_count 0 = .ok (.iload_n 1, 1) := by decide +kernel
theorem dX9_count_1 : decode cX9_count 1 = .ok (.ifCond .ne 10, 3) := by decide +kernel
theorem dX9_count_4 : decode cX9_count 4 = .ok (.aload_n 0, 1) := by decide +kernel
theorem dX9_count_5 : decode cX9_count 5 = .ok (.getfield 7, 3) := by decide +kernel
theorem dX9_count_8 : decode cX9_count 8 = .ok (.goto 52, 3) := by decide +kernel
theorem dX9_count_11 : decode cX9_count 11 = .ok (.iload_n 1, 1) := by decide +kernel
theorem dX9_count_12 : decode cX9_count 12 = .ok (.iconst 1, 1) := by decide +kernel
theorem dX9_count_13 : decode cX9_count 13 = .ok (.if_icmp .ne 10, 3) := by decide +kernel
theorem dX9_count_16 : decode cX9_count 16 = .ok (.aload_n 0, 1) := by decide +kernel
theorem dX9_count_17 : decode cX9_count 17 = .ok (.getfield 108, 3) := by decide +kernel
theorem dX9_count_20 : decode cX9_count 20 = .ok (.goto 40, 3) := by decide +kernel
theorem dX9_count_23 : decode cX9_count 23 = .ok (.iload_n 1, 1) := by decide +kernel
theorem dX9_count_24 : decode cX9_count 24 = .ok (.iconst 2, 1) := by decide +kernel
theorem dX9_count_25 : decode cX9_count 25 = .ok (.if_icmp .ne 10, 3) := by decide +kernel
theorem dX9_count_28 : decode cX9_count 28 = .ok (.aload_n 0, 1) := by decide +kernel
theorem dX9_count_29 : decode cX9_count 29 = .ok (.getfield 13, 3) := by decide +kernel
theorem dX9_count_32 : decode cX9_count 32 = .ok (.goto 28, 3) := by decide +kernel
theorem dX9_count_35 : decode cX9_count 35 = .ok (.iload_n 1, 1) := by decide +kernel
theorem dX9_count_36 : decode cX9_count 36 = .ok (.iconst 3, 1) := by decide +kernel
theorem dX9_count_37 : decode cX9_count 37 = .ok (.if_icmp .ne 10, 3) := by decide +kernel
theorem dX9_count_40 : decode cX9_count 40 = .ok (.aload_n 0, 1) := by decide +kernel
theorem dX9_count_41 : decode cX9_count 41 = .ok (.getfield 114, 3) := by decide +kernel
theorem dX9_count_44 : decode cX9_count 44 = .ok (.goto 16, 3) := by decide +kernel
theorem dX9_count_47 : decode cX9_count 47 = .ok (.iload_n 1, 1) := by decide +kernel
theorem dX9_count_48 : decode cX9_count 48 = .ok (.iconst 4, 1) := by decide +kernel
theorem dX9_count_49 : decode cX9_count 49 = .ok (.if_icmp .ne 10, 3) := by decide +kernel
theorem dX9_count_52 : decode cX9_count 52 = .ok (.aload_n 0, 1) := by decide +kernel
theorem dX9_count_53 : decode cX9_count 53 = .ok (.getfield 54, 3) := by decide +kernel
theorem dX9_count_56 : decode cX9_count 56 = .ok (.goto 4, 3) := by decide +kernel
theorem dX9_count_59 : decode cX9_count 59 = .ok (.iconst (-1), 1) := by decide +kernel
theorem dX9_count_60 : decode cX9_count 60 = .ok (.ireturn, 1) := by decide +kernel
theorem dX9_trace_0 : decode cX9_trace 0 = .ok (.aload_n 0, 1) := by decide +kernel
theorem dX9_trace_1 : decode cX9_trace 1 = .ok (.getfield 194, 3) := by decide +kernel
theorem dX9_trace_4 : decode cX9_trace 4 = .ok (.lreturn, 1) := by decide +kernel
