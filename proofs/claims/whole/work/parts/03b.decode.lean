theorem dX4_init_0 : decode cX4_init 0 = .ok (.aload_n 0, 1) := by decide +kernel
theorem dX4_init_1 : decode cX4_init 1 = .ok (.invokespecial 3, 3) := by decide +kernel
theorem dX4_init_4 : decode cX4_init 4 = .ok (.aload_n 0, 1) := by decide +kernel
theorem dX4_init_5 : decode cX4_init 5 = .ok (.new 9, 3) := by decide +kernel
theorem dX4_init_8 : decode cX4_init 8 = .ok (.dup, 1) := by decide +kernel
theorem dX4_init_9 : decode cX4_init 9 = .ok (.invokespecial 11, 3) := by decide +kernel
theorem dX4_init_12 : decode cX4_init 12 = .ok (.putfield 12, 3) := by decide +kernel
theorem dX4_init_15 : decode cX4_init 15 = .ok (.aload_n 0, 1) := by decide +kernel
theorem dX4_init_16 : decode cX4_init 16 = .ok (.new 18, 3) := by decide +kernel
theorem dX4_init_19 : decode cX4_init 19 = .ok (.dup, 1) := by decide +kernel
theorem dX4_init_20 : decode cX4_init 20 = .ok (.invokespecial 20, 3) := by decide +kernel
theorem dX4_init_23 : decode cX4_init 23 = .ok (.putfield 21, 3) := by decide +kernel
theorem dX4_init_26 : decode cX4_init 26 = .ok (.aload_n 0, 1) := by decide +kernel
theorem dX4_init_27 : decode cX4_init 27 = .ok (.iconst 0, 1) := by decide +kernel
theorem dX4_init_28 : decode cX4_init 28 = .ok (.putfield 25, 3) := by decide +kernel
theorem dX4_init_31 : decode cX4_init 31 = .ok (.aload_n 0, 1) := by decide +kernel
theorem dX4_init_32 : decode cX4_init 32 = .ok (.iconst 0, 1) := by decide +kernel
theorem dX4_init_33 : decode cX4_init 33 = .ok (.putfield 29, 3) := by decide +kernel
theorem dX4_init_36 : decode cX4_init 36 = .ok (.aload_n 0, 1) := by decide +kernel
theorem dX4_init_37 : decode cX4_init 37 = .ok (.iconst (-1), 1) := by decide +kernel
theorem dX4_init_38 : decode cX4_init 38 = .ok (.putfield 33, 3) := by decide +kernel
theorem dX4_init_41 : decode cX4_init 41 = .ok (.aload_n 0, 1) := by decide +kernel
theorem dX4_init_42 : decode cX4_init 42 = .ok (.iconst 0, 1) := by decide +kernel
theorem dX4_init_43 : decode cX4_init 43 = .ok (.putfield 36, 3) := by decide +kernel
theorem dX4_init_46 : decode cX4_init 46 = .ok (.aload_n 0, 1) := by decide +kernel
theorem dX4_init_47 : decode cX4_init 47 = .ok (.iconst 0, 1) := by decide +kernel
theorem dX4_init_48 : decode cX4_init 48 = .ok (.putfield 39, 3) := by decide +kernel
theorem dX4_init_51 : decode cX4_init 51 = .ok (.aload_n 0, 1) := by decide +kernel
theorem dX4_init_52 : decode cX4_init 52 = .ok (.iconst 0, 1) := by decide +kernel
theorem dX4_init_53 : decode cX4_init 53 = .ok (.putfield 42, 3) := by decide +kernel
theorem dX4_init_56 : decode cX4_init 56 = .ok (.aload_n 0, 1) := by decide +kernel
theorem dX4_init_57 : decode cX4_init 57 = .ok (.aload_n 1, 1) := by decide +kernel
theorem dX4_init_58 : decode cX4_init 58 = .ok (.putfield 45, 3) := by decide +kernel
theorem dX4_init_61 : decode cX4_init 61 = .ok (.return_, 1) := by decide +kernel
theorem dX4_read_0 : decode cX4_read 0 = .ok (.aload_n 0, 1) := by decide +kernel
theorem dX4_read_1 : decode cX4_read 1 = .ok (.getfield 12, 3) := by decide +kernel
theorem dX4_read_4 : decode cX4_read 4 = .ok (.invokevirtual 49, 3) := by decide +kernel
theorem dX4_read_7 : decode cX4_read 7 = .ok (.aload_n 0, 1) := by decide +kernel
theorem dX4_read_8 : decode cX4_read 8 = .ok (.getfield 21, 3) := by decide +kernel
theorem dX4_read_11 : decode cX4_read 11 = .ok (.invokevirtual 52, 3) := by decide +kernel
theorem dX4_read_14 : decode cX4_read 14 = .ok (.aload_n 0, 1) := by decide +kernel
theorem dX4_read_15 : decode cX4_read 15 = .ok (.iconst 0, 1) := by decide +kernel
theorem dX4_read_16 : decode cX4_read 16 = .ok (.putfield 25, 3) := by decide +kernel
theorem dX4_read_19 : decode cX4_read 19 = .ok (.aload_n 0, 1) := by decide +kernel
theorem dX4_read_20 : decode cX4_read 20 = .ok (.iconst 0, 1) := by decide +kernel
theorem dX4_read_21 : decode cX4_read 21 = .ok (.putfield 29, 3) := by decide +kernel
theorem dX4_read_24 : decode cX4_read 24 = .ok (.aload_n 0, 1) := by decide +kernel
theorem dX4_read_25 : decode cX4_read 25 = .ok (.iconst 0, 1) := by decide +kernel
theorem dX4_read_26 : decode cX4_read 26 = .ok (.putfield 42, 3) := by decide +kernel
theorem dX4_read_29 : decode cX4_read 29 = .ok (.aload_n 0, 1) := by decide +kernel
theorem dX4_read_30 : decode cX4_read 30 = .ok (.invokevirtual 53, 3) := by decide +kernel
theorem dX4_read_33 : decode cX4_read 33 = .ok (.iconst 0, 1) := by decide +kernel
theorem dX4_read_34 : decode cX4_read 34 = .ok (.istore_n 1, 1) := by decide +kernel
theorem dX4_read_35 : decode cX4_read 35 = .ok (.iload_n 1, 1) := by decide +kernel
theorem dX4_read_36 : decode cX4_read 36 = .ok (.bipush 120, 2) := by decide +kernel
theorem dX4_read_38 : decode cX4_read 38 = .ok (.if_icmp .ge 156, 3) := by decide +kernel
theorem dX4_read_41 : decode cX4_read 41 = .ok (.aload_n 0, 1) := by decide +kernel
theorem dX4_read_42 : decode cX4_read 42 = .ok (.getfield 33, 3) := by decide +kernel
theorem dX4_read_45 : decode cX4_read 45 = .ok (.iconst (-1), 1) := by decide +kernel
theorem dX4_read_46 : decode cX4_read 46 = .ok (.if_icmp .eq 148, 3) := by decide +kernel
theorem dX4_read_49 : decode cX4_read 49 = .ok (.iconst 0, 1) := by decide +kernel
theorem dX4_read_50 : decode cX4_read 50 = .ok (.istore_n 2, 1) := by decide +kernel
theorem dX4_read_51 : decode cX4_read 51 = .ok (.aload_n 0, 1) := by decide +kernel
theorem dX4_read_52 : decode cX4_read 52 = .ok (.getfield 33, 3) := by decide +kernel
theorem dX4_read_55 : decode cX4_read 55 = .ok (.lookupswitch 107 #[(108, 84), (110, 33), (116, 56)], 33) := by decide +kernel
theorem dX4_read_88 : decode cX4_read 88 = .ok (.aload_n 0, 1) := by decide +kernel
theorem dX4_read_89 : decode cX4_read 89 = .ok (.getfield 25, 3) := by decide +kernel
theorem dX4_read_92 : decode cX4_read 92 = .ok (.ifCond .ne 14, 3) := by decide +kernel
theorem dX4_read_95 : decode cX4_read 95 = .ok (.aload_n 0, 1) := by decide +kernel
theorem dX4_read_96 : decode cX4_read 96 = .ok (.invokevirtual 56, 3) := by decide +kernel
theorem dX4_read_99 : decode cX4_read 99 = .ok (.ifCond .eq 7, 3) := by decide +kernel
theorem dX4_read_102 : decode cX4_read 102 = .ok (.iconst 1, 1) := by decide +kernel
theorem dX4_read_103 : decode cX4_read 103 = .ok (.goto 4, 3) := by decide +kernel
theorem dX4_read_106 : decode cX4_read 106 = .ok (.iconst 0, 1) := by decide +kernel
theorem dX4_read_107 : decode cX4_read 107 = .ok (.istore_n 2, 1) := by decide +kernel
theorem dX4_read_108 : decode cX4_read 108 = .ok (.goto 54, 3) := by decide +kernel
theorem dX4_read_111 : decode cX4_read 111 = .ok (.aload_n 0, 1) := by decide +kernel
theorem dX4_read_112 : decode cX4_read 112 = .ok (.getfield 12, 3) := by decide +kernel
theorem dX4_read_115 : decode cX4_read 115 = .ok (.getfield 60, 3) := by decide +kernel
theorem dX4_read_118 : decode cX4_read 118 = .ok (.bipush 6, 2) := by decide +kernel
theorem dX4_read_120 : decode cX4_read 120 = .ok (.if_icmp .ge 14, 3) := by decide +kernel
theorem dX4_read_123 : decode cX4_read 123 = .ok (.aload_n 0, 1) := by decide +kernel
theorem dX4_read_124 : decode cX4_read 124 = .ok (.invokevirtual 63, 3) := by decide +kernel
theorem dX4_read_127 : decode cX4_read 127 = .ok (.ifCond .eq 7, 3) := by decide +kernel
theorem dX4_read_130 : decode cX4_read 130 = .ok (.iconst 1, 1) := by decide +kernel
theorem dX4_read_131 : decode cX4_read 131 = .ok (.goto 4, 3) := by decide +kernel
theorem dX4_read_134 : decode cX4_read 134 = .ok (.iconst 0, 1) := by decide +kernel
theorem dX4_read_135 : decode cX4_read 135 = .ok (.istore_n 2, 1) := by decide +kernel
theorem dX4_read_136 : decode cX4_read 136 = .ok (.goto 26, 3) := by decide +kernel
theorem dX4_read_139 : decode cX4_read 139 = .ok (.aload_n 0, 1) := by decide +kernel
theorem dX4_read_140 : decode cX4_read 140 = .ok (.getfield 29, 3) := by decide +kernel
theorem dX4_read_143 : decode cX4_read 143 = .ok (.ifCond .ne 14, 3) := by decide +kernel
theorem dX4_read_146 : decode cX4_read 146 = .ok (.aload_n 0, 1) := by decide +kernel
theorem dX4_read_147 : decode cX4_read 147 = .ok (.invokevirtual 66, 3) := by decide +kernel
theorem dX4_read_150 : decode cX4_read 150 = .ok (.ifCond .eq 7, 3) := by decide +kernel
theorem dX4_read_153 : decode cX4_read 153 = .ok (.iconst 1, 1) := by decide +kernel
theorem dX4_read_154 : decode cX4_read 154 = .ok (.goto 4, 3) := by decide +kernel
theorem dX4_read_157 : decode cX4_read 157 = .ok (.iconst 0, 1) := by decide +kernel
theorem dX4_read_158 : decode cX4_read 158 = .ok (.istore_n 2, 1) := by decide +kernel
theorem dX4_read_159 : decode cX4_read 159 = .ok (.goto 3, 3) := by decide +kernel
theorem dX4_read_162 : decode cX4_read 162 = .ok (.iload_n 2, 1) := by decide +kernel
theorem dX4_read_163 : decode cX4_read 163 = .ok (.ifCond .ne 11, 3) := by decide +kernel
theorem dX4_read_166 : decode cX4_read 166 = .ok (.bipush (-10), 2) := by decide +kernel
theorem dX4_read_168 : decode cX4_read 168 = .ok (.aload_n 0, 1) := by decide +kernel
theorem dX4_read_169 : decode cX4_read 169 = .ok (.getfield 39, 3) := by decide +kernel
theorem dX4_read_172 : decode cX4_read 172 = .ok (.isub, 1) := by decide +kernel
theorem dX4_read_173 : decode cX4_read 173 = .ok (.ireturn, 1) := by decide +kernel
theorem dX4_read_174 : decode cX4_read 174 = .ok (.aload_n 0, 1) := by decide +kernel
theorem dX4_read_175 : decode cX4_read 175 = .ok (.dup, 1) := by decide +kernel
theorem dX4_read_176 : decode cX4_read 176 = .ok (.getfield 25, 3) := by decide +kernel
theorem dX4_read_179 : decode cX4_read 179 = .ok (.iconst 1, 1) := by decide +kernel
theorem dX4_read_180 : decode cX4_read 180 = .ok (.iadd, 1) := by decide +kernel
theorem dX4_read_181 : decode cX4_read 181 = .ok (.putfield 25, 3) := by decide +kernel
theorem dX4_read_184 : decode cX4_read 184 = .ok (.aload_n 0, 1) := by decide +kernel
theorem dX4_read_185 : decode cX4_read 185 = .ok (.invokevirtual 53, 3) := by decide +kernel
theorem dX4_read_188 : decode cX4_read 188 = .ok (.iinc 1 1, 3) := by decide +kernel
theorem dX4_read_191 : decode cX4_read 191 = .ok (.goto (-156), 3) := by decide +kernel
theorem dX4_read_194 : decode cX4_read 194 = .ok (.aload_n 0, 1) := by decide +kernel
theorem dX4_read_195 : decode cX4_read 195 = .ok (.getfield 25, 3) := by decide +kernel
theorem dX4_read_198 : decode cX4_read 198 = .ok (.ireturn, 1) := by decide +kernel
theorem dX4_readPlaces_0 : decode cX4_readPlaces 0 = .ok (.aload_n 0, 1) := by decide +kernel
theorem dX4_readPlaces_1 : decode cX4_readPlaces 1 = .ok (.iconst 4, 1) := by decide +kernel
theorem dX4_readPlaces_2 : decode cX4_readPlaces 2 = .ok (.bipush 10, 2) := by decide +kernel
theorem dX4_readPlaces_4 : decode cX4_readPlaces 4 = .ok (.invokevirtual 69, 3) := by decide +kernel
theorem dX4_readPlaces_7 : decode cX4_readPlaces 7 = .ok (.ifCond .ne 5, 3) := by decide +kernel
theorem dX4_readPlaces_10 : decode cX4_readPlaces 10 = .ok (.iconst 0, 1) := by decide +kernel
theorem dX4_readPlaces_11 : decode cX4_readPlaces 11 = .ok (.ireturn, 1) := by decide +kernel
theorem dX4_readPlaces_12 : decode cX4_readPlaces 12 = .ok (.aload_n 0, 1) := by decide +kernel
theorem dX4_readPlaces_13 : decode cX4_readPlaces 13 = .ok (.getfield 12, 3) := by decide +kernel
theorem dX4_readPlaces_16 : decode cX4_readPlaces 16 = .ok (.aload_n 0, 1) := by decide +kernel
theorem dX4_readPlaces_17 : decode cX4_readPlaces 17 = .ok (.getfield 36, 3) := by decide +kernel
theorem dX4_readPlaces_20 : decode cX4_readPlaces 20 = .ok (.putfield 73, 3) := by decide +kernel
theorem dX4_readPlaces_23 : decode cX4_readPlaces 23 = .ok (.aload_n 0, 1) := by decide +kernel
theorem dX4_readPlaces_24 : decode cX4_readPlaces 24 = .ok (.invokevirtual 76, 3) := by decide +kernel
theorem dX4_readPlaces_27 : decode cX4_readPlaces 27 = .ok (.ireturn, 1) := by decide +kernel
theorem dX4_readSlow_0 : decode cX4_readSlow 0 = .ok (.aload_n 0, 1) := by decide +kernel
theorem dX4_readSlow_1 : decode cX4_readSlow 1 = .ok (.iconst 0, 1) := by decide +kernel
theorem dX4_readSlow_2 : decode cX4_readSlow 2 = .ok (.bipush 30, 2) := by decide +kernel
theorem dX4_readSlow_4 : decode cX4_readSlow 4 = .ok (.invokevirtual 69, 3) := by decide +kernel
theorem dX4_readSlow_7 : decode cX4_readSlow 7 = .ok (.ifCond .ne 5, 3) := by decide +kernel
theorem dX4_readSlow_10 : decode cX4_readSlow 10 = .ok (.iconst 0, 1) := by decide +kernel
theorem dX4_readSlow_11 : decode cX4_readSlow 11 = .ok (.ireturn, 1) := by decide +kernel
theorem dX4_readSlow_12 : decode cX4_readSlow 12 = .ok (.aload_n 0, 1) := by decide +kernel
theorem dX4_readSlow_13 : decode cX4_readSlow 13 = .ok (.getfield 12, 3) := by decide +kernel
theorem dX4_readSlow_16 : decode cX4_readSlow 16 = .ok (.aload_n 0, 1) := by decide +kernel
theorem dX4_readSlow_17 : decode cX4_readSlow 17 = .ok (.getfield 36, 3) := by decide +kernel
theorem dX4_readSlow_20 : decode cX4_readSlow 20 = .ok (.putfield 79, 3) := by decide +kernel
theorem dX4_readSlow_23 : decode cX4_readSlow 23 = .ok (.aload_n 0, 1) := by decide +kernel
theorem dX4_readSlow_24 : decode cX4_readSlow 24 = .ok (.iconst 1, 1) := by decide +kernel
theorem dX4_readSlow_25 : decode cX4_readSlow 25 = .ok (.putfield 29, 3) := by decide +kernel
theorem dX4_readSlow_28 : decode cX4_readSlow 28 = .ok (.aload_n 0, 1) := by decide +kernel
theorem dX4_readSlow_29 : decode cX4_readSlow 29 = .ok (.invokevirtual 76, 3) := by decide +kernel
theorem dX4_readSlow_32 : decode cX4_readSlow 32 = .ok (.ireturn, 1) := by decide +kernel
theorem dX4_readTop_0 : decode cX4_readTop 0 = .ok (.aload_n 0, 1) := by decide +kernel
theorem dX4_readTop_1 : decode cX4_readTop 1 = .ok (.iconst 0, 1) := by decide +kernel
theorem dX4_readTop_2 : decode cX4_readTop 2 = .ok (.aload_n 0, 1) := by decide +kernel
theorem dX4_readTop_3 : decode cX4_readTop 3 = .ok (.getfield 12, 3) := by decide +kernel
theorem dX4_readTop_6 : decode cX4_readTop 6 = .ok (.getfield 73, 3) := by decide +kernel
theorem dX4_readTop_9 : decode cX4_readTop 9 = .ok (.iconst 1, 1) := by decide +kernel
theorem dX4_readTop_10 : decode cX4_readTop 10 = .ok (.isub, 1) := by decide +kernel
theorem dX4_readTop_11 : decode cX4_readTop 11 = .ok (.invokevirtual 69, 3) := by decide +kernel
theorem dX4_readTop_14 : decode cX4_readTop 14 = .ok (.ifCond .eq 19, 3) := by decide +kernel
theorem dX4_readTop_17 : decode cX4_readTop 17 = .ok (.aload_n 0, 1) := by decide +kernel
theorem dX4_readTop_18 : decode cX4_readTop 18 = .ok (.getfield 21, 3) := by decide +kernel
theorem dX4_readTop_21 : decode cX4_readTop 21 = .ok (.aload_n 0, 1) := by decide +kernel
theorem dX4_readTop_22 : decode cX4_readTop 22 = .ok (.getfield 36, 3) := by decide +kernel
theorem dX4_readTop_25 : decode cX4_readTop 25 = .ok (.invokevirtual 82, 3) := by decide +kernel
theorem dX4_readTop_28 : decode cX4_readTop 28 = .ok (.bipush (-9), 2) := by decide +kernel
theorem dX4_readTop_30 : decode cX4_readTop 30 = .ok (.if_icmp .eq 5, 3) := by decide +kernel
theorem dX4_readTop_33 : decode cX4_readTop 33 = .ok (.iconst 0, 1) := by decide +kernel
theorem dX4_readTop_34 : decode cX4_readTop 34 = .ok (.ireturn, 1) := by decide +kernel
theorem dX4_readTop_35 : decode cX4_readTop 35 = .ok (.aload_n 0, 1) := by decide +kernel
theorem dX4_readTop_36 : decode cX4_readTop 36 = .ok (.getfield 36, 3) := by decide +kernel
theorem dX4_readTop_39 : decode cX4_readTop 39 = .ok (.istore_n 1, 1) := by decide +kernel
theorem dX4_readTop_40 : decode cX4_readTop 40 = .ok (.aload_n 0, 1) := by decide +kernel
theorem dX4_readTop_41 : decode cX4_readTop 41 = .ok (.iconst 1, 1) := by decide +kernel
theorem dX4_readTop_42 : decode cX4_readTop 42 = .ok (.bipush 60, 2) := by decide +kernel
theorem dX4_readTop_44 : decode cX4_readTop 44 = .ok (.invokevirtual 69, 3) := by decide +kernel
theorem dX4_readTop_47 : decode cX4_readTop 47 = .ok (.ifCond .ne 5, 3) := by decide +kernel
theorem dX4_readTop_50 : decode cX4_readTop 50 = .ok (.iconst 0, 1) := by decide +kernel
theorem dX4_readTop_51 : decode cX4_readTop 51 = .ok (.ireturn, 1) := by decide +kernel
theorem dX4_readTop_52 : decode cX4_readTop 52 = .ok (.aload_n 0, 1) := by decide +kernel
theorem dX4_readTop_53 : decode cX4_readTop 53 = .ok (.getfield 36, 3) := by decide +kernel
theorem dX4_readTop_56 : decode cX4_readTop 56 = .ok (.istore_n 2, 1) := by decide +kernel
theorem dX4_readTop_57 : decode cX4_readTop 57 = .ok (.aload_n 0, 1) := by decide +kernel
theorem dX4_readTop_58 : decode cX4_readTop 58 = .ok (.iconst 1, 1) := by decide +kernel
theorem dX4_readTop_59 : decode cX4_readTop 59 = .ok (.bipush 9, 2) := by decide +kernel
theorem dX4_readTop_61 : decode cX4_readTop 61 = .ok (.invokevirtual 69, 3) := by decide +kernel
theorem dX4_readTop_64 : decode cX4_readTop 64 = .ok (.ifCond .ne 5, 3) := by decide +kernel
theorem dX4_readTop_67 : decode cX4_readTop 67 = .ok (.iconst 0, 1) := by decide +kernel
theorem dX4_readTop_68 : decode cX4_readTop 68 = .ok (.ireturn, 1) := by decide +kernel
theorem dX4_readTop_69 : decode cX4_readTop 69 = .ok (.aload_n 0, 1) := by decide +kernel
theorem dX4_readTop_70 : decode cX4_readTop 70 = .ok (.getfield 21, 3) := by decide +kernel
theorem dX4_readTop_73 : decode cX4_readTop 73 = .ok (.getfield 86, 3) := by decide +kernel
theorem dX4_readTop_76 : decode cX4_readTop 76 = .ok (.aload_n 0, 1) := by decide +kernel
theorem dX4_readTop_77 : decode cX4_readTop 77 = .ok (.getfield 12, 3) := by decide +kernel
theorem dX4_readTop_80 : decode cX4_readTop 80 = .ok (.getfield 60, 3) := by decide +kernel
theorem dX4_readTop_83 : decode cX4_readTop 83 = .ok (.iload_n 1, 1) := by decide +kernel
theorem dX4_readTop_84 : decode cX4_readTop 84 = .ok (.iastore, 1) := by decide +kernel
theorem dX4_readTop_85 : decode cX4_readTop 85 = .ok (.aload_n 0, 1) := by decide +kernel
theorem dX4_readTop_86 : decode cX4_readTop 86 = .ok (.getfield 21, 3) := by decide +kernel
theorem dX4_readTop_89 : decode cX4_readTop 89 = .ok (.getfield 90, 3) := by decide +kernel
theorem dX4_readTop_92 : decode cX4_readTop 92 = .ok (.aload_n 0, 1) := by decide +kernel
theorem dX4_readTop_93 : decode cX4_readTop 93 = .ok (.getfield 12, 3) := by decide +kernel
theorem dX4_readTop_96 : decode cX4_readTop 96 = .ok (.getfield 60, 3) := by decide +kernel
theorem dX4_readTop_99 : decode cX4_readTop 99 = .ok (.iload_n 2, 1) := by decide +kernel
theorem dX4_readTop_100 : decode cX4_readTop 100 = .ok (.iastore, 1) := by decide +kernel
theorem dX4_readTop_101 : decode cX4_readTop 101 = .ok (.aload_n 0, 1) := by decide +kernel
theorem dX4_readTop_102 : decode cX4_readTop 102 = .ok (.getfield 12, 3) := by decide +kernel
theorem dX4_readTop_105 : decode cX4_readTop 105 = .ok (.getfield 93, 3) := by decide +kernel
theorem dX4_readTop_108 : decode cX4_readTop 108 = .ok (.aload_n 0, 1) := by decide +kernel
theorem dX4_readTop_109 : decode cX4_readTop 109 = .ok (.getfield 12, 3) := by decide +kernel
theorem dX4_readTop_112 : decode cX4_readTop 112 = .ok (.getfield 60, 3) := by decide +kernel
theorem dX4_readTop_115 : decode cX4_readTop 115 = .ok (.aload_n 0, 1) := by decide +kernel
theorem dX4_readTop_116 : decode cX4_readTop 116 = .ok (.getfield 36, 3) := by decide +kernel
theorem dX4_readTop_119 : decode cX4_readTop 119 = .ok (.iastore, 1) := by decide +kernel
theorem dX4_readTop_120 : decode cX4_readTop 120 = .ok (.aload_n 0, 1) := by decide +kernel
theorem dX4_readTop_121 : decode cX4_readTop 121 = .ok (.getfield 12, 3) := by decide +kernel
theorem dX4_readTop_124 : decode cX4_readTop 124 = .ok (.dup, 1) := by decide +kernel
theorem dX4_readTop_125 : decode cX4_readTop 125 = .ok (.getfield 60, 3) := by decide +kernel
theorem dX4_readTop_128 : decode cX4_readTop 128 = .ok (.iconst 1, 1) := by decide +kernel
theorem dX4_readTop_129 : decode cX4_readTop 129 = .ok (.iadd, 1) := by decide +kernel
theorem dX4_readTop_130 : decode cX4_readTop 130 = .ok (.putfield 60, 3) := by decide +kernel
theorem dX4_readTop_133 : decode cX4_readTop 133 = .ok (.aload_n 0, 1) := by decide +kernel
theorem dX4_readTop_134 : decode cX4_readTop 134 = .ok (.invokevirtual 76, 3) := by decide +kernel
theorem dX4_readTop_137 : decode cX4_readTop 137 = .ok (.ireturn, 1) := by decide +kernel
theorem dX4_readNumber_0 : decode cX4_readNumber 0 = .ok (.aload_n 0, 1) := by decide +kernel
theorem dX4_readNumber_1 : decode cX4_readNumber 1 = .ok (.invokevirtual 53, 3) := by decide +kernel
theorem dX4_readNumber_4 : decode cX4_readNumber 4 = .ok (.aload_n 0, 1) := by decide +kernel
theorem dX4_readNumber_5 : decode cX4_readNumber 5 = .ok (.getfield 33, 3) := by decide +kernel
theorem dX4_readNumber_8 : decode cX4_readNumber 8 = .ok (.bipush (-2), 2) := by decide +kernel
theorem dX4_readNumber_10 : decode cX4_readNumber 10 = .ok (.if_icmp .ne 19, 3) := by decide +kernel
theorem dX4_readNumber_13 : decode cX4_readNumber 13 = .ok (.aload_n 0, 1) := by decide +kernel
theorem dX4_readNumber_14 : decode cX4_readNumber 14 = .ok (.getfield 36, 3) := by decide +kernel
theorem dX4_readNumber_17 : decode cX4_readNumber 17 = .ok (.iload_n 1, 1) := by decide +kernel
theorem dX4_readNumber_18 : decode cX4_readNumber 18 = .ok (.iload_n 2, 1) := by decide +kernel
theorem dX4_readNumber_19 : decode cX4_readNumber 19 = .ok (.invokestatic 96, 3) := by decide +kernel
theorem dX4_readNumber_22 : decode cX4_readNumber 22 = .ok (.ifCond .eq 7, 3) := by decide +kernel
theorem dX4_readNumber_25 : decode cX4_readNumber 25 = .ok (.iconst 1, 1) := by decide +kernel
theorem dX4_readNumber_26 : decode cX4_readNumber 26 = .ok (.goto 4, 3) := by decide +kernel
theorem dX4_readNumber_29 : decode cX4_readNumber 29 = .ok (.iconst 0, 1) := by decide +kernel
theorem dX4_readNumber_30 : decode cX4_readNumber 30 = .ok (.ireturn, 1) := by decide +kernel
theorem dX4_readItemEnd_0 : decode cX4_readItemEnd 0 = .ok (.aload_n 0, 1) := by decide +kernel
theorem dX4_readItemEnd_1 : decode cX4_readItemEnd 1 = .ok (.invokevirtual 53, 3) := by decide +kernel
theorem dX4_readItemEnd_4 : decode cX4_readItemEnd 4 = .ok (.aload_n 0, 1) := by decide +kernel
theorem dX4_readItemEnd_5 : decode cX4_readItemEnd 5 = .ok (.getfield 33, 3) := by decide +kernel
theorem dX4_readItemEnd_8 : decode cX4_readItemEnd 8 = .ok (.bipush 59, 2) := by decide +kernel
theorem dX4_readItemEnd_10 : decode cX4_readItemEnd 10 = .ok (.if_icmp .ne 7, 3) := by decide +kernel
theorem dX4_readItemEnd_13 : decode cX4_readItemEnd 13 = .ok (.iconst 1, 1) := by decide +kernel
theorem dX4_readItemEnd_14 : decode cX4_readItemEnd 14 = .ok (.goto 4, 3) := by decide +kernel
theorem dX4_readItemEnd_17 : decode cX4_readItemEnd 17 = .ok (.iconst 0, 1) := by decide +kernel
theorem dX4_readItemEnd_18 : decode cX4_readItemEnd 18 = .ok (.ireturn, 1) := by decide +kernel
theorem dX4_nextToken_0 : decode cX4_nextToken 0 = .ok (.aload_n 0, 1) := by decide +kernel
theorem dX4_nextToken_1 : decode cX4_nextToken 1 = .ok (.aload_n 0, 1) := by decide +kernel
theorem dX4_nextToken_2 : decode cX4_nextToken 2 = .ok (.invokevirtual 100, 3) := by decide +kernel
theorem dX4_nextToken_5 : decode cX4_nextToken 5 = .ok (.putfield 39, 3) := by decide +kernel
theorem dX4_nextToken_8 : decode cX4_nextToken 8 = .ok (.aload_n 0, 1) := by decide +kernel
theorem dX4_nextToken_9 : decode cX4_nextToken 9 = .ok (.aload_n 0, 1) := by decide +kernel
theorem dX4_nextToken_10 : decode cX4_nextToken 10 = .ok (.getfield 39, 3) := by decide +kernel
theorem dX4_nextToken_13 : decode cX4_nextToken 13 = .ok (.putfield 42, 3) := by decide +kernel
theorem dX4_nextToken_16 : decode cX4_nextToken 16 = .ok (.aload_n 0, 1) := by decide +kernel
theorem dX4_nextToken_17 : decode cX4_nextToken 17 = .ok (.getfield 39, 3) := by decide +kernel
theorem dX4_nextToken_20 : decode cX4_nextToken 20 = .ok (.aload_n 0, 1) := by decide +kernel
theorem dX4_nextToken_21 : decode cX4_nextToken 21 = .ok (.getfield 45, 3) := by decide +kernel
theorem dX4_nextToken_24 : decode cX4_nextToken 24 = .ok (.getfield 104, 3) := by decide +kernel
theorem dX4_nextToken_27 : decode cX4_nextToken 27 = .ok (.if_icmp .lt 9, 3) := by decide +kernel
theorem dX4_nextToken_30 : decode cX4_nextToken 30 = .ok (.aload_n 0, 1) := by decide +kernel
theorem dX4_nextToken_31 : decode cX4_nextToken 31 = .ok (.iconst (-1), 1) := by decide +kernel
theorem dX4_nextToken_32 : decode cX4_nextToken 32 = .ok (.putfield 33, 3) := by decide +kernel
theorem dX4_nextToken_35 : decode cX4_nextToken 35 = .ok (.return_, 1) := by decide +kernel
theorem dX4_nextToken_36 : decode cX4_nextToken 36 = .ok (.aload_n 0, 1) := by decide +kernel
theorem dX4_nextToken_37 : decode cX4_nextToken 37 = .ok (.getfield 45, 3) := by decide +kernel
theorem dX4_nextToken_40 : decode cX4_nextToken 40 = .ok (.getfield 109, 3) := by decide +kernel
theorem dX4_nextToken_43 : decode cX4_nextToken 43 = .ok (.aload_n 0, 1) := by decide +kernel
theorem dX4_nextToken_44 : decode cX4_nextToken 44 = .ok (.getfield 39, 3) := by decide +kernel
theorem dX4_nextToken_47 : decode cX4_nextToken 47 = .ok (.iaload, 1) := by decide +kernel
theorem dX4_nextToken_48 : decode cX4_nextToken 48 = .ok (.istore_n 1, 1) := by decide +kernel
theorem dX4_nextToken_49 : decode cX4_nextToken 49 = .ok (.iload_n 1, 1) := by decide +kernel
theorem dX4_nextToken_50 : decode cX4_nextToken 50 = .ok (.invokestatic 112, 3) := by decide +kernel
theorem dX4_nextToken_53 : decode cX4_nextToken 53 = .ok (.ifCond .eq 8, 3) := by decide +kernel
theorem dX4_nextToken_56 : decode cX4_nextToken 56 = .ok (.aload_n 0, 1) := by decide +kernel
theorem dX4_nextToken_57 : decode cX4_nextToken 57 = .ok (.invokevirtual 116, 3) := by decide +kernel
theorem dX4_nextToken_60 : decode cX4_nextToken 60 = .ok (.return_, 1) := by decide +kernel
theorem dX4_nextToken_61 : decode cX4_nextToken 61 = .ok (.aload_n 0, 1) := by decide +kernel
theorem dX4_nextToken_62 : decode cX4_nextToken 62 = .ok (.aload_n 0, 1) := by decide +kernel
theorem dX4_nextToken_63 : decode cX4_nextToken 63 = .ok (.getfield 39, 3) := by decide +kernel
theorem dX4_nextToken_66 : decode cX4_nextToken 66 = .ok (.iconst 1, 1) := by decide +kernel
theorem dX4_nextToken_67 : decode cX4_nextToken 67 = .ok (.iadd, 1) := by decide +kernel
theorem dX4_nextToken_68 : decode cX4_nextToken 68 = .ok (.putfield 42, 3) := by decide +kernel
theorem dX4_nextToken_71 : decode cX4_nextToken 71 = .ok (.iload_n 1, 1) := by decide +kernel
theorem dX4_nextToken_72 : decode cX4_nextToken 72 = .ok (.bipush 110, 2) := by decide +kernel
theorem dX4_nextToken_74 : decode cX4_nextToken 74 = .ok (.if_icmp .eq 21, 3) := by decide +kernel
theorem dX4_nextToken_77 : decode cX4_nextToken 77 = .ok (.iload_n 1, 1) := by decide +kernel
theorem dX4_nextToken_78 : decode cX4_nextToken 78 = .ok (.bipush 116, 2) := by decide +kernel
theorem dX4_nextToken_80 : decode cX4_nextToken 80 = .ok (.if_icmp .eq 15, 3) := by decide +kernel
theorem dX4_nextToken_83 : decode cX4_nextToken 83 = .ok (.iload_n 1, 1) := by decide +kernel
theorem dX4_nextToken_84 : decode cX4_nextToken 84 = .ok (.bipush 108, 2) := by decide +kernel
theorem dX4_nextToken_86 : decode cX4_nextToken 86 = .ok (.if_icmp .eq 9, 3) := by decide +kernel
theorem dX4_nextToken_89 : decode cX4_nextToken 89 = .ok (.iload_n 1, 1) := by decide +kernel
theorem dX4_nextToken_90 : decode cX4_nextToken 90 = .ok (.bipush 59, 2) := by decide +kernel
theorem dX4_nextToken_92 : decode cX4_nextToken 92 = .ok (.if_icmp .ne 7, 3) := by decide +kernel
theorem dX4_nextToken_95 : decode cX4_nextToken 95 = .ok (.iconst 1, 1) := by decide +kernel
theorem dX4_nextToken_96 : decode cX4_nextToken 96 = .ok (.goto 4, 3) := by decide +kernel
theorem dX4_nextToken_99 : decode cX4_nextToken 99 = .ok (.iconst 0, 1) := by decide +kernel
theorem dX4_nextToken_100 : decode cX4_nextToken 100 = .ok (.istore_n 2, 1) := by decide +kernel
theorem dX4_nextToken_101 : decode cX4_nextToken 101 = .ok (.aload_n 0, 1) := by decide +kernel
theorem dX4_nextToken_102 : decode cX4_nextToken 102 = .ok (.iload_n 2, 1) := by decide +kernel
theorem dX4_nextToken_103 : decode cX4_nextToken 103 = .ok (.ifCond .eq 7, 3) := by decide +kernel
theorem dX4_nextToken_106 : decode cX4_nextToken 106 = .ok (.iload_n 1, 1) := by decide +kernel
theorem dX4_nextToken_107 : decode cX4_nextToken 107 = .ok (.goto 5, 3) := by decide +kernel
theorem dX4_nextToken_110 : decode cX4_nextToken 110 = .ok (.bipush (-3), 2) := by decide +kernel
theorem dX4_nextToken_112 : decode cX4_nextToken 112 = .ok (.putfield 33, 3) := by decide +kernel
theorem dX4_nextToken_115 : decode cX4_nextToken 115 = .ok (.return_, 1) := by decide +kernel
theorem dX4_behindBlanks_0 : decode cX4_behindBlanks 0 = .ok (.aload_n 0, 1) := by decide +kernel
theorem dX4_behindBlanks_1 : decode cX4_behindBlanks 1 = .ok (.getfield 42, 3) := by decide +kernel
theorem dX4_behindBlanks_4 : decode cX4_behindBlanks 4 = .ok (.istore_n 1, 1) := by decide +kernel
theorem dX4_behindBlanks_5 : decode cX4_behindBlanks 5 = .ok (.iload_n 1, 1) := by decide +kernel
theorem dX4_behindBlanks_6 : decode cX4_behindBlanks 6 = .ok (.aload_n 0, 1) := by decide +kernel
theorem dX4_behindBlanks_7 : decode cX4_behindBlanks 7 = .ok (.getfield 45, 3) := by decide +kernel
theorem dX4_behindBlanks_10 : decode cX4_behindBlanks 10 = .ok (.getfield 104, 3) := by decide +kernel
theorem dX4_behindBlanks_13 : decode cX4_behindBlanks 13 = .ok (.if_icmp .ge 25, 3) := by decide +kernel
theorem dX4_behindBlanks_16 : decode cX4_behindBlanks 16 = .ok (.aload_n 0, 1) := by decide +kernel
theorem dX4_behindBlanks_17 : decode cX4_behindBlanks 17 = .ok (.getfield 45, 3) := by decide +kernel
theorem dX4_behindBlanks_20 : decode cX4_behindBlanks 20 = .ok (.getfield 109, 3) := by decide +kernel
theorem dX4_behindBlanks_23 : decode cX4_behindBlanks 23 = .ok (.iload_n 1, 1) := by decide +kernel
theorem dX4_behindBlanks_24 : decode cX4_behindBlanks 24 = .ok (.iaload, 1) := by decide +kernel
theorem dX4_behindBlanks_25 : decode cX4_behindBlanks 25 = .ok (.bipush 32, 2) := by decide +kernel
theorem dX4_behindBlanks_27 : decode cX4_behindBlanks 27 = .ok (.if_icmp .eq 5, 3) := by decide +kernel
theorem dX4_behindBlanks_30 : decode cX4_behindBlanks 30 = .ok (.iload_n 1, 1) := by decide +kernel
theorem dX4_behindBlanks_31 : decode cX4_behindBlanks 31 = .ok (.ireturn, 1) := by decide +kernel
theorem dX4_behindBlanks_32 : decode cX4_behindBlanks 32 = .ok (.iinc 1 1, 3) := by decide +kernel
theorem dX4_behindBlanks_35 : decode cX4_behindBlanks 35 = .ok (.goto (-30), 3) := by decide +kernel
theorem dX4_behindBlanks_38 : decode cX4_behindBlanks 38 = .ok (.aload_n 0, 1) := by decide +kernel
theorem dX4_behindBlanks_39 : decode cX4_behindBlanks 39 = .ok (.getfield 45, 3) := by decide +kernel
theorem dX4_behindBlanks_42 : decode cX4_behindBlanks 42 = .ok (.getfield 104, 3) := by decide +kernel
theorem dX4_behindBlanks_45 : decode cX4_behindBlanks 45 = .ok (.ireturn, 1) := by decide +kernel
theorem dX4_takeNumber_0 : decode cX4_takeNumber 0 = .ok (.aload_n 0, 1) := by decide +kernel
theorem dX4_takeNumber_1 : decode cX4_takeNumber 1 = .ok (.iconst 0, 1) := by decide +kernel
theorem dX4_takeNumber_2 : decode cX4_takeNumber 2 = .ok (.putfield 36, 3) := by decide +kernel
theorem dX4_takeNumber_5 : decode cX4_takeNumber 5 = .ok (.aload_n 0, 1) := by decide +kernel
theorem dX4_takeNumber_6 : decode cX4_takeNumber 6 = .ok (.getfield 42, 3) := by decide +kernel
theorem dX4_takeNumber_9 : decode cX4_takeNumber 9 = .ok (.aload_n 0, 1) := by decide +kernel
theorem dX4_takeNumber_10 : decode cX4_takeNumber 10 = .ok (.getfield 45, 3) := by decide +kernel
theorem dX4_takeNumber_13 : decode cX4_takeNumber 13 = .ok (.getfield 104, 3) := by decide +kernel
theorem dX4_takeNumber_16 : decode cX4_takeNumber 16 = .ok (.if_icmp .ge 66, 3) := by decide +kernel
theorem dX4_takeNumber_19 : decode cX4_takeNumber 19 = .ok (.aload_n 0, 1) := by decide +kernel
theorem dX4_takeNumber_20 : decode cX4_takeNumber 20 = .ok (.getfield 45, 3) := by decide +kernel
theorem dX4_takeNumber_23 : decode cX4_takeNumber 23 = .ok (.getfield 109, 3) := by decide +kernel
theorem dX4_takeNumber_26 : decode cX4_takeNumber 26 = .ok (.aload_n 0, 1) := by decide +kernel
theorem dX4_takeNumber_27 : decode cX4_takeNumber 27 = .ok (.getfield 42, 3) := by decide +kernel
theorem dX4_takeNumber_30 : decode cX4_takeNumber 30 = .ok (.iaload, 1) := by decide +kernel
theorem dX4_takeNumber_31 : decode cX4_takeNumber 31 = .ok (.invokestatic 112, 3) := by decide +kernel
theorem dX4_takeNumber_34 : decode cX4_takeNumber 34 = .ok (.ifCond .eq 48, 3) := by decide +kernel
theorem dX4_takeNumber_37 : decode cX4_takeNumber 37 = .ok (.aload_n 0, 1) := by decide +kernel
theorem dX4_takeNumber_38 : decode cX4_takeNumber 38 = .ok (.bipush 100, 2) := by decide +kernel
theorem dX4_takeNumber_40 : decode cX4_takeNumber 40 = .ok (.aload_n 0, 1) := by decide +kernel
theorem dX4_takeNumber_41 : decode cX4_takeNumber 41 = .ok (.getfield 36, 3) := by decide +kernel
theorem dX4_takeNumber_44 : decode cX4_takeNumber 44 = .ok (.bipush 10, 2) := by decide +kernel
theorem dX4_takeNumber_46 : decode cX4_takeNumber 46 = .ok (.imul, 1) := by decide +kernel
theorem dX4_takeNumber_47 : decode cX4_takeNumber 47 = .ok (.aload_n 0, 1) := by decide +kernel
theorem dX4_takeNumber_48 : decode cX4_takeNumber 48 = .ok (.getfield 45, 3) := by decide +kernel
theorem dX4_takeNumber_51 : decode cX4_takeNumber 51 = .ok (.getfield 109, 3) := by decide +kernel
theorem dX4_takeNumber_54 : decode cX4_takeNumber 54 = .ok (.aload_n 0, 1) := by decide +kernel
theorem dX4_takeNumber_55 : decode cX4_takeNumber 55 = .ok (.getfield 42, 3) := by decide +kernel
theorem dX4_takeNumber_58 : decode cX4_takeNumber 58 = .ok (.iaload, 1) := by decide +kernel
theorem dX4_takeNumber_59 : decode cX4_takeNumber 59 = .ok (.iadd, 1) := by decide +kernel
theorem dX4_takeNumber_60 : decode cX4_takeNumber 60 = .ok (.bipush 48, 2) := by decide +kernel
theorem dX4_takeNumber_62 : decode cX4_takeNumber 62 = .ok (.isub, 1) := by decide +kernel
theorem dX4_takeNumber_63 : decode cX4_takeNumber 63 = .ok (.invokestatic 119, 3) := by decide +kernel
theorem dX4_takeNumber_66 : decode cX4_takeNumber 66 = .ok (.putfield 36, 3) := by decide +kernel
theorem dX4_takeNumber_69 : decode cX4_takeNumber 69 = .ok (.aload_n 0, 1) := by decide +kernel
theorem dX4_takeNumber_70 : decode cX4_takeNumber 70 = .ok (.dup, 1) := by decide +kernel
theorem dX4_takeNumber_71 : decode cX4_takeNumber 71 = .ok (.getfield 42, 3) := by decide +kernel
theorem dX4_takeNumber_74 : decode cX4_takeNumber 74 = .ok (.iconst 1, 1) := by decide +kernel
theorem dX4_takeNumber_75 : decode cX4_takeNumber 75 = .ok (.iadd, 1) := by decide +kernel
theorem dX4_takeNumber_76 : decode cX4_takeNumber 76 = .ok (.putfield 42, 3) := by decide +kernel
theorem dX4_takeNumber_79 : decode cX4_takeNumber 79 = .ok (.goto (-74), 3) := by decide +kernel
theorem dX4_takeNumber_82 : decode cX4_takeNumber 82 = .ok (.aload_n 0, 1) := by decide +kernel
theorem dX4_takeNumber_83 : decode cX4_takeNumber 83 = .ok (.getfield 45, 3) := by decide +kernel
theorem dX4_takeNumber_86 : decode cX4_takeNumber 86 = .ok (.getfield 109, 3) := by decide +kernel
theorem dX4_takeNumber_89 : decode cX4_takeNumber 89 = .ok (.aload_n 0, 1) := by decide +kernel
theorem dX4_takeNumber_90 : decode cX4_takeNumber 90 = .ok (.getfield 39, 3) := by decide +kernel
theorem dX4_takeNumber_93 : decode cX4_takeNumber 93 = .ok (.iaload, 1) := by decide +kernel
theorem dX4_takeNumber_94 : decode cX4_takeNumber 94 = .ok (.bipush 48, 2) := by decide +kernel
theorem dX4_takeNumber_96 : decode cX4_takeNumber 96 = .ok (.if_icmp .ne 20, 3) := by decide +kernel
theorem dX4_takeNumber_99 : decode cX4_takeNumber 99 = .ok (.aload_n 0, 1) := by decide +kernel
theorem dX4_takeNumber_100 : decode cX4_takeNumber 100 = .ok (.getfield 42, 3) := by decide +kernel
theorem dX4_takeNumber_103 : decode cX4_takeNumber 103 = .ok (.aload_n 0, 1) := by decide +kernel
theorem dX4_takeNumber_104 : decode cX4_takeNumber 104 = .ok (.getfield 39, 3) := by decide +kernel
theorem dX4_takeNumber_107 : decode cX4_takeNumber 107 = .ok (.iconst 1, 1) := by decide +kernel
theorem dX4_takeNumber_108 : decode cX4_takeNumber 108 = .ok (.iadd, 1) := by decide +kernel
theorem dX4_takeNumber_109 : decode cX4_takeNumber 109 = .ok (.if_icmp .le 7, 3) := by decide +kernel
theorem dX4_takeNumber_112 : decode cX4_takeNumber 112 = .ok (.iconst 1, 1) := by decide +kernel
theorem dX4_takeNumber_113 : decode cX4_takeNumber 113 = .ok (.goto 4, 3) := by decide +kernel
theorem dX4_takeNumber_116 : decode cX4_takeNumber 116 = .ok (.iconst 0, 1) := by decide +kernel
theorem dX4_takeNumber_117 : decode cX4_takeNumber 117 = .ok (.istore_n 1, 1) := by decide +kernel
theorem dX4_takeNumber_118 : decode cX4_takeNumber 118 = .ok (.aload_n 0, 1) := by decide +kernel
theorem dX4_takeNumber_119 : decode cX4_takeNumber 119 = .ok (.iload_n 1, 1) := by decide +kernel
theorem dX4_takeNumber_120 : decode cX4_takeNumber 120 = .ok (.ifCond .ne 12, 3) := by decide +kernel
theorem dX4_takeNumber_123 : decode cX4_takeNumber 123 = .ok (.aload_n 0, 1) := by decide +kernel
theorem dX4_takeNumber_124 : decode cX4_takeNumber 124 = .ok (.getfield 36, 3) := by decide +kernel
theorem dX4_takeNumber_127 : decode cX4_takeNumber 127 = .ok (.bipush 99, 2) := by decide +kernel
theorem dX4_takeNumber_129 : decode cX4_takeNumber 129 = .ok (.if_icmp .le 8, 3) := by decide +kernel
theorem dX4_takeNumber_132 : decode cX4_takeNumber 132 = .ok (.bipush (-3), 2) := by decide +kernel
theorem dX4_takeNumber_134 : decode cX4_takeNumber 134 = .ok (.goto 5, 3) := by decide +kernel
theorem dX4_takeNumber_137 : decode cX4_takeNumber 137 = .ok (.bipush (-2), 2) := by decide +kernel
theorem dX4_takeNumber_139 : decode cX4_takeNumber 139 = .ok (.putfield 33, 3) := by decide +kernel
theorem dX4_takeNumber_142 : decode cX4_takeNumber 142 = .ok (.return_, 1) := by decide +kernel
theorem dX4_isDigit_0 : decode cX4_isDigit 0 = .ok (.iload_n 0, 1) := by decide +kernel
theorem dX4_isDigit_1 : decode cX4_isDigit 1 = .ok (.bipush 48, 2) := by decide +kernel
theorem dX4_isDigit_3 : decode cX4_isDigit 3 = .ok (.if_icmp .lt 13, 3) := by decide +kernel
theorem dX4_isDigit_6 : decode cX4_isDigit 6 = .ok (.iload_n 0, 1) := by decide +kernel
theorem dX4_isDigit_7 : decode cX4_isDigit 7 = .ok (.bipush 57, 2) := by decide +kernel
theorem dX4_isDigit_9 : decode cX4_isDigit 9 = .ok (.if_icmp .gt 7, 3) := by decide +kernel
theorem dX4_isDigit_12 : decode cX4_isDigit 12 = .ok (.iconst 1, 1) := by decide +kernel
theorem dX4_isDigit_13 : decode cX4_isDigit 13 = .ok (.goto 4, 3) := by decide +kernel
theorem dX4_isDigit_16 : decode cX4_isDigit 16 = .ok (.iconst 0, 1) := by decide +kernel
theorem dX4_isDigit_17 : decode cX4_isDigit 17 = .ok (.ireturn, 1) := by decide +kernel
theorem dX5_init_0 : decode cX5_init 0 = .ok (.aload_n 0, 1) := by decide +kernel
theorem dX5_init_1 : decode cX5_init 1 = .ok (.invokespecial 3, 3) := by decide +kernel
theorem dX5_init_4 : decode cX5_init 4 = .ok (.aload_n 0, 1) := by decide +kernel
theorem dX5_init_5 : decode cX5_init 5 = .ok (.bipush 6, 2) := by decide +kernel
theorem dX5_init_7 : decode cX5_init 7 = .ok (.newarray .int, 2) := by decide +kernel
theorem dX5_init_9 : decode cX5_init 9 = .ok (.putfield 9, 3) := by decide +kernel
theorem dX5_init_12 : decode cX5_init 12 = .ok (.aload_n 0, 1) := by decide +kernel
theorem dX5_init_13 : decode cX5_init 13 = .ok (.bipush 6, 2) := by decide +kernel
theorem dX5_init_15 : decode cX5_init 15 = .ok (.newarray .int, 2) := by decide +kernel
theorem dX5_init_17 : decode cX5_init 17 = .ok (.putfield 15, 3) := by decide +kernel
theorem dX5_init_20 : decode cX5_init 20 = .ok (.aload_n 0, 1) := by decide +kernel
theorem dX5_init_21 : decode cX5_init 21 = .ok (.bipush 6, 2) := by decide +kernel
theorem dX5_init_23 : decode cX5_init 23 = .ok (.newarray .int, 2) := by decide +kernel
theorem dX5_init_25 : decode cX5_init 25 = .ok (.putfield 18, 3) := by decide +kernel
theorem dX5_init_28 : decode cX5_init 28 = .ok (.aload_n 0, 1) := by decide +kernel
theorem dX5_init_29 : decode cX5_init 29 = .ok (.iconst 0, 1) := by decide +kernel
theorem dX5_init_30 : decode cX5_init 30 = .ok (.putfield 21, 3) := by decide +kernel
theorem dX5_init_33 : decode cX5_init 33 = .ok (.return_, 1) := by decide +kernel
theorem dX5_add_0 : decode cX5_add 0 = .ok (.aload_n 0, 1) := by decide +kernel
theorem dX5_add_1 : decode cX5_add 1 = .ok (.getfield 21, 3) := by decide +kernel
theorem dX5_add_4 : decode cX5_add 4 = .ok (.bipush 6, 2) := by decide +kernel
theorem dX5_add_6 : decode cX5_add 6 = .ok (.if_icmp .lt 5, 3) := by decide +kernel
theorem dX5_add_9 : decode cX5_add 9 = .ok (.iconst 0, 1) := by decide +kernel
theorem dX5_add_10 : decode cX5_add 10 = .ok (.ireturn, 1) := by decide +kernel
theorem dX5_add_11 : decode cX5_add 11 = .ok (.aload_n 0, 1) := by decide +kernel
theorem dX5_add_12 : decode cX5_add 12 = .ok (.getfield 9, 3) := by decide +kernel
theorem dX5_add_15 : decode cX5_add 15 = .ok (.aload_n 0, 1) := by decide +kernel
theorem dX5_add_16 : decode cX5_add 16 = .ok (.getfield 21, 3) := by decide +kernel
theorem dX5_add_19 : decode cX5_add 19 = .ok (.iload_n 1, 1) := by decide +kernel
theorem dX5_add_20 : decode cX5_add 20 = .ok (.iastore, 1) := by decide +kernel
theorem dX5_add_21 : decode cX5_add 21 = .ok (.aload_n 0, 1) := by decide +kernel
theorem dX5_add_22 : decode cX5_add 22 = .ok (.getfield 15, 3) := by decide +kernel
theorem dX5_add_25 : decode cX5_add 25 = .ok (.aload_n 0, 1) := by decide +kernel
theorem dX5_add_26 : decode cX5_add 26 = .ok (.getfield 21, 3) := by decide +kernel
theorem dX5_add_29 : decode cX5_add 29 = .ok (.iload_n 2, 1) := by decide +kernel
theorem dX5_add_30 : decode cX5_add 30 = .ok (.iastore, 1) := by decide +kernel
theorem dX5_add_31 : decode cX5_add 31 = .ok (.aload_n 0, 1) := by decide +kernel
theorem dX5_add_32 : decode cX5_add 32 = .ok (.getfield 18, 3) := by decide +kernel
theorem dX5_add_35 : decode cX5_add 35 = .ok (.aload_n 0, 1) := by decide +kernel
theorem dX5_add_36 : decode cX5_add 36 = .ok (.getfield 21, 3) := by decide +kernel
theorem dX5_add_39 : decode cX5_add 39 = .ok (.iload_n 3, 1) := by decide +kernel
theorem dX5_add_40 : decode cX5_add 40 = .ok (.iastore, 1) := by decide +kernel
theorem dX5_add_41 : decode cX5_add 41 = .ok (.aload_n 0, 1) := by decide +kernel
theorem dX5_add_42 : decode cX5_add 42 = .ok (.dup, 1) := by decide +kernel
theorem dX5_add_43 : decode cX5_add 43 = .ok (.getfield 21, 3) := by decide +kernel
theorem dX5_add_46 : decode cX5_add 46 = .ok (.iconst 1, 1) := by decide +kernel
theorem dX5_add_47 : decode cX5_add 47 = .ok (.iadd, 1) := by decide +kernel
theorem dX5_add_48 : decode cX5_add 48 = .ok (.putfield 21, 3) := by decide +kernel
theorem dX5_add_51 : decode cX5_add 51 = .ok (.iconst 1, 1) := by decide +kernel
theorem dX5_add_52 : decode cX5_add 52 = .ok (.ireturn, 1) := by decide +kernel
theorem dX5_spinBehind_0 : decode cX5_spinBehind 0 = .ok (.iconst 0, 1) := by decide +kernel
theorem dX5_spinBehind_1 : decode cX5_spinBehind 1 = .ok (.iload_n 0, 1) := by decide +kernel
theorem dX5_spinBehind_2 : decode cX5_spinBehind 2 = .ok (.iload_n 1, 1) := by decide +kernel
theorem dX5_spinBehind_3 : decode cX5_spinBehind 3 = .ok (.iload_n 2, 1) := by decide +kernel
theorem dX5_spinBehind_4 : decode cX5_spinBehind 4 = .ok (.imul, 1) := by decide +kernel
theorem dX5_spinBehind_5 : decode cX5_spinBehind 5 = .ok (.isub, 1) := by decide +kernel
theorem dX5_spinBehind_6 : decode cX5_spinBehind 6 = .ok (.invokestatic 25, 3) := by decide +kernel
theorem dX5_spinBehind_9 : decode cX5_spinBehind 9 = .ok (.ireturn, 1) := by decide +kernel
theorem dX5_canBe_0 : decode cX5_canBe 0 = .ok (.iconst 0, 1) := by decide +kernel
theorem dX5_canBe_1 : decode cX5_canBe 1 = .ok (.istore_n 2, 1) := by decide +kernel
theorem dX5_canBe_2 : decode cX5_canBe 2 = .ok (.iload_n 2, 1) := by decide +kernel
theorem dX5_canBe_3 : decode cX5_canBe 3 = .ok (.aload_n 0, 1) := by decide +kernel
theorem dX5_canBe_4 : decode cX5_canBe 4 = .ok (.getfield 21, 3) := by decide +kernel
theorem dX5_canBe_7 : decode cX5_canBe 7 = .ok (.if_icmp .ge 36, 3) := by decide +kernel
theorem dX5_canBe_10 : decode cX5_canBe 10 = .ok (.aload_n 0, 1) := by decide +kernel
theorem dX5_canBe_11 : decode cX5_canBe 11 = .ok (.getfield 9, 3) := by decide +kernel
theorem dX5_canBe_14 : decode cX5_canBe 14 = .ok (.iload_n 2, 1) := by decide +kernel
theorem dX5_canBe_15 : decode cX5_canBe 15 = .ok (.iaload, 1) := by decide +kernel
theorem dX5_canBe_16 : decode cX5_canBe 16 = .ok (.aload_n 0, 1) := by decide +kernel
theorem dX5_canBe_17 : decode cX5_canBe 17 = .ok (.getfield 15, 3) := by decide +kernel
theorem dX5_canBe_20 : decode cX5_canBe 20 = .ok (.iload_n 2, 1) := by decide +kernel
theorem dX5_canBe_21 : decode cX5_canBe 21 = .ok (.iaload, 1) := by decide +kernel
theorem dX5_canBe_22 : decode cX5_canBe 22 = .ok (.iload_n 1, 1) := by decide +kernel
theorem dX5_canBe_23 : decode cX5_canBe 23 = .ok (.invokestatic 31, 3) := by decide +kernel
theorem dX5_canBe_26 : decode cX5_canBe 26 = .ok (.aload_n 0, 1) := by decide +kernel
theorem dX5_canBe_27 : decode cX5_canBe 27 = .ok (.getfield 18, 3) := by decide +kernel
theorem dX5_canBe_30 : decode cX5_canBe 30 = .ok (.iload_n 2, 1) := by decide +kernel
theorem dX5_canBe_31 : decode cX5_canBe 31 = .ok (.iaload, 1) := by decide +kernel
theorem dX5_canBe_32 : decode cX5_canBe 32 = .ok (.if_icmp .eq 5, 3) := by decide +kernel
theorem dX5_canBe_35 : decode cX5_canBe 35 = .ok (.iconst 0, 1) := by decide +kernel
theorem dX5_canBe_36 : decode cX5_canBe 36 = .ok (.ireturn, 1) := by decide +kernel
theorem dX5_canBe_37 : decode cX5_canBe 37 = .ok (.iinc 2 1, 3) := by decide +kernel
theorem dX5_canBe_40 : decode cX5_canBe 40 = .ok (.goto (-38), 3) := by decide +kernel
theorem dX5_canBe_43 : decode cX5_canBe 43 = .ok (.iconst 1, 1) := by decide +kernel
theorem dX5_canBe_44 : decode cX5_canBe 44 = .ok (.ireturn, 1) := by decide +kernel
theorem dX5_howMany_0 : decode cX5_howMany 0 = .ok (.iconst 0, 1) := by decide +kernel
theorem dX5_howMany_1 : decode cX5_howMany 1 = .ok (.istore_n 1, 1) := by decide +kernel
theorem dX5_howMany_2 : decode cX5_howMany 2 = .ok (.iconst 1, 1) := by decide +kernel
theorem dX5_howMany_3 : decode cX5_howMany 3 = .ok (.istore_n 2, 1) := by decide +kernel
theorem dX5_howMany_4 : decode cX5_howMany 4 = .ok (.iload_n 2, 1) := by decide +kernel
theorem dX5_howMany_5 : decode cX5_howMany 5 = .ok (.bipush 9, 2) := by decide +kernel
theorem dX5_howMany_7 : decode cX5_howMany 7 = .ok (.if_icmp .gt 20, 3) := by decide +kernel
theorem dX5_howMany_10 : decode cX5_howMany 10 = .ok (.aload_n 0, 1) := by decide +kernel
theorem dX5_howMany_11 : decode cX5_howMany 11 = .ok (.iload_n 2, 1) := by decide +kernel
theorem dX5_howMany_12 : decode cX5_howMany 12 = .ok (.invokevirtual 35, 3) := by decide +kernel
theorem dX5_howMany_15 : decode cX5_howMany 15 = .ok (.ifCond .eq 6, 3) := by decide +kernel
theorem dX5_howMany_18 : decode cX5_howMany 18 = .ok (.iinc 1 1, 3) := by decide +kernel
theorem dX5_howMany_21 : decode cX5_howMany 21 = .ok (.iinc 2 1, 3) := by decide +kernel
theorem dX5_howMany_24 : decode cX5_howMany 24 = .ok (.goto (-20), 3) := by decide +kernel
theorem dX5_howMany_27 : decode cX5_howMany 27 = .ok (.iload_n 1, 1) := by decide +kernel
theorem dX5_howMany_28 : decode cX5_howMany 28 = .ok (.ireturn, 1) := by decide +kernel
theorem dX5_least_0 : decode cX5_least 0 = .ok (.iconst 1, 1) := by decide +kernel
theorem dX5_least_1 : decode cX5_least 1 = .ok (.istore_n 1, 1) := by decide +kernel
theorem dX5_least_2 : decode cX5_least 2 = .ok (.iload_n 1, 1) := by decide +kernel
theorem dX5_least_3 : decode cX5_least 3 = .ok (.bipush 9, 2) := by decide +kernel
theorem dX5_least_5 : decode cX5_least 5 = .ok (.if_icmp .gt 19, 3) := by decide +kernel
theorem dX5_least_8 : decode cX5_least 8 = .ok (.aload_n 0, 1) := by decide +kernel
theorem dX5_least_9 : decode cX5_least 9 = .ok (.iload_n 1, 1) := by decide +kernel
theorem dX5_least_10 : decode cX5_least 10 = .ok (.invokevirtual 35, 3) := by decide +kernel
theorem dX5_least_13 : decode cX5_least 13 = .ok (.ifCond .eq 5, 3) := by decide +kernel
theorem dX5_least_16 : decode cX5_least 16 = .ok (.iload_n 1, 1) := by decide +kernel
theorem dX5_least_17 : decode cX5_least 17 = .ok (.ireturn, 1) := by decide +kernel
theorem dX5_least_18 : decode cX5_least 18 = .ok (.iinc 1 1, 3) := by decide +kernel
theorem dX5_least_21 : decode cX5_least 21 = .ok (.goto (-19), 3) := by decide +kernel
theorem dX5_least_24 : decode cX5_least 24 = .ok (.bipush (-9), 2) := by decide +kernel
theorem dX5_least_26 : decode cX5_least 26 = .ok (.ireturn, 1) := by decide +kernel
theorem dX5_greatest_0 : decode cX5_greatest 0 = .ok (.bipush 9, 2) := by decide +kernel
theorem dX5_greatest_2 : decode cX5_greatest 2 = .ok (.istore_n 1, 1) := by decide +kernel
theorem dX5_greatest_3 : decode cX5_greatest 3 = .ok (.iload_n 1, 1) := by decide +kernel
theorem dX5_greatest_4 : decode cX5_greatest 4 = .ok (.iconst 1, 1) := by decide +kernel
theorem dX5_greatest_5 : decode cX5_greatest 5 = .ok (.if_icmp .lt 19, 3) := by decide +kernel
theorem dX5_greatest_8 : decode cX5_greatest 8 = .ok (.aload_n 0, 1) := by decide +kernel
theorem dX5_greatest_9 : decode cX5_greatest 9 = .ok (.iload_n 1, 1) := by decide +kernel
theorem dX5_greatest_10 : decode cX5_greatest 10 = .ok (.invokevirtual 35, 3) := by decide +kernel
theorem dX5_greatest_13 : decode cX5_greatest 13 = .ok (.ifCond .eq 5, 3) := by decide +kernel
theorem dX5_greatest_16 : decode cX5_greatest 16 = .ok (.iload_n 1, 1) := by decide +kernel
theorem dX5_greatest_17 : decode cX5_greatest 17 = .ok (.ireturn, 1) := by decide +kernel
theorem dX5_greatest_18 : decode cX5_greatest 18 = .ok (.iinc 1 (-1), 3) := by decide +kernel
theorem dX5_greatest_21 : decode cX5_greatest 21 = .ok (.goto (-18), 3) := by decide +kernel
theorem dX5_greatest_24 : decode cX5_greatest 24 = .ok (.bipush (-9), 2) := by decide +kernel
theorem dX5_greatest_26 : decode cX5_greatest 26 = .ok (.ireturn, 1) := by decide +kernel
theorem dX5_bestWait_0 : decode cX5_bestWait 0 = .ok (.aload_n 0, 1) := by decide +kernel
theorem dX5_bestWait_1 : decode cX5_bestWait 1 = .ok (.invokevirtual 39, 3) := by decide +kernel
theorem dX5_bestWait_4 : decode cX5_bestWait 4 = .ok (.iconst 1, 1) := by decide +kernel
theorem dX5_bestWait_5 : decode cX5_bestWait 5 = .ok (.if_icmp .gt 6, 3) := by decide +kernel
theorem dX5_bestWait_8 : decode cX5_bestWait 8 = .ok (.bipush (-9), 2) := by decide +kernel
theorem dX5_bestWait_10 : decode cX5_bestWait 10 = .ok (.ireturn, 1) := by decide +kernel
theorem dX5_bestWait_11 : decode cX5_bestWait 11 = .ok (.bipush (-9), 2) := by decide +kernel
theorem dX5_bestWait_13 : decode cX5_bestWait 13 = .ok (.istore_n 2, 1) := by decide +kernel
theorem dX5_bestWait_14 : decode cX5_bestWait 14 = .ok (.bipush 10, 2) := by decide +kernel
theorem dX5_bestWait_16 : decode cX5_bestWait 16 = .ok (.istore_n 3, 1) := by decide +kernel
theorem dX5_bestWait_17 : decode cX5_bestWait 17 = .ok (.iconst 1, 1) := by decide +kernel
theorem dX5_bestWait_18 : decode cX5_bestWait 18 = .ok (.istore 4, 2) := by decide +kernel
theorem dX5_bestWait_20 : decode cX5_bestWait 20 = .ok (.iload 4, 2) := by decide +kernel
theorem dX5_bestWait_22 : decode cX5_bestWait 22 = .ok (.bipush 20, 2) := by decide +kernel
theorem dX5_bestWait_24 : decode cX5_bestWait 24 = .ok (.if_icmp .gt 30, 3) := by decide +kernel
theorem dX5_bestWait_27 : decode cX5_bestWait 27 = .ok (.aload_n 0, 1) := by decide +kernel
theorem dX5_bestWait_28 : decode cX5_bestWait 28 = .ok (.iload_n 1, 1) := by decide +kernel
theorem dX5_bestWait_29 : decode cX5_bestWait 29 = .ok (.iload 4, 2) := by decide +kernel
theorem dX5_bestWait_31 : decode cX5_bestWait 31 = .ok (.invokevirtual 43, 3) := by decide +kernel
theorem dX5_bestWait_34 : decode cX5_bestWait 34 = .ok (.istore 5, 2) := by decide +kernel
theorem dX5_bestWait_36 : decode cX5_bestWait 36 = .ok (.iload 5, 2) := by decide +kernel
theorem dX5_bestWait_38 : decode cX5_bestWait 38 = .ok (.iload_n 3, 1) := by decide +kernel
theorem dX5_bestWait_39 : decode cX5_bestWait 39 = .ok (.if_icmp .ge 9, 3) := by decide +kernel
theorem dX5_bestWait_42 : decode cX5_bestWait 42 = .ok (.iload 5, 2) := by decide +kernel
theorem dX5_bestWait_44 : decode cX5_bestWait 44 = .ok (.istore_n 3, 1) := by decide +kernel
theorem dX5_bestWait_45 : decode cX5_bestWait 45 = .ok (.iload 4, 2) := by decide +kernel
theorem dX5_bestWait_47 : decode cX5_bestWait 47 = .ok (.istore_n 2, 1) := by decide +kernel
theorem dX5_bestWait_48 : decode cX5_bestWait 48 = .ok (.iinc 4 1, 3) := by decide +kernel
theorem dX5_bestWait_51 : decode cX5_bestWait 51 = .ok (.goto (-31), 3) := by decide +kernel
theorem dX5_bestWait_54 : decode cX5_bestWait 54 = .ok (.iload_n 2, 1) := by decide +kernel
theorem dX5_bestWait_55 : decode cX5_bestWait 55 = .ok (.ireturn, 1) := by decide +kernel
theorem dX5_mostAlike_0 : decode cX5_mostAlike 0 = .ok (.iconst 0, 1) := by decide +kernel
theorem dX5_mostAlike_1 : decode cX5_mostAlike 1 = .ok (.istore_n 3, 1) := by decide +kernel
theorem dX5_mostAlike_2 : decode cX5_mostAlike 2 = .ok (.iconst 1, 1) := by decide +kernel
theorem dX5_mostAlike_3 : decode cX5_mostAlike 3 = .ok (.istore 4, 2) := by decide +kernel
theorem dX5_mostAlike_5 : decode cX5_mostAlike 5 = .ok (.iload 4, 2) := by decide +kernel
theorem dX5_mostAlike_7 : decode cX5_mostAlike 7 = .ok (.bipush 9, 2) := by decide +kernel
theorem dX5_mostAlike_9 : decode cX5_mostAlike 9 = .ok (.if_icmp .gt 36, 3) := by decide +kernel
theorem dX5_mostAlike_12 : decode cX5_mostAlike 12 = .ok (.aload_n 0, 1) := by decide +kernel
theorem dX5_mostAlike_13 : decode cX5_mostAlike 13 = .ok (.iload 4, 2) := by decide +kernel
theorem dX5_mostAlike_15 : decode cX5_mostAlike 15 = .ok (.invokevirtual 35, 3) := by decide +kernel
theorem dX5_mostAlike_18 : decode cX5_mostAlike 18 = .ok (.ifCond .eq 21, 3) := by decide +kernel
theorem dX5_mostAlike_21 : decode cX5_mostAlike 21 = .ok (.iload_n 3, 1) := by decide +kernel
theorem dX5_mostAlike_22 : decode cX5_mostAlike 22 = .ok (.aload_n 0, 1) := by decide +kernel
theorem dX5_mostAlike_23 : decode cX5_mostAlike 23 = .ok (.iload_n 1, 1) := by decide +kernel
theorem dX5_mostAlike_24 : decode cX5_mostAlike 24 = .ok (.iload_n 2, 1) := by decide +kernel
theorem dX5_mostAlike_25 : decode cX5_mostAlike 25 = .ok (.iload_n 1, 1) := by decide +kernel
theorem dX5_mostAlike_26 : decode cX5_mostAlike 26 = .ok (.iload_n 2, 1) := by decide +kernel
theorem dX5_mostAlike_27 : decode cX5_mostAlike 27 = .ok (.iload 4, 2) := by decide +kernel
theorem dX5_mostAlike_29 : decode cX5_mostAlike 29 = .ok (.invokestatic 31, 3) := by decide +kernel
theorem dX5_mostAlike_32 : decode cX5_mostAlike 32 = .ok (.invokevirtual 46, 3) := by decide +kernel
theorem dX5_mostAlike_35 : decode cX5_mostAlike 35 = .ok (.invokestatic 25, 3) := by decide +kernel
theorem dX5_mostAlike_38 : decode cX5_mostAlike 38 = .ok (.istore_n 3, 1) := by decide +kernel
theorem dX5_mostAlike_39 : decode cX5_mostAlike 39 = .ok (.iinc 4 1, 3) := by decide +kernel
theorem dX5_mostAlike_42 : decode cX5_mostAlike 42 = .ok (.goto (-37), 3) := by decide +kernel
theorem dX5_mostAlike_45 : decode cX5_mostAlike 45 = .ok (.iload_n 3, 1) := by decide +kernel
theorem dX5_mostAlike_46 : decode cX5_mostAlike 46 = .ok (.ireturn, 1) := by decide +kernel
theorem dX5_howManyAlike_0 : decode cX5_howManyAlike 0 = .ok (.iconst 0, 1) := by decide +kernel
theorem dX5_howManyAlike_1 : decode cX5_howManyAlike 1 = .ok (.istore 4, 2) := by decide +kernel
theorem dX5_howManyAlike_3 : decode cX5_howManyAlike 3 = .ok (.iconst 1, 1) := by decide +kernel
theorem dX5_howManyAlike_4 : decode cX5_howManyAlike 4 = .ok (.istore 5, 2) := by decide +kernel
theorem dX5_howManyAlike_6 : decode cX5_howManyAlike 6 = .ok (.iload 5, 2) := by decide +kernel
theorem dX5_howManyAlike_8 : decode cX5_howManyAlike 8 = .ok (.bipush 9, 2) := by decide +kernel
theorem dX5_howManyAlike_10 : decode cX5_howManyAlike 10 = .ok (.if_icmp .gt 32, 3) := by decide +kernel
theorem dX5_howManyAlike_13 : decode cX5_howManyAlike 13 = .ok (.aload_n 0, 1) := by decide +kernel
theorem dX5_howManyAlike_14 : decode cX5_howManyAlike 14 = .ok (.iload 5, 2) := by decide +kernel
theorem dX5_howManyAlike_16 : decode cX5_howManyAlike 16 = .ok (.invokevirtual 35, 3) := by decide +kernel
theorem dX5_howManyAlike_19 : decode cX5_howManyAlike 19 = .ok (.ifCond .eq 17, 3) := by decide +kernel
theorem dX5_howManyAlike_22 : decode cX5_howManyAlike 22 = .ok (.iload_n 1, 1) := by decide +kernel
theorem dX5_howManyAlike_23 : decode cX5_howManyAlike 23 = .ok (.iload_n 2, 1) := by decide +kernel
theorem dX5_howManyAlike_24 : decode cX5_howManyAlike 24 = .ok (.iload 5, 2) := by decide +kernel
theorem dX5_howManyAlike_26 : decode cX5_howManyAlike 26 = .ok (.invokestatic 31, 3) := by decide +kernel
theorem dX5_howManyAlike_29 : decode cX5_howManyAlike 29 = .ok (.iload_n 3, 1) := by decide +kernel
theorem dX5_howManyAlike_30 : decode cX5_howManyAlike 30 = .ok (.if_icmp .ne 6, 3) := by decide +kernel
theorem dX5_howManyAlike_33 : decode cX5_howManyAlike 33 = .ok (.iinc 4 1, 3) := by decide +kernel
theorem dX5_howManyAlike_36 : decode cX5_howManyAlike 36 = .ok (.iinc 5 1, 3) := by decide +kernel
theorem dX5_howManyAlike_39 : decode cX5_howManyAlike 39 = .ok (.goto (-33), 3) := by decide +kernel
theorem dX5_howManyAlike_42 : decode cX5_howManyAlike 42 = .ok (.iload 4, 2) := by decide +kernel
theorem dX5_howManyAlike_44 : decode cX5_howManyAlike 44 = .ok (.ireturn, 1) := by decide +kernel
theorem dX6_init_0 : decode cX6_init 0 = .ok (.aload_n 0, 1) := by decide +kernel
theorem dX6_init_1 : decode cX6_init 1 = .ok (.invokespecial 3, 3) := by decide +kernel
theorem dX6_init_4 : decode cX6_init 4 = .ok (.aload_n 0, 1) := by decide +kernel
theorem dX6_init_5 : decode cX6_init 5 = .ok (.bipush 120, 2) := by decide +kernel
theorem dX6_init_7 : decode cX6_init 7 = .ok (.newarray .int, 2) := by decide +kernel
theorem dX6_init_9 : decode cX6_init 9 = .ok (.putfield 9, 3) := by decide +kernel
theorem dX6_init_12 : decode cX6_init 12 = .ok (.aload_n 0, 1) := by decide +kernel
theorem dX6_init_13 : decode cX6_init 13 = .ok (.iconst 0, 1) := by decide +kernel
theorem dX6_init_14 : decode cX6_init 14 = .ok (.putfield 15, 3) := by decide +kernel
theorem dX6_init_17 : decode cX6_init 17 = .ok (.return_, 1) := by decide +kernel
theorem dX6_add_0 : decode cX6_add 0 = .ok (.aload_n 0, 1) := by decide +kernel
theorem dX6_add_1 : decode cX6_add 1 = .ok (.getfield 15, 3) := by decide +kernel
theorem dX6_add_4 : decode cX6_add 4 = .ok (.bipush 120, 2) := by decide +kernel
theorem dX6_add_6 : decode cX6_add 6 = .ok (.if_icmp .lt 5, 3) := by decide +kernel
theorem dX6_add_9 : decode cX6_add 9 = .ok (.iconst 0, 1) := by decide +kernel
theorem dX6_add_10 : decode cX6_add 10 = .ok (.ireturn, 1) := by decide +kernel
theorem dX6_add_11 : decode cX6_add 11 = .ok (.aload_n 0, 1) := by decide +kernel
theorem dX6_add_12 : decode cX6_add 12 = .ok (.getfield 9, 3) := by decide +kernel
theorem dX6_add_15 : decode cX6_add 15 = .ok (.aload_n 0, 1) := by decide +kernel
theorem dX6_add_16 : decode cX6_add 16 = .ok (.getfield 15, 3) := by decide +kernel
theorem dX6_add_19 : decode cX6_add 19 = .ok (.iload_n 1, 1) := by decide +kernel
theorem dX6_add_20 : decode cX6_add 20 = .ok (.iastore, 1) := by decide +kernel
theorem dX6_add_21 : decode cX6_add 21 = .ok (.aload_n 0, 1) := by decide +kernel
theorem dX6_add_22 : decode cX6_add 22 = .ok (.dup, 1) := by decide +kernel
theorem dX6_add_23 : decode cX6_add 23 = .ok (.getfield 15, 3) := by decide +kernel
theorem dX6_add_26 : decode cX6_add 26 = .ok (.iconst 1, 1) := by decide +kernel
theorem dX6_add_27 : decode cX6_add 27 = .ok (.iadd, 1) := by decide +kernel
theorem dX6_add_28 : decode cX6_add 28 = .ok (.putfield 15, 3) := by decide +kernel
theorem dX6_add_31 : decode cX6_add 31 = .ok (.iconst 1, 1) := by decide +kernel
theorem dX6_add_32 : decode cX6_add 32 = .ok (.ireturn, 1) := by decide +kernel
theorem dX7_init_0 : decode cX7_init 0 = .ok (.aload_n 0, 1) := by decide +kernel
theorem dX7_init_1 : decode cX7_init 1 = .ok (.invokespecial 3, 3) := by decide +kernel
theorem dX7_init_4 : decode cX7_init 4 = .ok (.aload_n 0, 1) := by decide +kernel
theorem dX7_init_5 : decode cX7_init 5 = .ok (.bipush 6, 2) := by decide +kernel
theorem dX7_init_7 : decode cX7_init 7 = .ok (.newarray .int, 2) := by decide +kernel
theorem dX7_init_9 : decode cX7_init 9 = .ok (.putfield 9, 3) := by decide +kernel
theorem dX7_init_12 : decode cX7_init 12 = .ok (.aload_n 0, 1) := by decide +kernel
theorem dX7_init_13 : decode cX7_init 13 = .ok (.bipush 8, 2) := by decide +kernel
theorem dX7_init_15 : decode cX7_init 15 = .ok (.putfield 15, 3) := by decide +kernel
theorem dX7_init_18 : decode cX7_init 18 = .ok (.aload_n 0, 1) := by decide +kernel
theorem dX7_init_19 : decode cX7_init 19 = .ok (.bipush 10, 2) := by decide +kernel
theorem dX7_init_21 : decode cX7_init 21 = .ok (.putfield 19, 3) := by decide +kernel
theorem dX7_init_24 : decode cX7_init 24 = .ok (.aload_n 0, 1) := by decide +kernel
theorem dX7_init_25 : decode cX7_init 25 = .ok (.iconst 0, 1) := by decide +kernel
theorem dX7_init_26 : decode cX7_init 26 = .ok (.putfield 22, 3) := by decide +kernel
theorem dX7_init_29 : decode cX7_init 29 = .ok (.return_, 1) := by decide +kernel
theorem dX7_copy_0 : decode cX7_copy 0 = .ok (.aload_n 0, 1) := by decide +kernel
theorem dX7_copy_1 : decode cX7_copy 1 = .ok (.aload_n 1, 1) := by decide +kernel
theorem dX7_copy_2 : decode cX7_copy 2 = .ok (.getfield 15, 3) := by decide +kernel
theorem dX7_copy_5 : decode cX7_copy 5 = .ok (.putfield 15, 3) := by decide +kernel
theorem dX7_copy_8 : decode cX7_copy 8 = .ok (.aload_n 0, 1) := by decide +kernel
theorem dX7_copy_9 : decode cX7_copy 9 = .ok (.aload_n 1, 1) := by decide +kernel
theorem dX7_copy_10 : decode cX7_copy 10 = .ok (.getfield 19, 3) := by decide +kernel
theorem dX7_copy_13 : decode cX7_copy 13 = .ok (.putfield 19, 3) := by decide +kernel
theorem dX7_copy_16 : decode cX7_copy 16 = .ok (.aload_n 0, 1) := by decide +kernel
theorem dX7_copy_17 : decode cX7_copy 17 = .ok (.aload_n 1, 1) := by decide +kernel
theorem dX7_copy_18 : decode cX7_copy 18 = .ok (.getfield 22, 3) := by decide +kernel
theorem dX7_copy_21 : decode cX7_copy 21 = .ok (.putfield 22, 3) := by decide +kernel
theorem dX7_copy_24 : decode cX7_copy 24 = .ok (.aload_n 1, 1) := by decide +kernel
theorem dX7_copy_25 : decode cX7_copy 25 = .ok (.getfield 9, 3) := by decide +kernel
theorem dX7_copy_28 : decode cX7_copy 28 = .ok (.iconst 0, 1) := by decide +kernel
theorem dX7_copy_29 : decode cX7_copy 29 = .ok (.aload_n 0, 1) := by decide +kernel
theorem dX7_copy_30 : decode cX7_copy 30 = .ok (.getfield 9, 3) := by decide +kernel
theorem dX7_copy_33 : decode cX7_copy 33 = .ok (.iconst 0, 1) := by decide +kernel
theorem dX7_copy_34 : decode cX7_copy 34 = .ok (.bipush 6, 2) := by decide +kernel
theorem dX7_copy_36 : decode cX7_copy 36 = .ok (.invokestatic 25, 3) := by decide +kernel
theorem dX7_copy_39 : decode cX7_copy 39 = .ok (.return_, 1) := by decide +kernel
theorem dX7_reset_0 : decode cX7_reset 0 = .ok (.aload_n 0, 1) := by decide +kernel
theorem dX7_reset_1 : decode cX7_reset 1 = .ok (.bipush 8, 2) := by decide +kernel
theorem dX7_reset_3 : decode cX7_reset 3 = .ok (.putfield 15, 3) := by decide +kernel
theorem dX7_reset_6 : decode cX7_reset 6 = .ok (.aload_n 0, 1) := by decide +kernel
theorem dX7_reset_7 : decode cX7_reset 7 = .ok (.bipush 10, 2) := by decide +kernel
theorem dX7_reset_9 : decode cX7_reset 9 = .ok (.putfield 19, 3) := by decide +kernel
theorem dX7_reset_12 : decode cX7_reset 12 = .ok (.aload_n 0, 1) := by decide +kernel
theorem dX7_reset_13 : decode cX7_reset 13 = .ok (.iconst 0, 1) := by decide +kernel
theorem dX7_reset_14 : decode cX7_reset 14 = .ok (.putfield 22, 3) := by decide +kernel
theorem dX7_reset_17 : decode cX7_reset 17 = .ok (.return_, 1) := by decide +kernel
