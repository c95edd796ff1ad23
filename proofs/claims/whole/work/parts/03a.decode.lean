theorem dX0_init_0 : decode cX0_init 0 = .ok (.aload_n 0, 1) := by decide +kernel
theorem dX0_init_1 : decode cX0_init 1 = .ok (.invokespecial 3, 3) := by decide +kernel
theorem dX0_init_4 : decode cX0_init 4 = .ok (.aload_n 0, 1) := by decide +kernel
theorem dX0_init_5 : decode cX0_init 5 = .ok (.new 9, 3) := by decide +kernel
theorem dX0_init_8 : decode cX0_init 8 = .ok (.dup, 1) := by decide +kernel
theorem dX0_init_9 : decode cX0_init 9 = .ok (.invokespecial 11, 3) := by decide +kernel
theorem dX0_init_12 : decode cX0_init 12 = .ok (.putfield 12, 3) := by decide +kernel
theorem dX0_init_15 : decode cX0_init 15 = .ok (.aload_n 0, 1) := by decide +kernel
theorem dX0_init_16 : decode cX0_init 16 = .ok (.iconst 0, 1) := by decide +kernel
theorem dX0_init_17 : decode cX0_init 17 = .ok (.putfield 18, 3) := by decide +kernel
theorem dX0_init_20 : decode cX0_init 20 = .ok (.aload_n 0, 1) := by decide +kernel
theorem dX0_init_21 : decode cX0_init 21 = .ok (.iconst 0, 1) := by decide +kernel
theorem dX0_init_22 : decode cX0_init 22 = .ok (.putfield 22, 3) := by decide +kernel
theorem dX0_init_25 : decode cX0_init 25 = .ok (.aload_n 0, 1) := by decide +kernel
theorem dX0_init_26 : decode cX0_init 26 = .ok (.iconst 0, 1) := by decide +kernel
theorem dX0_init_27 : decode cX0_init 27 = .ok (.putfield 25, 3) := by decide +kernel
theorem dX0_init_30 : decode cX0_init 30 = .ok (.aload_n 0, 1) := by decide +kernel
theorem dX0_init_31 : decode cX0_init 31 = .ok (.iconst 1, 1) := by decide +kernel
theorem dX0_init_32 : decode cX0_init 32 = .ok (.putfield 28, 3) := by decide +kernel
theorem dX0_init_35 : decode cX0_init 35 = .ok (.return_, 1) := by decide +kernel
theorem dX0_standing_0 : decode cX0_standing 0 = .ok (.aload_n 0, 1) := by decide +kernel
theorem dX0_standing_1 : decode cX0_standing 1 = .ok (.getfield 12, 3) := by decide +kernel
theorem dX0_standing_4 : decode cX0_standing 4 = .ok (.aload_n 2, 1) := by decide +kernel
theorem dX0_standing_5 : decode cX0_standing 5 = .ok (.invokevirtual 31, 3) := by decide +kernel
theorem dX0_standing_8 : decode cX0_standing 8 = .ok (.aload_n 0, 1) := by decide +kernel
theorem dX0_standing_9 : decode cX0_standing 9 = .ok (.getfield 12, 3) := by decide +kernel
theorem dX0_standing_12 : decode cX0_standing 12 = .ok (.aload_n 1, 1) := by decide +kernel
theorem dX0_standing_13 : decode cX0_standing 13 = .ok (.iload_n 3, 1) := by decide +kernel
theorem dX0_standing_14 : decode cX0_standing 14 = .ok (.invokevirtual 35, 3) := by decide +kernel
theorem dX0_standing_17 : decode cX0_standing 17 = .ok (.pop, 1) := by decide +kernel
theorem dX0_standing_18 : decode cX0_standing 18 = .ok (.aload_n 0, 1) := by decide +kernel
theorem dX0_standing_19 : decode cX0_standing 19 = .ok (.getfield 12, 3) := by decide +kernel
theorem dX0_standing_22 : decode cX0_standing 22 = .ok (.invokevirtual 39, 3) := by decide +kernel
theorem dX0_standing_25 : decode cX0_standing 25 = .ok (.ireturn, 1) := by decide +kernel
theorem dX0_fall_0 : decode cX0_fall 0 = .ok (.aload_n 0, 1) := by decide +kernel
theorem dX0_fall_1 : decode cX0_fall 1 = .ok (.getfield 12, 3) := by decide +kernel
theorem dX0_fall_4 : decode cX0_fall 4 = .ok (.aload_n 2, 1) := by decide +kernel
theorem dX0_fall_5 : decode cX0_fall 5 = .ok (.invokevirtual 31, 3) := by decide +kernel
theorem dX0_fall_8 : decode cX0_fall 8 = .ok (.iconst 0, 1) := by decide +kernel
theorem dX0_fall_9 : decode cX0_fall 9 = .ok (.istore 4, 2) := by decide +kernel
theorem dX0_fall_11 : decode cX0_fall 11 = .ok (.iload 4, 2) := by decide +kernel
theorem dX0_fall_13 : decode cX0_fall 13 = .ok (.bipush 60, 2) := by decide +kernel
theorem dX0_fall_15 : decode cX0_fall 15 = .ok (.if_icmp .ge 30, 3) := by decide +kernel
theorem dX0_fall_18 : decode cX0_fall 18 = .ok (.aload_n 0, 1) := by decide +kernel
theorem dX0_fall_19 : decode cX0_fall 19 = .ok (.getfield 12, 3) := by decide +kernel
theorem dX0_fall_22 : decode cX0_fall 22 = .ok (.iload_n 3, 1) := by decide +kernel
theorem dX0_fall_23 : decode cX0_fall 23 = .ok (.invokevirtual 43, 3) := by decide +kernel
theorem dX0_fall_26 : decode cX0_fall 26 = .ok (.ifCond .eq 19, 3) := by decide +kernel
theorem dX0_fall_29 : decode cX0_fall 29 = .ok (.aload_n 0, 1) := by decide +kernel
theorem dX0_fall_30 : decode cX0_fall 30 = .ok (.getfield 12, 3) := by decide +kernel
theorem dX0_fall_33 : decode cX0_fall 33 = .ok (.aload_n 1, 1) := by decide +kernel
theorem dX0_fall_34 : decode cX0_fall 34 = .ok (.iconst 1, 1) := by decide +kernel
theorem dX0_fall_35 : decode cX0_fall 35 = .ok (.invokevirtual 35, 3) := by decide +kernel
theorem dX0_fall_38 : decode cX0_fall 38 = .ok (.pop, 1) := by decide +kernel
theorem dX0_fall_39 : decode cX0_fall 39 = .ok (.iinc 4 1, 3) := by decide +kernel
theorem dX0_fall_42 : decode cX0_fall 42 = .ok (.goto (-31), 3) := by decide +kernel
theorem dX0_fall_45 : decode cX0_fall 45 = .ok (.iload 4, 2) := by decide +kernel
theorem dX0_fall_47 : decode cX0_fall 47 = .ok (.ireturn, 1) := by decide +kernel
theorem dX0_last_0 : decode cX0_last 0 = .ok (.aload_n 0, 1) := by decide +kernel
theorem dX0_last_1 : decode cX0_last 1 = .ok (.getfield 12, 3) := by decide +kernel
theorem dX0_last_4 : decode cX0_last 4 = .ok (.aload_n 2, 1) := by decide +kernel
theorem dX0_last_5 : decode cX0_last 5 = .ok (.invokevirtual 31, 3) := by decide +kernel
theorem dX0_last_8 : decode cX0_last 8 = .ok (.aload_n 0, 1) := by decide +kernel
theorem dX0_last_9 : decode cX0_last 9 = .ok (.getfield 12, 3) := by decide +kernel
theorem dX0_last_12 : decode cX0_last 12 = .ok (.invokevirtual 47, 3) := by decide +kernel
theorem dX0_last_15 : decode cX0_last 15 = .ok (.istore_n 3, 1) := by decide +kernel
theorem dX0_last_16 : decode cX0_last 16 = .ok (.iconst 0, 1) := by decide +kernel
theorem dX0_last_17 : decode cX0_last 17 = .ok (.istore 4, 2) := by decide +kernel
theorem dX0_last_19 : decode cX0_last 19 = .ok (.iload 4, 2) := by decide +kernel
theorem dX0_last_21 : decode cX0_last 21 = .ok (.bipush 60, 2) := by decide +kernel
theorem dX0_last_23 : decode cX0_last 23 = .ok (.if_icmp .ge 39, 3) := by decide +kernel
theorem dX0_last_26 : decode cX0_last 26 = .ok (.aload_n 0, 1) := by decide +kernel
theorem dX0_last_27 : decode cX0_last 27 = .ok (.getfield 12, 3) := by decide +kernel
theorem dX0_last_30 : decode cX0_last 30 = .ok (.invokevirtual 47, 3) := by decide +kernel
theorem dX0_last_33 : decode cX0_last 33 = .ok (.bipush (-9), 2) := by decide +kernel
theorem dX0_last_35 : decode cX0_last 35 = .ok (.if_icmp .eq 27, 3) := by decide +kernel
theorem dX0_last_38 : decode cX0_last 38 = .ok (.aload_n 0, 1) := by decide +kernel
theorem dX0_last_39 : decode cX0_last 39 = .ok (.getfield 12, 3) := by decide +kernel
theorem dX0_last_42 : decode cX0_last 42 = .ok (.invokevirtual 47, 3) := by decide +kernel
theorem dX0_last_45 : decode cX0_last 45 = .ok (.istore_n 3, 1) := by decide +kernel
theorem dX0_last_46 : decode cX0_last 46 = .ok (.aload_n 0, 1) := by decide +kernel
theorem dX0_last_47 : decode cX0_last 47 = .ok (.getfield 12, 3) := by decide +kernel
theorem dX0_last_50 : decode cX0_last 50 = .ok (.aload_n 1, 1) := by decide +kernel
theorem dX0_last_51 : decode cX0_last 51 = .ok (.iconst 1, 1) := by decide +kernel
theorem dX0_last_52 : decode cX0_last 52 = .ok (.invokevirtual 35, 3) := by decide +kernel
theorem dX0_last_55 : decode cX0_last 55 = .ok (.pop, 1) := by decide +kernel
theorem dX0_last_56 : decode cX0_last 56 = .ok (.iinc 4 1, 3) := by decide +kernel
theorem dX0_last_59 : decode cX0_last 59 = .ok (.goto (-40), 3) := by decide +kernel
theorem dX0_last_62 : decode cX0_last 62 = .ok (.iload_n 3, 1) := by decide +kernel
theorem dX0_last_63 : decode cX0_last 63 = .ok (.ireturn, 1) := by decide +kernel
theorem dX0_bestWhip_0 : decode cX0_bestWhip 0 = .ok (.bipush (-9), 2) := by decide +kernel
theorem dX0_bestWhip_2 : decode cX0_bestWhip 2 = .ok (.istore 5, 2) := by decide +kernel
theorem dX0_bestWhip_4 : decode cX0_bestWhip 4 = .ok (.iconst (-1), 1) := by decide +kernel
theorem dX0_bestWhip_5 : decode cX0_bestWhip 5 = .ok (.istore 6, 2) := by decide +kernel
theorem dX0_bestWhip_7 : decode cX0_bestWhip 7 = .ok (.iconst 0, 1) := by decide +kernel
theorem dX0_bestWhip_8 : decode cX0_bestWhip 8 = .ok (.istore 7, 2) := by decide +kernel
theorem dX0_bestWhip_10 : decode cX0_bestWhip 10 = .ok (.iload 7, 2) := by decide +kernel
theorem dX0_bestWhip_12 : decode cX0_bestWhip 12 = .ok (.aload_n 1, 1) := by decide +kernel
theorem dX0_bestWhip_13 : decode cX0_bestWhip 13 = .ok (.getfield 50, 3) := by decide +kernel
theorem dX0_bestWhip_16 : decode cX0_bestWhip 16 = .ok (.if_icmp .ge 75, 3) := by decide +kernel
theorem dX0_bestWhip_19 : decode cX0_bestWhip 19 = .ok (.aload_n 2, 1) := by decide +kernel
theorem dX0_bestWhip_20 : decode cX0_bestWhip 20 = .ok (.iload 7, 2) := by decide +kernel
theorem dX0_bestWhip_22 : decode cX0_bestWhip 22 = .ok (.invokevirtual 43, 3) := by decide +kernel
theorem dX0_bestWhip_25 : decode cX0_bestWhip 25 = .ok (.ifCond .ne 6, 3) := by decide +kernel
theorem dX0_bestWhip_28 : decode cX0_bestWhip 28 = .ok (.goto 57, 3) := by decide +kernel
theorem dX0_bestWhip_31 : decode cX0_bestWhip 31 = .ok (.aload_n 0, 1) := by decide +kernel
theorem dX0_bestWhip_32 : decode cX0_bestWhip 32 = .ok (.getfield 12, 3) := by decide +kernel
theorem dX0_bestWhip_35 : decode cX0_bestWhip 35 = .ok (.aload_n 2, 1) := by decide +kernel
theorem dX0_bestWhip_36 : decode cX0_bestWhip 36 = .ok (.invokevirtual 31, 3) := by decide +kernel
theorem dX0_bestWhip_39 : decode cX0_bestWhip 39 = .ok (.aload_n 0, 1) := by decide +kernel
theorem dX0_bestWhip_40 : decode cX0_bestWhip 40 = .ok (.getfield 12, 3) := by decide +kernel
theorem dX0_bestWhip_43 : decode cX0_bestWhip 43 = .ok (.iload 7, 2) := by decide +kernel
theorem dX0_bestWhip_45 : decode cX0_bestWhip 45 = .ok (.iload_n 3, 1) := by decide +kernel
theorem dX0_bestWhip_46 : decode cX0_bestWhip 46 = .ok (.invokevirtual 55, 3) := by decide +kernel
theorem dX0_bestWhip_49 : decode cX0_bestWhip 49 = .ok (.aload_n 0, 1) := by decide +kernel
theorem dX0_bestWhip_50 : decode cX0_bestWhip 50 = .ok (.getfield 12, 3) := by decide +kernel
theorem dX0_bestWhip_53 : decode cX0_bestWhip 53 = .ok (.aload_n 1, 1) := by decide +kernel
theorem dX0_bestWhip_54 : decode cX0_bestWhip 54 = .ok (.iload 4, 2) := by decide +kernel
theorem dX0_bestWhip_56 : decode cX0_bestWhip 56 = .ok (.invokevirtual 35, 3) := by decide +kernel
theorem dX0_bestWhip_59 : decode cX0_bestWhip 59 = .ok (.pop, 1) := by decide +kernel
theorem dX0_bestWhip_60 : decode cX0_bestWhip 60 = .ok (.aload_n 0, 1) := by decide +kernel
theorem dX0_bestWhip_61 : decode cX0_bestWhip 61 = .ok (.getfield 12, 3) := by decide +kernel
theorem dX0_bestWhip_64 : decode cX0_bestWhip 64 = .ok (.invokevirtual 59, 3) := by decide +kernel
theorem dX0_bestWhip_67 : decode cX0_bestWhip 67 = .ok (.iload 6, 2) := by decide +kernel
theorem dX0_bestWhip_69 : decode cX0_bestWhip 69 = .ok (.if_icmp .le 16, 3) := by decide +kernel
theorem dX0_bestWhip_72 : decode cX0_bestWhip 72 = .ok (.aload_n 0, 1) := by decide +kernel
theorem dX0_bestWhip_73 : decode cX0_bestWhip 73 = .ok (.getfield 12, 3) := by decide +kernel
theorem dX0_bestWhip_76 : decode cX0_bestWhip 76 = .ok (.invokevirtual 59, 3) := by decide +kernel
theorem dX0_bestWhip_79 : decode cX0_bestWhip 79 = .ok (.istore 6, 2) := by decide +kernel
theorem dX0_bestWhip_81 : decode cX0_bestWhip 81 = .ok (.iload 7, 2) := by decide +kernel
theorem dX0_bestWhip_83 : decode cX0_bestWhip 83 = .ok (.istore 5, 2) := by decide +kernel
theorem dX0_bestWhip_85 : decode cX0_bestWhip 85 = .ok (.iinc 7 1, 3) := by decide +kernel
theorem dX0_bestWhip_88 : decode cX0_bestWhip 88 = .ok (.goto (-78), 3) := by decide +kernel
theorem dX0_bestWhip_91 : decode cX0_bestWhip 91 = .ok (.iload 5, 2) := by decide +kernel
theorem dX0_bestWhip_93 : decode cX0_bestWhip 93 = .ok (.ireturn, 1) := by decide +kernel
theorem dX0_findRow_0 : decode cX0_findRow 0 = .ok (.aload_n 0, 1) := by decide +kernel
theorem dX0_findRow_1 : decode cX0_findRow 1 = .ok (.iconst (-1), 1) := by decide +kernel
theorem dX0_findRow_2 : decode cX0_findRow 2 = .ok (.putfield 18, 3) := by decide +kernel
theorem dX0_findRow_5 : decode cX0_findRow 5 = .ok (.aload_n 0, 1) := by decide +kernel
theorem dX0_findRow_6 : decode cX0_findRow 6 = .ok (.iconst 0, 1) := by decide +kernel
theorem dX0_findRow_7 : decode cX0_findRow 7 = .ok (.putfield 22, 3) := by decide +kernel
theorem dX0_findRow_10 : decode cX0_findRow 10 = .ok (.iconst 3, 1) := by decide +kernel
theorem dX0_findRow_11 : decode cX0_findRow 11 = .ok (.iload_n 3, 1) := by decide +kernel
theorem dX0_findRow_12 : decode cX0_findRow 12 = .ok (.invokestatic 62, 3) := by decide +kernel
theorem dX0_findRow_15 : decode cX0_findRow 15 = .ok (.istore 4, 2) := by decide +kernel
theorem dX0_findRow_17 : decode cX0_findRow 17 = .ok (.iconst 0, 1) := by decide +kernel
theorem dX0_findRow_18 : decode cX0_findRow 18 = .ok (.istore 5, 2) := by decide +kernel
theorem dX0_findRow_20 : decode cX0_findRow 20 = .ok (.iload 5, 2) := by decide +kernel
theorem dX0_findRow_22 : decode cX0_findRow 22 = .ok (.iload 4, 2) := by decide +kernel
theorem dX0_findRow_24 : decode cX0_findRow 24 = .ok (.if_icmp .ge 89, 3) := by decide +kernel
theorem dX0_findRow_27 : decode cX0_findRow 27 = .ok (.aload_n 0, 1) := by decide +kernel
theorem dX0_findRow_28 : decode cX0_findRow 28 = .ok (.getfield 12, 3) := by decide +kernel
theorem dX0_findRow_31 : decode cX0_findRow 31 = .ok (.aload_n 2, 1) := by decide +kernel
theorem dX0_findRow_32 : decode cX0_findRow 32 = .ok (.invokevirtual 31, 3) := by decide +kernel
theorem dX0_findRow_35 : decode cX0_findRow 35 = .ok (.iconst 0, 1) := by decide +kernel
theorem dX0_findRow_36 : decode cX0_findRow 36 = .ok (.istore 6, 2) := by decide +kernel
theorem dX0_findRow_38 : decode cX0_findRow 38 = .ok (.iload 6, 2) := by decide +kernel
theorem dX0_findRow_40 : decode cX0_findRow 40 = .ok (.iload_n 3, 1) := by decide +kernel
theorem dX0_findRow_41 : decode cX0_findRow 41 = .ok (.if_icmp .ge 35, 3) := by decide +kernel
theorem dX0_findRow_44 : decode cX0_findRow 44 = .ok (.aload_n 0, 1) := by decide +kernel
theorem dX0_findRow_45 : decode cX0_findRow 45 = .ok (.getfield 12, 3) := by decide +kernel
theorem dX0_findRow_48 : decode cX0_findRow 48 = .ok (.aload_n 0, 1) := by decide +kernel
theorem dX0_findRow_49 : decode cX0_findRow 49 = .ok (.iload 5, 2) := by decide +kernel
theorem dX0_findRow_51 : decode cX0_findRow 51 = .ok (.iload_n 3, 1) := by decide +kernel
theorem dX0_findRow_52 : decode cX0_findRow 52 = .ok (.iload 6, 2) := by decide +kernel
theorem dX0_findRow_54 : decode cX0_findRow 54 = .ok (.invokevirtual 66, 3) := by decide +kernel
theorem dX0_findRow_57 : decode cX0_findRow 57 = .ok (.putfield 70, 3) := by decide +kernel
theorem dX0_findRow_60 : decode cX0_findRow 60 = .ok (.aload_n 0, 1) := by decide +kernel
theorem dX0_findRow_61 : decode cX0_findRow 61 = .ok (.getfield 12, 3) := by decide +kernel
theorem dX0_findRow_64 : decode cX0_findRow 64 = .ok (.aload_n 1, 1) := by decide +kernel
theorem dX0_findRow_65 : decode cX0_findRow 65 = .ok (.iconst 1, 1) := by decide +kernel
theorem dX0_findRow_66 : decode cX0_findRow 66 = .ok (.invokevirtual 35, 3) := by decide +kernel
theorem dX0_findRow_69 : decode cX0_findRow 69 = .ok (.pop, 1) := by decide +kernel
theorem dX0_findRow_70 : decode cX0_findRow 70 = .ok (.iinc 6 1, 3) := by decide +kernel
theorem dX0_findRow_73 : decode cX0_findRow 73 = .ok (.goto (-35), 3) := by decide +kernel
theorem dX0_findRow_76 : decode cX0_findRow 76 = .ok (.aload_n 0, 1) := by decide +kernel
theorem dX0_findRow_77 : decode cX0_findRow 77 = .ok (.getfield 12, 3) := by decide +kernel
theorem dX0_findRow_80 : decode cX0_findRow 80 = .ok (.invokevirtual 59, 3) := by decide +kernel
theorem dX0_findRow_83 : decode cX0_findRow 83 = .ok (.aload_n 0, 1) := by decide +kernel
theorem dX0_findRow_84 : decode cX0_findRow 84 = .ok (.getfield 18, 3) := by decide +kernel
theorem dX0_findRow_87 : decode cX0_findRow 87 = .ok (.if_icmp .le 20, 3) := by decide +kernel
theorem dX0_findRow_90 : decode cX0_findRow 90 = .ok (.aload_n 0, 1) := by decide +kernel
theorem dX0_findRow_91 : decode cX0_findRow 91 = .ok (.aload_n 0, 1) := by decide +kernel
theorem dX0_findRow_92 : decode cX0_findRow 92 = .ok (.getfield 12, 3) := by decide +kernel
theorem dX0_findRow_95 : decode cX0_findRow 95 = .ok (.invokevirtual 59, 3) := by decide +kernel
theorem dX0_findRow_98 : decode cX0_findRow 98 = .ok (.putfield 18, 3) := by decide +kernel
theorem dX0_findRow_101 : decode cX0_findRow 101 = .ok (.aload_n 0, 1) := by decide +kernel
theorem dX0_findRow_102 : decode cX0_findRow 102 = .ok (.iload 5, 2) := by decide +kernel
theorem dX0_findRow_104 : decode cX0_findRow 104 = .ok (.putfield 22, 3) := by decide +kernel
theorem dX0_findRow_107 : decode cX0_findRow 107 = .ok (.iinc 5 1, 3) := by decide +kernel
theorem dX0_findRow_110 : decode cX0_findRow 110 = .ok (.goto (-90), 3) := by decide +kernel
theorem dX0_findRow_113 : decode cX0_findRow 113 = .ok (.return_, 1) := by decide +kernel
theorem dX0_tiltOf_0 : decode cX0_tiltOf 0 = .ok (.iload_n 1, 1) := by decide +kernel
theorem dX0_tiltOf_1 : decode cX0_tiltOf 1 = .ok (.istore 4, 2) := by decide +kernel
theorem dX0_tiltOf_3 : decode cX0_tiltOf 3 = .ok (.iload_n 2, 1) := by decide +kernel
theorem dX0_tiltOf_4 : decode cX0_tiltOf 4 = .ok (.iconst 1, 1) := by decide +kernel
theorem dX0_tiltOf_5 : decode cX0_tiltOf 5 = .ok (.isub, 1) := by decide +kernel
theorem dX0_tiltOf_6 : decode cX0_tiltOf 6 = .ok (.istore 5, 2) := by decide +kernel
theorem dX0_tiltOf_8 : decode cX0_tiltOf 8 = .ok (.iload 5, 2) := by decide +kernel
theorem dX0_tiltOf_10 : decode cX0_tiltOf 10 = .ok (.iload_n 3, 1) := by decide +kernel
theorem dX0_tiltOf_11 : decode cX0_tiltOf 11 = .ok (.if_icmp .le 15, 3) := by decide +kernel
theorem dX0_tiltOf_14 : decode cX0_tiltOf 14 = .ok (.iload 4, 2) := by decide +kernel
theorem dX0_tiltOf_16 : decode cX0_tiltOf 16 = .ok (.iconst 3, 1) := by decide +kernel
theorem dX0_tiltOf_17 : decode cX0_tiltOf 17 = .ok (.idiv, 1) := by decide +kernel
theorem dX0_tiltOf_18 : decode cX0_tiltOf 18 = .ok (.istore 4, 2) := by decide +kernel
theorem dX0_tiltOf_20 : decode cX0_tiltOf 20 = .ok (.iinc 5 (-1), 3) := by decide +kernel
theorem dX0_tiltOf_23 : decode cX0_tiltOf 23 = .ok (.goto (-15), 3) := by decide +kernel
theorem dX0_tiltOf_26 : decode cX0_tiltOf 26 = .ok (.iload 4, 2) := by decide +kernel
theorem dX0_tiltOf_28 : decode cX0_tiltOf 28 = .ok (.iconst 3, 1) := by decide +kernel
theorem dX0_tiltOf_29 : decode cX0_tiltOf 29 = .ok (.irem, 1) := by decide +kernel
theorem dX0_tiltOf_30 : decode cX0_tiltOf 30 = .ok (.ireturn, 1) := by decide +kernel
theorem dX0_findOdds_0 : decode cX0_findOdds 0 = .ok (.aload_n 2, 1) := by decide +kernel
theorem dX0_findOdds_1 : decode cX0_findOdds 1 = .ok (.invokevirtual 39, 3) := by decide +kernel
theorem dX0_findOdds_4 : decode cX0_findOdds 4 = .ok (.istore 6, 2) := by decide +kernel
theorem dX0_findOdds_6 : decode cX0_findOdds 6 = .ok (.aload_n 2, 1) := by decide +kernel
theorem dX0_findOdds_7 : decode cX0_findOdds 7 = .ok (.invokevirtual 59, 3) := by decide +kernel
theorem dX0_findOdds_10 : decode cX0_findOdds 10 = .ok (.istore 7, 2) := by decide +kernel
theorem dX0_findOdds_12 : decode cX0_findOdds 12 = .ok (.aload_n 0, 1) := by decide +kernel
theorem dX0_findOdds_13 : decode cX0_findOdds 13 = .ok (.iconst 0, 1) := by decide +kernel
theorem dX0_findOdds_14 : decode cX0_findOdds 14 = .ok (.putfield 25, 3) := by decide +kernel
theorem dX0_findOdds_17 : decode cX0_findOdds 17 = .ok (.aload_n 0, 1) := by decide +kernel
theorem dX0_findOdds_18 : decode cX0_findOdds 18 = .ok (.bipush 10, 2) := by decide +kernel
theorem dX0_findOdds_20 : decode cX0_findOdds 20 = .ok (.iload 7, 2) := by decide +kernel
theorem dX0_findOdds_22 : decode cX0_findOdds 22 = .ok (.invokestatic 62, 3) := by decide +kernel
theorem dX0_findOdds_25 : decode cX0_findOdds 25 = .ok (.putfield 28, 3) := by decide +kernel
theorem dX0_findOdds_28 : decode cX0_findOdds 28 = .ok (.iconst 0, 1) := by decide +kernel
theorem dX0_findOdds_29 : decode cX0_findOdds 29 = .ok (.istore 8, 2) := by decide +kernel
theorem dX0_findOdds_31 : decode cX0_findOdds 31 = .ok (.iload 8, 2) := by decide +kernel
theorem dX0_findOdds_33 : decode cX0_findOdds 33 = .ok (.bipush 64, 2) := by decide +kernel
theorem dX0_findOdds_35 : decode cX0_findOdds 35 = .ok (.if_icmp .ge 82, 3) := by decide +kernel
theorem dX0_findOdds_38 : decode cX0_findOdds 38 = .ok (.iload 8, 2) := by decide +kernel
theorem dX0_findOdds_40 : decode cX0_findOdds 40 = .ok (.iload 6, 2) := by decide +kernel
theorem dX0_findOdds_42 : decode cX0_findOdds 42 = .ok (.iconst (-1), 1) := by decide +kernel
theorem dX0_findOdds_43 : decode cX0_findOdds 43 = .ok (.ixor, 1) := by decide +kernel
theorem dX0_findOdds_44 : decode cX0_findOdds 44 = .ok (.iand, 1) := by decide +kernel
theorem dX0_findOdds_45 : decode cX0_findOdds 45 = .ok (.ifCond .eq 6, 3) := by decide +kernel
theorem dX0_findOdds_48 : decode cX0_findOdds 48 = .ok (.goto 63, 3) := by decide +kernel
theorem dX0_findOdds_51 : decode cX0_findOdds 51 = .ok (.iload 8, 2) := by decide +kernel
theorem dX0_findOdds_53 : decode cX0_findOdds 53 = .ok (.invokestatic 73, 3) := by decide +kernel
theorem dX0_findOdds_56 : decode cX0_findOdds 56 = .ok (.istore 9, 2) := by decide +kernel
theorem dX0_findOdds_58 : decode cX0_findOdds 58 = .ok (.iload 4, 2) := by decide +kernel
theorem dX0_findOdds_60 : decode cX0_findOdds 60 = .ok (.iload 9, 2) := by decide +kernel
theorem dX0_findOdds_62 : decode cX0_findOdds 62 = .ok (.invokestatic 62, 3) := by decide +kernel
theorem dX0_findOdds_65 : decode cX0_findOdds 65 = .ok (.bipush 10, 2) := by decide +kernel
theorem dX0_findOdds_67 : decode cX0_findOdds 67 = .ok (.iload 4, 2) := by decide +kernel
theorem dX0_findOdds_69 : decode cX0_findOdds 69 = .ok (.isub, 1) := by decide +kernel
theorem dX0_findOdds_70 : decode cX0_findOdds 70 = .ok (.iload 7, 2) := by decide +kernel
theorem dX0_findOdds_72 : decode cX0_findOdds 72 = .ok (.iload 9, 2) := by decide +kernel
theorem dX0_findOdds_74 : decode cX0_findOdds 74 = .ok (.isub, 1) := by decide +kernel
theorem dX0_findOdds_75 : decode cX0_findOdds 75 = .ok (.invokestatic 62, 3) := by decide +kernel
theorem dX0_findOdds_78 : decode cX0_findOdds 78 = .ok (.imul, 1) := by decide +kernel
theorem dX0_findOdds_79 : decode cX0_findOdds 79 = .ok (.istore 10, 2) := by decide +kernel
theorem dX0_findOdds_81 : decode cX0_findOdds 81 = .ok (.iload 10, 2) := by decide +kernel
theorem dX0_findOdds_83 : decode cX0_findOdds 83 = .ok (.ifCond .le 28, 3) := by decide +kernel
theorem dX0_findOdds_86 : decode cX0_findOdds 86 = .ok (.aload_n 0, 1) := by decide +kernel
theorem dX0_findOdds_87 : decode cX0_findOdds 87 = .ok (.aload_n 1, 1) := by decide +kernel
theorem dX0_findOdds_88 : decode cX0_findOdds 88 = .ok (.aload_n 2, 1) := by decide +kernel
theorem dX0_findOdds_89 : decode cX0_findOdds 89 = .ok (.iload_n 3, 1) := by decide +kernel
theorem dX0_findOdds_90 : decode cX0_findOdds 90 = .ok (.iload 8, 2) := by decide +kernel
theorem dX0_findOdds_92 : decode cX0_findOdds 92 = .ok (.iload 5, 2) := by decide +kernel
theorem dX0_findOdds_94 : decode cX0_findOdds 94 = .ok (.invokevirtual 79, 3) := by decide +kernel
theorem dX0_findOdds_97 : decode cX0_findOdds 97 = .ok (.ifCond .eq 14, 3) := by decide +kernel
theorem dX0_findOdds_100 : decode cX0_findOdds 100 = .ok (.aload_n 0, 1) := by decide +kernel
theorem dX0_findOdds_101 : decode cX0_findOdds 101 = .ok (.dup, 1) := by decide +kernel
theorem dX0_findOdds_102 : decode cX0_findOdds 102 = .ok (.getfield 25, 3) := by decide +kernel
theorem dX0_findOdds_105 : decode cX0_findOdds 105 = .ok (.iload 10, 2) := by decide +kernel
theorem dX0_findOdds_107 : decode cX0_findOdds 107 = .ok (.iadd, 1) := by decide +kernel
theorem dX0_findOdds_108 : decode cX0_findOdds 108 = .ok (.putfield 25, 3) := by decide +kernel
theorem dX0_findOdds_111 : decode cX0_findOdds 111 = .ok (.iinc 8 1, 3) := by decide +kernel
theorem dX0_findOdds_114 : decode cX0_findOdds 114 = .ok (.goto (-83), 3) := by decide +kernel
theorem dX0_findOdds_117 : decode cX0_findOdds 117 = .ok (.iconst 0, 1) := by decide +kernel
theorem dX0_findOdds_118 : decode cX0_findOdds 118 = .ok (.istore 8, 2) := by decide +kernel
theorem dX0_findOdds_120 : decode cX0_findOdds 120 = .ok (.iload 8, 2) := by decide +kernel
theorem dX0_findOdds_122 : decode cX0_findOdds 122 = .ok (.iload 7, 2) := by decide +kernel
theorem dX0_findOdds_124 : decode cX0_findOdds 124 = .ok (.if_icmp .ge 17, 3) := by decide +kernel
theorem dX0_findOdds_127 : decode cX0_findOdds 127 = .ok (.aload_n 0, 1) := by decide +kernel
theorem dX0_findOdds_128 : decode cX0_findOdds 128 = .ok (.invokevirtual 83, 3) := by decide +kernel
theorem dX0_findOdds_131 : decode cX0_findOdds 131 = .ok (.aload_n 0, 1) := by decide +kernel
theorem dX0_findOdds_132 : decode cX0_findOdds 132 = .ok (.invokevirtual 86, 3) := by decide +kernel
theorem dX0_findOdds_135 : decode cX0_findOdds 135 = .ok (.iinc 8 1, 3) := by decide +kernel
theorem dX0_findOdds_138 : decode cX0_findOdds 138 = .ok (.goto (-18), 3) := by decide +kernel
theorem dX0_findOdds_141 : decode cX0_findOdds 141 = .ok (.return_, 1) := by decide +kernel
theorem dX0_divideOddsBy2_0 : decode cX0_divideOddsBy2 0 = .ok (.aload_n 0, 1) := by decide +kernel
theorem dX0_divideOddsBy2_1 : decode cX0_divideOddsBy2 1 = .ok (.getfield 25, 3) := by decide +kernel
theorem dX0_divideOddsBy2_4 : decode cX0_divideOddsBy2 4 = .ok (.iconst 2, 1) := by decide +kernel
theorem dX0_divideOddsBy2_5 : decode cX0_divideOddsBy2 5 = .ok (.irem, 1) := by decide +kernel
theorem dX0_divideOddsBy2_6 : decode cX0_divideOddsBy2 6 = .ok (.ifCond .ne 32, 3) := by decide +kernel
theorem dX0_divideOddsBy2_9 : decode cX0_divideOddsBy2 9 = .ok (.aload_n 0, 1) := by decide +kernel
theorem dX0_divideOddsBy2_10 : decode cX0_divideOddsBy2 10 = .ok (.getfield 28, 3) := by decide +kernel
theorem dX0_divideOddsBy2_13 : decode cX0_divideOddsBy2 13 = .ok (.iconst 2, 1) := by decide +kernel
theorem dX0_divideOddsBy2_14 : decode cX0_divideOddsBy2 14 = .ok (.irem, 1) := by decide +kernel
theorem dX0_divideOddsBy2_15 : decode cX0_divideOddsBy2 15 = .ok (.ifCond .ne 23, 3) := by decide +kernel
theorem dX0_divideOddsBy2_18 : decode cX0_divideOddsBy2 18 = .ok (.aload_n 0, 1) := by decide +kernel
theorem dX0_divideOddsBy2_19 : decode cX0_divideOddsBy2 19 = .ok (.dup, 1) := by decide +kernel
theorem dX0_divideOddsBy2_20 : decode cX0_divideOddsBy2 20 = .ok (.getfield 25, 3) := by decide +kernel
theorem dX0_divideOddsBy2_23 : decode cX0_divideOddsBy2 23 = .ok (.iconst 2, 1) := by decide +kernel
theorem dX0_divideOddsBy2_24 : decode cX0_divideOddsBy2 24 = .ok (.idiv, 1) := by decide +kernel
theorem dX0_divideOddsBy2_25 : decode cX0_divideOddsBy2 25 = .ok (.putfield 25, 3) := by decide +kernel
theorem dX0_divideOddsBy2_28 : decode cX0_divideOddsBy2 28 = .ok (.aload_n 0, 1) := by decide +kernel
theorem dX0_divideOddsBy2_29 : decode cX0_divideOddsBy2 29 = .ok (.dup, 1) := by decide +kernel
theorem dX0_divideOddsBy2_30 : decode cX0_divideOddsBy2 30 = .ok (.getfield 28, 3) := by decide +kernel
theorem dX0_divideOddsBy2_33 : decode cX0_divideOddsBy2 33 = .ok (.iconst 2, 1) := by decide +kernel
theorem dX0_divideOddsBy2_34 : decode cX0_divideOddsBy2 34 = .ok (.idiv, 1) := by decide +kernel
theorem dX0_divideOddsBy2_35 : decode cX0_divideOddsBy2 35 = .ok (.putfield 28, 3) := by decide +kernel
theorem dX0_divideOddsBy2_38 : decode cX0_divideOddsBy2 38 = .ok (.return_, 1) := by decide +kernel
theorem dX0_divideOddsBy5_0 : decode cX0_divideOddsBy5 0 = .ok (.aload_n 0, 1) := by decide +kernel
theorem dX0_divideOddsBy5_1 : decode cX0_divideOddsBy5 1 = .ok (.getfield 25, 3) := by decide +kernel
theorem dX0_divideOddsBy5_4 : decode cX0_divideOddsBy5 4 = .ok (.iconst 5, 1) := by decide +kernel
theorem dX0_divideOddsBy5_5 : decode cX0_divideOddsBy5 5 = .ok (.irem, 1) := by decide +kernel
theorem dX0_divideOddsBy5_6 : decode cX0_divideOddsBy5 6 = .ok (.ifCond .ne 32, 3) := by decide +kernel
theorem dX0_divideOddsBy5_9 : decode cX0_divideOddsBy5 9 = .ok (.aload_n 0, 1) := by decide +kernel
theorem dX0_divideOddsBy5_10 : decode cX0_divideOddsBy5 10 = .ok (.getfield 28, 3) := by decide +kernel
theorem dX0_divideOddsBy5_13 : decode cX0_divideOddsBy5 13 = .ok (.iconst 5, 1) := by decide +kernel
theorem dX0_divideOddsBy5_14 : decode cX0_divideOddsBy5 14 = .ok (.irem, 1) := by decide +kernel
theorem dX0_divideOddsBy5_15 : decode cX0_divideOddsBy5 15 = .ok (.ifCond .ne 23, 3) := by decide +kernel
theorem dX0_divideOddsBy5_18 : decode cX0_divideOddsBy5 18 = .ok (.aload_n 0, 1) := by decide +kernel
theorem dX0_divideOddsBy5_19 : decode cX0_divideOddsBy5 19 = .ok (.dup, 1) := by decide +kernel
theorem dX0_divideOddsBy5_20 : decode cX0_divideOddsBy5 20 = .ok (.getfield 25, 3) := by decide +kernel
theorem dX0_divideOddsBy5_23 : decode cX0_divideOddsBy5 23 = .ok (.iconst 5, 1) := by decide +kernel
theorem dX0_divideOddsBy5_24 : decode cX0_divideOddsBy5 24 = .ok (.idiv, 1) := by decide +kernel
theorem dX0_divideOddsBy5_25 : decode cX0_divideOddsBy5 25 = .ok (.putfield 25, 3) := by decide +kernel
theorem dX0_divideOddsBy5_28 : decode cX0_divideOddsBy5 28 = .ok (.aload_n 0, 1) := by decide +kernel
theorem dX0_divideOddsBy5_29 : decode cX0_divideOddsBy5 29 = .ok (.dup, 1) := by decide +kernel
theorem dX0_divideOddsBy5_30 : decode cX0_divideOddsBy5 30 = .ok (.getfield 28, 3) := by decide +kernel
theorem dX0_divideOddsBy5_33 : decode cX0_divideOddsBy5 33 = .ok (.iconst 5, 1) := by decide +kernel
theorem dX0_divideOddsBy5_34 : decode cX0_divideOddsBy5 34 = .ok (.idiv, 1) := by decide +kernel
theorem dX0_divideOddsBy5_35 : decode cX0_divideOddsBy5 35 = .ok (.putfield 28, 3) := by decide +kernel
theorem dX0_divideOddsBy5_38 : decode cX0_divideOddsBy5 38 = .ok (.return_, 1) := by decide +kernel
theorem dX0_standsIfHit_0 : decode cX0_standsIfHit 0 = .ok (.aload_n 0, 1) := by decide +kernel
theorem dX0_standsIfHit_1 : decode cX0_standsIfHit 1 = .ok (.getfield 12, 3) := by decide +kernel
theorem dX0_standsIfHit_4 : decode cX0_standsIfHit 4 = .ok (.aload_n 2, 1) := by decide +kernel
theorem dX0_standsIfHit_5 : decode cX0_standsIfHit 5 = .ok (.invokevirtual 31, 3) := by decide +kernel
theorem dX0_standsIfHit_8 : decode cX0_standsIfHit 8 = .ok (.iconst 0, 1) := by decide +kernel
theorem dX0_standsIfHit_9 : decode cX0_standsIfHit 9 = .ok (.istore 6, 2) := by decide +kernel
theorem dX0_standsIfHit_11 : decode cX0_standsIfHit 11 = .ok (.iload 6, 2) := by decide +kernel
theorem dX0_standsIfHit_13 : decode cX0_standsIfHit 13 = .ok (.bipush 6, 2) := by decide +kernel
theorem dX0_standsIfHit_15 : decode cX0_standsIfHit 15 = .ok (.if_icmp .ge 29, 3) := by decide +kernel
theorem dX0_standsIfHit_18 : decode cX0_standsIfHit 18 = .ok (.iload 4, 2) := by decide +kernel
theorem dX0_standsIfHit_20 : decode cX0_standsIfHit 20 = .ok (.iload 6, 2) := by decide +kernel
theorem dX0_standsIfHit_22 : decode cX0_standsIfHit 22 = .ok (.ishr, 1) := by decide +kernel
theorem dX0_standsIfHit_23 : decode cX0_standsIfHit 23 = .ok (.iconst 1, 1) := by decide +kernel
theorem dX0_standsIfHit_24 : decode cX0_standsIfHit 24 = .ok (.iand, 1) := by decide +kernel
theorem dX0_standsIfHit_25 : decode cX0_standsIfHit 25 = .ok (.ifCond .eq 13, 3) := by decide +kernel
theorem dX0_standsIfHit_28 : decode cX0_standsIfHit 28 = .ok (.aload_n 0, 1) := by decide +kernel
theorem dX0_standsIfHit_29 : decode cX0_standsIfHit 29 = .ok (.getfield 12, 3) := by decide +kernel
theorem dX0_standsIfHit_32 : decode cX0_standsIfHit 32 = .ok (.iload 6, 2) := by decide +kernel
theorem dX0_standsIfHit_34 : decode cX0_standsIfHit 34 = .ok (.iconst 5, 1) := by decide +kernel
theorem dX0_standsIfHit_35 : decode cX0_standsIfHit 35 = .ok (.invokevirtual 55, 3) := by decide +kernel
theorem dX0_standsIfHit_38 : decode cX0_standsIfHit 38 = .ok (.iinc 6 1, 3) := by decide +kernel
theorem dX0_standsIfHit_41 : decode cX0_standsIfHit 41 = .ok (.goto (-30), 3) := by decide +kernel
theorem dX0_standsIfHit_44 : decode cX0_standsIfHit 44 = .ok (.aload_n 0, 1) := by decide +kernel
theorem dX0_standsIfHit_45 : decode cX0_standsIfHit 45 = .ok (.getfield 12, 3) := by decide +kernel
theorem dX0_standsIfHit_48 : decode cX0_standsIfHit 48 = .ok (.aload_n 1, 1) := by decide +kernel
theorem dX0_standsIfHit_49 : decode cX0_standsIfHit 49 = .ok (.iload 5, 2) := by decide +kernel
theorem dX0_standsIfHit_51 : decode cX0_standsIfHit 51 = .ok (.invokevirtual 35, 3) := by decide +kernel
theorem dX0_standsIfHit_54 : decode cX0_standsIfHit 54 = .ok (.pop, 1) := by decide +kernel
theorem dX0_standsIfHit_55 : decode cX0_standsIfHit 55 = .ok (.aload_n 0, 1) := by decide +kernel
theorem dX0_standsIfHit_56 : decode cX0_standsIfHit 56 = .ok (.getfield 12, 3) := by decide +kernel
theorem dX0_standsIfHit_59 : decode cX0_standsIfHit 59 = .ok (.iload_n 3, 1) := by decide +kernel
theorem dX0_standsIfHit_60 : decode cX0_standsIfHit 60 = .ok (.invokevirtual 43, 3) := by decide +kernel
theorem dX0_standsIfHit_63 : decode cX0_standsIfHit 63 = .ok (.ireturn, 1) := by decide +kernel
theorem dX1_init_0 : decode cX1_init 0 = .ok (.aload_n 0, 1) := by decide +kernel
theorem dX1_init_1 : decode cX1_init 1 = .ok (.invokespecial 1, 3) := by decide +kernel
theorem dX1_init_4 : decode cX1_init 4 = .ok (.aload_n 0, 1) := by decide +kernel
theorem dX1_init_5 : decode cX1_init 5 = .ok (.lconst 0, 1) := by decide +kernel
theorem dX1_init_6 : decode cX1_init 6 = .ok (.putfield 7, 3) := by decide +kernel
theorem dX1_init_9 : decode cX1_init 9 = .ok (.return_, 1) := by decide +kernel
theorem dX1_asTop_0 : decode cX1_asTop 0 = .ok (.aload_n 0, 1) := by decide +kernel
theorem dX1_asTop_1 : decode cX1_asTop 1 = .ok (.dup, 1) := by decide +kernel
theorem dX1_asTop_2 : decode cX1_asTop 2 = .ok (.getfield 7, 3) := by decide +kernel
theorem dX1_asTop_5 : decode cX1_asTop 5 = .ok (.lconst 1, 1) := by decide +kernel
theorem dX1_asTop_6 : decode cX1_asTop 6 = .ok (.ladd, 1) := by decide +kernel
theorem dX1_asTop_7 : decode cX1_asTop 7 = .ok (.putfield 7, 3) := by decide +kernel
theorem dX1_asTop_10 : decode cX1_asTop 10 = .ok (.aload_n 1, 1) := by decide +kernel
theorem dX1_asTop_11 : decode cX1_asTop 11 = .ok (.getfield 13, 3) := by decide +kernel
theorem dX1_asTop_14 : decode cX1_asTop 14 = .ok (.iload_n 2, 1) := by decide +kernel
theorem dX1_asTop_15 : decode cX1_asTop 15 = .ok (.iaload, 1) := by decide +kernel
theorem dX1_asTop_16 : decode cX1_asTop 16 = .ok (.ireturn, 1) := by decide +kernel
theorem dX1_asPeg_0 : decode cX1_asPeg 0 = .ok (.aload_n 0, 1) := by decide +kernel
theorem dX1_asPeg_1 : decode cX1_asPeg 1 = .ok (.dup, 1) := by decide +kernel
theorem dX1_asPeg_2 : decode cX1_asPeg 2 = .ok (.getfield 7, 3) := by decide +kernel
theorem dX1_asPeg_5 : decode cX1_asPeg 5 = .ok (.ldc2_w 19, 3) := by decide +kernel
theorem dX1_asPeg_8 : decode cX1_asPeg 8 = .ok (.ladd, 1) := by decide +kernel
theorem dX1_asPeg_9 : decode cX1_asPeg 9 = .ok (.putfield 7, 3) := by decide +kernel
theorem dX1_asPeg_12 : decode cX1_asPeg 12 = .ok (.aload_n 0, 1) := by decide +kernel
theorem dX1_asPeg_13 : decode cX1_asPeg 13 = .ok (.aload_n 2, 1) := by decide +kernel
theorem dX1_asPeg_14 : decode cX1_asPeg 14 = .ok (.iload_n 3, 1) := by decide +kernel
theorem dX1_asPeg_15 : decode cX1_asPeg 15 = .ok (.invokevirtual 21, 3) := by decide +kernel
theorem dX1_asPeg_18 : decode cX1_asPeg 18 = .ok (.aload_n 1, 1) := by decide +kernel
theorem dX1_asPeg_19 : decode cX1_asPeg 19 = .ok (.getfield 25, 3) := by decide +kernel
theorem dX1_asPeg_22 : decode cX1_asPeg 22 = .ok (.iload_n 3, 1) := by decide +kernel
theorem dX1_asPeg_23 : decode cX1_asPeg 23 = .ok (.iaload, 1) := by decide +kernel
theorem dX1_asPeg_24 : decode cX1_asPeg 24 = .ok (.iadd, 1) := by decide +kernel
theorem dX1_asPeg_25 : decode cX1_asPeg 25 = .ok (.ireturn, 1) := by decide +kernel
theorem dX1_asHummer_0 : decode cX1_asHummer 0 = .ok (.aload_n 0, 1) := by decide +kernel
theorem dX1_asHummer_1 : decode cX1_asHummer 1 = .ok (.dup, 1) := by decide +kernel
theorem dX1_asHummer_2 : decode cX1_asHummer 2 = .ok (.getfield 7, 3) := by decide +kernel
theorem dX1_asHummer_5 : decode cX1_asHummer 5 = .ok (.ldc2_w 30, 3) := by decide +kernel
theorem dX1_asHummer_8 : decode cX1_asHummer 8 = .ok (.ladd, 1) := by decide +kernel
theorem dX1_asHummer_9 : decode cX1_asHummer 9 = .ok (.putfield 7, 3) := by decide +kernel
theorem dX1_asHummer_12 : decode cX1_asHummer 12 = .ok (.aload_n 0, 1) := by decide +kernel
theorem dX1_asHummer_13 : decode cX1_asHummer 13 = .ok (.aload_n 1, 1) := by decide +kernel
theorem dX1_asHummer_14 : decode cX1_asHummer 14 = .ok (.iload_n 2, 1) := by decide +kernel
theorem dX1_asHummer_15 : decode cX1_asHummer 15 = .ok (.invokevirtual 21, 3) := by decide +kernel
theorem dX1_asHummer_18 : decode cX1_asHummer 18 = .ok (.aload_n 1, 1) := by decide +kernel
theorem dX1_asHummer_19 : decode cX1_asHummer 19 = .ok (.invokevirtual 32, 3) := by decide +kernel
theorem dX1_asHummer_22 : decode cX1_asHummer 22 = .ok (.isub, 1) := by decide +kernel
theorem dX1_asHummer_23 : decode cX1_asHummer 23 = .ok (.ireturn, 1) := by decide +kernel
theorem dX1_asWhipper_0 : decode cX1_asWhipper 0 = .ok (.aload_n 0, 1) := by decide +kernel
theorem dX1_asWhipper_1 : decode cX1_asWhipper 1 = .ok (.dup, 1) := by decide +kernel
theorem dX1_asWhipper_2 : decode cX1_asWhipper 2 = .ok (.getfield 7, 3) := by decide +kernel
theorem dX1_asWhipper_5 : decode cX1_asWhipper 5 = .ok (.ldc2_w 36, 3) := by decide +kernel
theorem dX1_asWhipper_8 : decode cX1_asWhipper 8 = .ok (.ladd, 1) := by decide +kernel
theorem dX1_asWhipper_9 : decode cX1_asWhipper 9 = .ok (.putfield 7, 3) := by decide +kernel
theorem dX1_asWhipper_12 : decode cX1_asWhipper 12 = .ok (.iconst 2, 1) := by decide +kernel
theorem dX1_asWhipper_13 : decode cX1_asWhipper 13 = .ok (.aload_n 0, 1) := by decide +kernel
theorem dX1_asWhipper_14 : decode cX1_asWhipper 14 = .ok (.aload_n 1, 1) := by decide +kernel
theorem dX1_asWhipper_15 : decode cX1_asWhipper 15 = .ok (.aload_n 2, 1) := by decide +kernel
theorem dX1_asWhipper_16 : decode cX1_asWhipper 16 = .ok (.iload_n 3, 1) := by decide +kernel
theorem dX1_asWhipper_17 : decode cX1_asWhipper 17 = .ok (.invokevirtual 38, 3) := by decide +kernel
theorem dX1_asWhipper_20 : decode cX1_asWhipper 20 = .ok (.imul, 1) := by decide +kernel
theorem dX1_asWhipper_21 : decode cX1_asWhipper 21 = .ok (.ireturn, 1) := by decide +kernel
theorem dX1_asDisc_0 : decode cX1_asDisc 0 = .ok (.aload_n 0, 1) := by decide +kernel
theorem dX1_asDisc_1 : decode cX1_asDisc 1 = .ok (.dup, 1) := by decide +kernel
theorem dX1_asDisc_2 : decode cX1_asDisc 2 = .ok (.getfield 7, 3) := by decide +kernel
theorem dX1_asDisc_5 : decode cX1_asDisc 5 = .ok (.ldc2_w 42, 3) := by decide +kernel
theorem dX1_asDisc_8 : decode cX1_asDisc 8 = .ok (.ladd, 1) := by decide +kernel
theorem dX1_asDisc_9 : decode cX1_asDisc 9 = .ok (.putfield 7, 3) := by decide +kernel
theorem dX1_asDisc_12 : decode cX1_asDisc 12 = .ok (.aload_n 0, 1) := by decide +kernel
theorem dX1_asDisc_13 : decode cX1_asDisc 13 = .ok (.aload_n 1, 1) := by decide +kernel
theorem dX1_asDisc_14 : decode cX1_asDisc 14 = .ok (.iload_n 2, 1) := by decide +kernel
theorem dX1_asDisc_15 : decode cX1_asDisc 15 = .ok (.invokevirtual 44, 3) := by decide +kernel
theorem dX1_asDisc_18 : decode cX1_asDisc 18 = .ok (.iload_n 2, 1) := by decide +kernel
theorem dX1_asDisc_19 : decode cX1_asDisc 19 = .ok (.iadd, 1) := by decide +kernel
theorem dX1_asDisc_20 : decode cX1_asDisc 20 = .ok (.ireturn, 1) := by decide +kernel
theorem dX1_asAcorn_0 : decode cX1_asAcorn 0 = .ok (.aload_n 0, 1) := by decide +kernel
theorem dX1_asAcorn_1 : decode cX1_asAcorn 1 = .ok (.dup, 1) := by decide +kernel
theorem dX1_asAcorn_2 : decode cX1_asAcorn 2 = .ok (.getfield 7, 3) := by decide +kernel
theorem dX1_asAcorn_5 : decode cX1_asAcorn 5 = .ok (.ldc2_w 47, 3) := by decide +kernel
theorem dX1_asAcorn_8 : decode cX1_asAcorn 8 = .ok (.ladd, 1) := by decide +kernel
theorem dX1_asAcorn_9 : decode cX1_asAcorn 9 = .ok (.putfield 7, 3) := by decide +kernel
theorem dX1_asAcorn_12 : decode cX1_asAcorn 12 = .ok (.aload_n 0, 1) := by decide +kernel
theorem dX1_asAcorn_13 : decode cX1_asAcorn 13 = .ok (.aload_n 1, 1) := by decide +kernel
theorem dX1_asAcorn_14 : decode cX1_asAcorn 14 = .ok (.iload_n 2, 1) := by decide +kernel
theorem dX1_asAcorn_15 : decode cX1_asAcorn 15 = .ok (.invokevirtual 21, 3) := by decide +kernel
theorem dX1_asAcorn_18 : decode cX1_asAcorn 18 = .ok (.aload_n 1, 1) := by decide +kernel
theorem dX1_asAcorn_19 : decode cX1_asAcorn 19 = .ok (.getfield 49, 3) := by decide +kernel
theorem dX1_asAcorn_22 : decode cX1_asAcorn 22 = .ok (.iadd, 1) := by decide +kernel
theorem dX1_asAcorn_23 : decode cX1_asAcorn 23 = .ok (.ireturn, 1) := by decide +kernel
theorem dX2_init_0 : decode cX2_init 0 = .ok (.aload_n 0, 1) := by decide +kernel
theorem dX2_init_1 : decode cX2_init 1 = .ok (.invokespecial 3, 3) := by decide +kernel
theorem dX2_init_4 : decode cX2_init 4 = .ok (.aload_n 0, 1) := by decide +kernel
theorem dX2_init_5 : decode cX2_init 5 = .ok (.bipush 6, 2) := by decide +kernel
theorem dX2_init_7 : decode cX2_init 7 = .ok (.newarray .int, 2) := by decide +kernel
theorem dX2_init_9 : decode cX2_init 9 = .ok (.putfield 9, 3) := by decide +kernel
theorem dX2_init_12 : decode cX2_init 12 = .ok (.aload_n 0, 1) := by decide +kernel
theorem dX2_init_13 : decode cX2_init 13 = .ok (.bipush 6, 2) := by decide +kernel
theorem dX2_init_15 : decode cX2_init 15 = .ok (.newarray .int, 2) := by decide +kernel
theorem dX2_init_17 : decode cX2_init 17 = .ok (.putfield 15, 3) := by decide +kernel
theorem dX2_init_20 : decode cX2_init 20 = .ok (.aload_n 0, 1) := by decide +kernel
theorem dX2_init_21 : decode cX2_init 21 = .ok (.iconst 0, 1) := by decide +kernel
theorem dX2_init_22 : decode cX2_init 22 = .ok (.putfield 18, 3) := by decide +kernel
theorem dX2_init_25 : decode cX2_init 25 = .ok (.aload_n 0, 1) := by decide +kernel
theorem dX2_init_26 : decode cX2_init 26 = .ok (.iconst 0, 1) := by decide +kernel
theorem dX2_init_27 : decode cX2_init 27 = .ok (.putfield 22, 3) := by decide +kernel
theorem dX2_init_30 : decode cX2_init 30 = .ok (.aload_n 0, 1) := by decide +kernel
theorem dX2_init_31 : decode cX2_init 31 = .ok (.invokevirtual 25, 3) := by decide +kernel
theorem dX2_init_34 : decode cX2_init 34 = .ok (.return_, 1) := by decide +kernel
theorem dX2_reset_0 : decode cX2_reset 0 = .ok (.aload_n 0, 1) := by decide +kernel
theorem dX2_reset_1 : decode cX2_reset 1 = .ok (.iconst 0, 1) := by decide +kernel
theorem dX2_reset_2 : decode cX2_reset 2 = .ok (.putfield 18, 3) := by decide +kernel
theorem dX2_reset_5 : decode cX2_reset 5 = .ok (.aload_n 0, 1) := by decide +kernel
theorem dX2_reset_6 : decode cX2_reset 6 = .ok (.iconst 0, 1) := by decide +kernel
theorem dX2_reset_7 : decode cX2_reset 7 = .ok (.putfield 22, 3) := by decide +kernel
theorem dX2_reset_10 : decode cX2_reset 10 = .ok (.iconst 0, 1) := by decide +kernel
theorem dX2_reset_11 : decode cX2_reset 11 = .ok (.istore_n 1, 1) := by decide +kernel
theorem dX2_reset_12 : decode cX2_reset 12 = .ok (.iload_n 1, 1) := by decide +kernel
theorem dX2_reset_13 : decode cX2_reset 13 = .ok (.bipush 6, 2) := by decide +kernel
theorem dX2_reset_15 : decode cX2_reset 15 = .ok (.if_icmp .ge 15, 3) := by decide +kernel
theorem dX2_reset_18 : decode cX2_reset 18 = .ok (.aload_n 0, 1) := by decide +kernel
theorem dX2_reset_19 : decode cX2_reset 19 = .ok (.iload_n 1, 1) := by decide +kernel
theorem dX2_reset_20 : decode cX2_reset 20 = .ok (.iconst 0, 1) := by decide +kernel
theorem dX2_reset_21 : decode cX2_reset 21 = .ok (.invokevirtual 28, 3) := by decide +kernel
theorem dX2_reset_24 : decode cX2_reset 24 = .ok (.iinc 1 1, 3) := by decide +kernel
theorem dX2_reset_27 : decode cX2_reset 27 = .ok (.goto (-15), 3) := by decide +kernel
theorem dX2_reset_30 : decode cX2_reset 30 = .ok (.return_, 1) := by decide +kernel
theorem dX2_copy_0 : decode cX2_copy 0 = .ok (.aload_n 0, 1) := by decide +kernel
theorem dX2_copy_1 : decode cX2_copy 1 = .ok (.aload_n 1, 1) := by decide +kernel
theorem dX2_copy_2 : decode cX2_copy 2 = .ok (.getfield 18, 3) := by decide +kernel
theorem dX2_copy_5 : decode cX2_copy 5 = .ok (.putfield 18, 3) := by decide +kernel
theorem dX2_copy_8 : decode cX2_copy 8 = .ok (.aload_n 0, 1) := by decide +kernel
theorem dX2_copy_9 : decode cX2_copy 9 = .ok (.aload_n 1, 1) := by decide +kernel
theorem dX2_copy_10 : decode cX2_copy 10 = .ok (.getfield 22, 3) := by decide +kernel
theorem dX2_copy_13 : decode cX2_copy 13 = .ok (.putfield 22, 3) := by decide +kernel
theorem dX2_copy_16 : decode cX2_copy 16 = .ok (.aload_n 1, 1) := by decide +kernel
theorem dX2_copy_17 : decode cX2_copy 17 = .ok (.getfield 9, 3) := by decide +kernel
theorem dX2_copy_20 : decode cX2_copy 20 = .ok (.iconst 0, 1) := by decide +kernel
theorem dX2_copy_21 : decode cX2_copy 21 = .ok (.aload_n 0, 1) := by decide +kernel
theorem dX2_copy_22 : decode cX2_copy 22 = .ok (.getfield 9, 3) := by decide +kernel
theorem dX2_copy_25 : decode cX2_copy 25 = .ok (.iconst 0, 1) := by decide +kernel
theorem dX2_copy_26 : decode cX2_copy 26 = .ok (.bipush 6, 2) := by decide +kernel
theorem dX2_copy_28 : decode cX2_copy 28 = .ok (.invokestatic 32, 3) := by decide +kernel
theorem dX2_copy_31 : decode cX2_copy 31 = .ok (.aload_n 1, 1) := by decide +kernel
theorem dX2_copy_32 : decode cX2_copy 32 = .ok (.getfield 15, 3) := by decide +kernel
theorem dX2_copy_35 : decode cX2_copy 35 = .ok (.iconst 0, 1) := by decide +kernel
theorem dX2_copy_36 : decode cX2_copy 36 = .ok (.aload_n 0, 1) := by decide +kernel
theorem dX2_copy_37 : decode cX2_copy 37 = .ok (.getfield 15, 3) := by decide +kernel
theorem dX2_copy_40 : decode cX2_copy 40 = .ok (.iconst 0, 1) := by decide +kernel
theorem dX2_copy_41 : decode cX2_copy 41 = .ok (.bipush 6, 2) := by decide +kernel
theorem dX2_copy_43 : decode cX2_copy 43 = .ok (.invokestatic 32, 3) := by decide +kernel
theorem dX2_copy_46 : decode cX2_copy 46 = .ok (.return_, 1) := by decide +kernel
theorem dX2_stands_0 : decode cX2_stands 0 = .ok (.aload_n 0, 1) := by decide +kernel
theorem dX2_stands_1 : decode cX2_stands 1 = .ok (.getfield 15, 3) := by decide +kernel
theorem dX2_stands_4 : decode cX2_stands 4 = .ok (.iload_n 1, 1) := by decide +kernel
theorem dX2_stands_5 : decode cX2_stands 5 = .ok (.iaload, 1) := by decide +kernel
theorem dX2_stands_6 : decode cX2_stands 6 = .ok (.ifCond .le 7, 3) := by decide +kernel
theorem dX2_stands_9 : decode cX2_stands 9 = .ok (.iconst 1, 1) := by decide +kernel
theorem dX2_stands_10 : decode cX2_stands 10 = .ok (.goto 4, 3) := by decide +kernel
theorem dX2_stands_13 : decode cX2_stands 13 = .ok (.iconst 0, 1) := by decide +kernel
theorem dX2_stands_14 : decode cX2_stands 14 = .ok (.ireturn, 1) := by decide +kernel
theorem dX2_who_0 : decode cX2_who 0 = .ok (.iconst 0, 1) := by decide +kernel
theorem dX2_who_1 : decode cX2_who 1 = .ok (.istore_n 2, 1) := by decide +kernel
theorem dX2_who_2 : decode cX2_who 2 = .ok (.iload_n 2, 1) := by decide +kernel
theorem dX2_who_3 : decode cX2_who 3 = .ok (.bipush 6, 2) := by decide +kernel
theorem dX2_who_5 : decode cX2_who 5 = .ok (.if_icmp .ge 29, 3) := by decide +kernel
theorem dX2_who_8 : decode cX2_who 8 = .ok (.aload_n 0, 1) := by decide +kernel
theorem dX2_who_9 : decode cX2_who 9 = .ok (.iload_n 2, 1) := by decide +kernel
theorem dX2_who_10 : decode cX2_who 10 = .ok (.invokevirtual 38, 3) := by decide +kernel
theorem dX2_who_13 : decode cX2_who 13 = .ok (.ifCond .eq 15, 3) := by decide +kernel
theorem dX2_who_16 : decode cX2_who 16 = .ok (.aload_n 0, 1) := by decide +kernel
theorem dX2_who_17 : decode cX2_who 17 = .ok (.getfield 9, 3) := by decide +kernel
theorem dX2_who_20 : decode cX2_who 20 = .ok (.iload_n 2, 1) := by decide +kernel
theorem dX2_who_21 : decode cX2_who 21 = .ok (.iaload, 1) := by decide +kernel
theorem dX2_who_22 : decode cX2_who 22 = .ok (.iload_n 1, 1) := by decide +kernel
theorem dX2_who_23 : decode cX2_who 23 = .ok (.if_icmp .ne 5, 3) := by decide +kernel
theorem dX2_who_26 : decode cX2_who 26 = .ok (.iload_n 2, 1) := by decide +kernel
theorem dX2_who_27 : decode cX2_who 27 = .ok (.ireturn, 1) := by decide +kernel
theorem dX2_who_28 : decode cX2_who 28 = .ok (.iinc 2 1, 3) := by decide +kernel
theorem dX2_who_31 : decode cX2_who 31 = .ok (.goto (-29), 3) := by decide +kernel
theorem dX2_who_34 : decode cX2_who 34 = .ok (.bipush (-9), 2) := by decide +kernel
theorem dX2_who_36 : decode cX2_who 36 = .ok (.ireturn, 1) := by decide +kernel
theorem dX2_standing_0 : decode cX2_standing 0 = .ok (.iconst 0, 1) := by decide +kernel
theorem dX2_standing_1 : decode cX2_standing 1 = .ok (.istore_n 1, 1) := by decide +kernel
theorem dX2_standing_2 : decode cX2_standing 2 = .ok (.iconst 0, 1) := by decide +kernel
theorem dX2_standing_3 : decode cX2_standing 3 = .ok (.istore_n 2, 1) := by decide +kernel
theorem dX2_standing_4 : decode cX2_standing 4 = .ok (.iload_n 2, 1) := by decide +kernel
theorem dX2_standing_5 : decode cX2_standing 5 = .ok (.bipush 6, 2) := by decide +kernel
theorem dX2_standing_7 : decode cX2_standing 7 = .ok (.if_icmp .ge 23, 3) := by decide +kernel
theorem dX2_standing_10 : decode cX2_standing 10 = .ok (.aload_n 0, 1) := by decide +kernel
theorem dX2_standing_11 : decode cX2_standing 11 = .ok (.iload_n 2, 1) := by decide +kernel
theorem dX2_standing_12 : decode cX2_standing 12 = .ok (.invokevirtual 38, 3) := by decide +kernel
theorem dX2_standing_15 : decode cX2_standing 15 = .ok (.ifCond .eq 9, 3) := by decide +kernel
theorem dX2_standing_18 : decode cX2_standing 18 = .ok (.iload_n 1, 1) := by decide +kernel
theorem dX2_standing_19 : decode cX2_standing 19 = .ok (.iconst 1, 1) := by decide +kernel
theorem dX2_standing_20 : decode cX2_standing 20 = .ok (.iload_n 2, 1) := by decide +kernel
theorem dX2_standing_21 : decode cX2_standing 21 = .ok (.ishl, 1) := by decide +kernel
theorem dX2_standing_22 : decode cX2_standing 22 = .ok (.ior, 1) := by decide +kernel
theorem dX2_standing_23 : decode cX2_standing 23 = .ok (.istore_n 1, 1) := by decide +kernel
theorem dX2_standing_24 : decode cX2_standing 24 = .ok (.iinc 2 1, 3) := by decide +kernel
theorem dX2_standing_27 : decode cX2_standing 27 = .ok (.goto (-23), 3) := by decide +kernel
theorem dX2_standing_30 : decode cX2_standing 30 = .ok (.iload_n 1, 1) := by decide +kernel
theorem dX2_standing_31 : decode cX2_standing 31 = .ok (.ireturn, 1) := by decide +kernel
theorem dX2_howMany_0 : decode cX2_howMany 0 = .ok (.aload_n 0, 1) := by decide +kernel
theorem dX2_howMany_1 : decode cX2_howMany 1 = .ok (.invokevirtual 42, 3) := by decide +kernel
theorem dX2_howMany_4 : decode cX2_howMany 4 = .ok (.invokestatic 46, 3) := by decide +kernel
theorem dX2_howMany_7 : decode cX2_howMany 7 = .ok (.ireturn, 1) := by decide +kernel
theorem dX2_lowest_0 : decode cX2_lowest 0 = .ok (.iconst 0, 1) := by decide +kernel
theorem dX2_lowest_1 : decode cX2_lowest 1 = .ok (.istore_n 1, 1) := by decide +kernel
theorem dX2_lowest_2 : decode cX2_lowest 2 = .ok (.iload_n 1, 1) := by decide +kernel
theorem dX2_lowest_3 : decode cX2_lowest 3 = .ok (.bipush 6, 2) := by decide +kernel
theorem dX2_lowest_5 : decode cX2_lowest 5 = .ok (.if_icmp .ge 19, 3) := by decide +kernel
theorem dX2_lowest_8 : decode cX2_lowest 8 = .ok (.aload_n 0, 1) := by decide +kernel
theorem dX2_lowest_9 : decode cX2_lowest 9 = .ok (.iload_n 1, 1) := by decide +kernel
theorem dX2_lowest_10 : decode cX2_lowest 10 = .ok (.invokevirtual 38, 3) := by decide +kernel
theorem dX2_lowest_13 : decode cX2_lowest 13 = .ok (.ifCond .eq 5, 3) := by decide +kernel
theorem dX2_lowest_16 : decode cX2_lowest 16 = .ok (.iload_n 1, 1) := by decide +kernel
theorem dX2_lowest_17 : decode cX2_lowest 17 = .ok (.ireturn, 1) := by decide +kernel
theorem dX2_lowest_18 : decode cX2_lowest 18 = .ok (.iinc 1 1, 3) := by decide +kernel
theorem dX2_lowest_21 : decode cX2_lowest 21 = .ok (.goto (-19), 3) := by decide +kernel
theorem dX2_lowest_24 : decode cX2_lowest 24 = .ok (.bipush (-9), 2) := by decide +kernel
theorem dX2_lowest_26 : decode cX2_lowest 26 = .ok (.ireturn, 1) := by decide +kernel
theorem dX2_allSpins_0 : decode cX2_allSpins 0 = .ok (.iconst 0, 1) := by decide +kernel
theorem dX2_allSpins_1 : decode cX2_allSpins 1 = .ok (.istore_n 1, 1) := by decide +kernel
theorem dX2_allSpins_2 : decode cX2_allSpins 2 = .ok (.iconst 0, 1) := by decide +kernel
theorem dX2_allSpins_3 : decode cX2_allSpins 3 = .ok (.istore_n 2, 1) := by decide +kernel
theorem dX2_allSpins_4 : decode cX2_allSpins 4 = .ok (.iload_n 2, 1) := by decide +kernel
theorem dX2_allSpins_5 : decode cX2_allSpins 5 = .ok (.bipush 6, 2) := by decide +kernel
theorem dX2_allSpins_7 : decode cX2_allSpins 7 = .ok (.if_icmp .ge 18, 3) := by decide +kernel
theorem dX2_allSpins_10 : decode cX2_allSpins 10 = .ok (.iload_n 1, 1) := by decide +kernel
theorem dX2_allSpins_11 : decode cX2_allSpins 11 = .ok (.aload_n 0, 1) := by decide +kernel
theorem dX2_allSpins_12 : decode cX2_allSpins 12 = .ok (.getfield 15, 3) := by decide +kernel
theorem dX2_allSpins_15 : decode cX2_allSpins 15 = .ok (.iload_n 2, 1) := by decide +kernel
theorem dX2_allSpins_16 : decode cX2_allSpins 16 = .ok (.iaload, 1) := by decide +kernel
theorem dX2_allSpins_17 : decode cX2_allSpins 17 = .ok (.iadd, 1) := by decide +kernel
theorem dX2_allSpins_18 : decode cX2_allSpins 18 = .ok (.istore_n 1, 1) := by decide +kernel
theorem dX2_allSpins_19 : decode cX2_allSpins 19 = .ok (.iinc 2 1, 3) := by decide +kernel
theorem dX2_allSpins_22 : decode cX2_allSpins 22 = .ok (.goto (-18), 3) := by decide +kernel
theorem dX2_allSpins_25 : decode cX2_allSpins 25 = .ok (.iload_n 1, 1) := by decide +kernel
theorem dX2_allSpins_26 : decode cX2_allSpins 26 = .ok (.ireturn, 1) := by decide +kernel
theorem dX2_whipped_0 : decode cX2_whipped 0 = .ok (.aload_n 0, 1) := by decide +kernel
theorem dX2_whipped_1 : decode cX2_whipped 1 = .ok (.getfield 15, 3) := by decide +kernel
theorem dX2_whipped_4 : decode cX2_whipped 4 = .ok (.iload_n 1, 1) := by decide +kernel
theorem dX2_whipped_5 : decode cX2_whipped 5 = .ok (.bipush 60, 2) := by decide +kernel
theorem dX2_whipped_7 : decode cX2_whipped 7 = .ok (.aload_n 0, 1) := by decide +kernel
theorem dX2_whipped_8 : decode cX2_whipped 8 = .ok (.getfield 15, 3) := by decide +kernel
theorem dX2_whipped_11 : decode cX2_whipped 11 = .ok (.iload_n 1, 1) := by decide +kernel
theorem dX2_whipped_12 : decode cX2_whipped 12 = .ok (.iaload, 1) := by decide +kernel
theorem dX2_whipped_13 : decode cX2_whipped 13 = .ok (.iload_n 2, 1) := by decide +kernel
theorem dX2_whipped_14 : decode cX2_whipped 14 = .ok (.iadd, 1) := by decide +kernel
theorem dX2_whipped_15 : decode cX2_whipped 15 = .ok (.invokestatic 52, 3) := by decide +kernel
theorem dX2_whipped_18 : decode cX2_whipped 18 = .ok (.iastore, 1) := by decide +kernel
theorem dX2_whipped_19 : decode cX2_whipped 19 = .ok (.return_, 1) := by decide +kernel
theorem dX2_spins_0 : decode cX2_spins 0 = .ok (.iload_n 2, 1) := by decide +kernel
theorem dX2_spins_1 : decode cX2_spins 1 = .ok (.ifCond .le 13, 3) := by decide +kernel
theorem dX2_spins_4 : decode cX2_spins 4 = .ok (.aload_n 0, 1) := by decide +kernel
theorem dX2_spins_5 : decode cX2_spins 5 = .ok (.getfield 15, 3) := by decide +kernel
theorem dX2_spins_8 : decode cX2_spins 8 = .ok (.iload_n 1, 1) := by decide +kernel
theorem dX2_spins_9 : decode cX2_spins 9 = .ok (.iload_n 2, 1) := by decide +kernel
theorem dX2_spins_10 : decode cX2_spins 10 = .ok (.iastore, 1) := by decide +kernel
theorem dX2_spins_11 : decode cX2_spins 11 = .ok (.goto 18, 3) := by decide +kernel
theorem dX2_spins_14 : decode cX2_spins 14 = .ok (.aload_n 0, 1) := by decide +kernel
theorem dX2_spins_15 : decode cX2_spins 15 = .ok (.getfield 15, 3) := by decide +kernel
theorem dX2_spins_18 : decode cX2_spins 18 = .ok (.iload_n 1, 1) := by decide +kernel
theorem dX2_spins_19 : decode cX2_spins 19 = .ok (.iconst 0, 1) := by decide +kernel
theorem dX2_spins_20 : decode cX2_spins 20 = .ok (.iastore, 1) := by decide +kernel
theorem dX2_spins_21 : decode cX2_spins 21 = .ok (.aload_n 0, 1) := by decide +kernel
theorem dX2_spins_22 : decode cX2_spins 22 = .ok (.getfield 9, 3) := by decide +kernel
theorem dX2_spins_25 : decode cX2_spins 25 = .ok (.iload_n 1, 1) := by decide +kernel
theorem dX2_spins_26 : decode cX2_spins 26 = .ok (.bipush (-9), 2) := by decide +kernel
theorem dX2_spins_28 : decode cX2_spins 28 = .ok (.iastore, 1) := by decide +kernel
theorem dX2_spins_29 : decode cX2_spins 29 = .ok (.return_, 1) := by decide +kernel
theorem dX2_goBy_0 : decode cX2_goBy 0 = .ok (.aload_n 0, 1) := by decide +kernel
theorem dX2_goBy_1 : decode cX2_goBy 1 = .ok (.invokevirtual 58, 3) := by decide +kernel
theorem dX2_goBy_4 : decode cX2_goBy 4 = .ok (.istore_n 3, 1) := by decide +kernel
theorem dX2_goBy_5 : decode cX2_goBy 5 = .ok (.iconst 0, 1) := by decide +kernel
theorem dX2_goBy_6 : decode cX2_goBy 6 = .ok (.istore 4, 2) := by decide +kernel
theorem dX2_goBy_8 : decode cX2_goBy 8 = .ok (.iload 4, 2) := by decide +kernel
theorem dX2_goBy_10 : decode cX2_goBy 10 = .ok (.iload_n 2, 1) := by decide +kernel
theorem dX2_goBy_11 : decode cX2_goBy 11 = .ok (.if_icmp .ge 36, 3) := by decide +kernel
theorem dX2_goBy_14 : decode cX2_goBy 14 = .ok (.aload_n 0, 1) := by decide +kernel
theorem dX2_goBy_15 : decode cX2_goBy 15 = .ok (.dup, 1) := by decide +kernel
theorem dX2_goBy_16 : decode cX2_goBy 16 = .ok (.getfield 18, 3) := by decide +kernel
theorem dX2_goBy_19 : decode cX2_goBy 19 = .ok (.iconst 1, 1) := by decide +kernel
theorem dX2_goBy_20 : decode cX2_goBy 20 = .ok (.iadd, 1) := by decide +kernel
theorem dX2_goBy_21 : decode cX2_goBy 21 = .ok (.putfield 18, 3) := by decide +kernel
theorem dX2_goBy_24 : decode cX2_goBy 24 = .ok (.aload_n 0, 1) := by decide +kernel
theorem dX2_goBy_25 : decode cX2_goBy 25 = .ok (.aload_n 1, 1) := by decide +kernel
theorem dX2_goBy_26 : decode cX2_goBy 26 = .ok (.invokevirtual 61, 3) := by decide +kernel
theorem dX2_goBy_29 : decode cX2_goBy 29 = .ok (.aload_n 0, 1) := by decide +kernel
theorem dX2_goBy_30 : decode cX2_goBy 30 = .ok (.getfield 22, 3) := by decide +kernel
theorem dX2_goBy_33 : decode cX2_goBy 33 = .ok (.ifCond .eq 8, 3) := by decide +kernel
theorem dX2_goBy_36 : decode cX2_goBy 36 = .ok (.aload_n 0, 1) := by decide +kernel
theorem dX2_goBy_37 : decode cX2_goBy 37 = .ok (.aload_n 1, 1) := by decide +kernel
theorem dX2_goBy_38 : decode cX2_goBy 38 = .ok (.invokevirtual 65, 3) := by decide +kernel
theorem dX2_goBy_41 : decode cX2_goBy 41 = .ok (.iinc 4 1, 3) := by decide +kernel
theorem dX2_goBy_44 : decode cX2_goBy 44 = .ok (.goto (-36), 3) := by decide +kernel
theorem dX2_goBy_47 : decode cX2_goBy 47 = .ok (.iload_n 3, 1) := by decide +kernel
theorem dX2_goBy_48 : decode cX2_goBy 48 = .ok (.aload_n 0, 1) := by decide +kernel
theorem dX2_goBy_49 : decode cX2_goBy 49 = .ok (.invokevirtual 58, 3) := by decide +kernel
theorem dX2_goBy_52 : decode cX2_goBy 52 = .ok (.isub, 1) := by decide +kernel
theorem dX2_goBy_53 : decode cX2_goBy 53 = .ok (.ireturn, 1) := by decide +kernel
theorem dX2_slowDown_0 : decode cX2_slowDown 0 = .ok (.iconst 0, 1) := by decide +kernel
theorem dX2_slowDown_1 : decode cX2_slowDown 1 = .ok (.istore_n 2, 1) := by decide +kernel
theorem dX2_slowDown_2 : decode cX2_slowDown 2 = .ok (.iload_n 2, 1) := by decide +kernel
theorem dX2_slowDown_3 : decode cX2_slowDown 3 = .ok (.bipush 6, 2) := by decide +kernel
theorem dX2_slowDown_5 : decode cX2_slowDown 5 = .ok (.if_icmp .ge 35, 3) := by decide +kernel
theorem dX2_slowDown_8 : decode cX2_slowDown 8 = .ok (.aload_n 0, 1) := by decide +kernel
theorem dX2_slowDown_9 : decode cX2_slowDown 9 = .ok (.iload_n 2, 1) := by decide +kernel
theorem dX2_slowDown_10 : decode cX2_slowDown 10 = .ok (.invokevirtual 38, 3) := by decide +kernel
theorem dX2_slowDown_13 : decode cX2_slowDown 13 = .ok (.ifCond .eq 21, 3) := by decide +kernel
theorem dX2_slowDown_16 : decode cX2_slowDown 16 = .ok (.aload_n 0, 1) := by decide +kernel
theorem dX2_slowDown_17 : decode cX2_slowDown 17 = .ok (.iload_n 2, 1) := by decide +kernel
theorem dX2_slowDown_18 : decode cX2_slowDown 18 = .ok (.aload_n 0, 1) := by decide +kernel
theorem dX2_slowDown_19 : decode cX2_slowDown 19 = .ok (.getfield 15, 3) := by decide +kernel
theorem dX2_slowDown_22 : decode cX2_slowDown 22 = .ok (.iload_n 2, 1) := by decide +kernel
theorem dX2_slowDown_23 : decode cX2_slowDown 23 = .ok (.iaload, 1) := by decide +kernel
theorem dX2_slowDown_24 : decode cX2_slowDown 24 = .ok (.aload_n 1, 1) := by decide +kernel
theorem dX2_slowDown_25 : decode cX2_slowDown 25 = .ok (.getfield 68, 3) := by decide +kernel
theorem dX2_slowDown_28 : decode cX2_slowDown 28 = .ok (.iload_n 2, 1) := by decide +kernel
theorem dX2_slowDown_29 : decode cX2_slowDown 29 = .ok (.iaload, 1) := by decide +kernel
theorem dX2_slowDown_30 : decode cX2_slowDown 30 = .ok (.isub, 1) := by decide +kernel
theorem dX2_slowDown_31 : decode cX2_slowDown 31 = .ok (.invokevirtual 28, 3) := by decide +kernel
theorem dX2_slowDown_34 : decode cX2_slowDown 34 = .ok (.iinc 2 1, 3) := by decide +kernel
theorem dX2_slowDown_37 : decode cX2_slowDown 37 = .ok (.goto (-35), 3) := by decide +kernel
theorem dX2_slowDown_40 : decode cX2_slowDown 40 = .ok (.return_, 1) := by decide +kernel
theorem dX2_wander_0 : decode cX2_wander 0 = .ok (.iconst 0, 1) := by decide +kernel
theorem dX2_wander_1 : decode cX2_wander 1 = .ok (.istore_n 2, 1) := by decide +kernel
theorem dX2_wander_2 : decode cX2_wander 2 = .ok (.iload_n 2, 1) := by decide +kernel
theorem dX2_wander_3 : decode cX2_wander 3 = .ok (.bipush 6, 2) := by decide +kernel
theorem dX2_wander_5 : decode cX2_wander 5 = .ok (.if_icmp .ge 84, 3) := by decide +kernel
theorem dX2_wander_8 : decode cX2_wander 8 = .ok (.aload_n 0, 1) := by decide +kernel
theorem dX2_wander_9 : decode cX2_wander 9 = .ok (.iload_n 2, 1) := by decide +kernel
theorem dX2_wander_10 : decode cX2_wander 10 = .ok (.invokevirtual 38, 3) := by decide +kernel
theorem dX2_wander_13 : decode cX2_wander 13 = .ok (.ifCond .eq 70, 3) := by decide +kernel
theorem dX2_wander_16 : decode cX2_wander 16 = .ok (.aload_n 0, 1) := by decide +kernel
theorem dX2_wander_17 : decode cX2_wander 17 = .ok (.getfield 15, 3) := by decide +kernel
theorem dX2_wander_20 : decode cX2_wander 20 = .ok (.iload_n 2, 1) := by decide +kernel
theorem dX2_wander_21 : decode cX2_wander 21 = .ok (.iaload, 1) := by decide +kernel
theorem dX2_wander_22 : decode cX2_wander 22 = .ok (.aload_n 1, 1) := by decide +kernel
theorem dX2_wander_23 : decode cX2_wander 23 = .ok (.getfield 73, 3) := by decide +kernel
theorem dX2_wander_26 : decode cX2_wander 26 = .ok (.if_icmp .le 6, 3) := by decide +kernel
theorem dX2_wander_29 : decode cX2_wander 29 = .ok (.goto 54, 3) := by decide +kernel
theorem dX2_wander_32 : decode cX2_wander 32 = .ok (.aload_n 0, 1) := by decide +kernel
theorem dX2_wander_33 : decode cX2_wander 33 = .ok (.aload_n 0, 1) := by decide +kernel
theorem dX2_wander_34 : decode cX2_wander 34 = .ok (.getfield 9, 3) := by decide +kernel
theorem dX2_wander_37 : decode cX2_wander 37 = .ok (.iload_n 2, 1) := by decide +kernel
theorem dX2_wander_38 : decode cX2_wander 38 = .ok (.iaload, 1) := by decide +kernel
theorem dX2_wander_39 : decode cX2_wander 39 = .ok (.aload_n 1, 1) := by decide +kernel
theorem dX2_wander_40 : decode cX2_wander 40 = .ok (.getfield 76, 3) := by decide +kernel
theorem dX2_wander_43 : decode cX2_wander 43 = .ok (.invokevirtual 79, 3) := by decide +kernel
theorem dX2_wander_46 : decode cX2_wander 46 = .ok (.istore_n 3, 1) := by decide +kernel
theorem dX2_wander_47 : decode cX2_wander 47 = .ok (.aload_n 0, 1) := by decide +kernel
theorem dX2_wander_48 : decode cX2_wander 48 = .ok (.iload_n 3, 1) := by decide +kernel
theorem dX2_wander_49 : decode cX2_wander 49 = .ok (.invokevirtual 82, 3) := by decide +kernel
theorem dX2_wander_52 : decode cX2_wander 52 = .ok (.istore 4, 2) := by decide +kernel
theorem dX2_wander_54 : decode cX2_wander 54 = .ok (.iload 4, 2) := by decide +kernel
theorem dX2_wander_56 : decode cX2_wander 56 = .ok (.bipush (-9), 2) := by decide +kernel
theorem dX2_wander_58 : decode cX2_wander 58 = .ok (.if_icmp .eq 10, 3) := by decide +kernel
theorem dX2_wander_61 : decode cX2_wander 61 = .ok (.aload_n 0, 1) := by decide +kernel
theorem dX2_wander_62 : decode cX2_wander 62 = .ok (.iload_n 2, 1) := by decide +kernel
theorem dX2_wander_63 : decode cX2_wander 63 = .ok (.iload 4, 2) := by decide +kernel
theorem dX2_wander_65 : decode cX2_wander 65 = .ok (.invokevirtual 85, 3) := by decide +kernel
theorem dX2_wander_68 : decode cX2_wander 68 = .ok (.aload_n 0, 1) := by decide +kernel
theorem dX2_wander_69 : decode cX2_wander 69 = .ok (.iload_n 2, 1) := by decide +kernel
theorem dX2_wander_70 : decode cX2_wander 70 = .ok (.invokevirtual 38, 3) := by decide +kernel
theorem dX2_wander_73 : decode cX2_wander 73 = .ok (.ifCond .eq 10, 3) := by decide +kernel
theorem dX2_wander_76 : decode cX2_wander 76 = .ok (.aload_n 0, 1) := by decide +kernel
theorem dX2_wander_77 : decode cX2_wander 77 = .ok (.getfield 9, 3) := by decide +kernel
theorem dX2_wander_80 : decode cX2_wander 80 = .ok (.iload_n 2, 1) := by decide +kernel
theorem dX2_wander_81 : decode cX2_wander 81 = .ok (.iload_n 3, 1) := by decide +kernel
theorem dX2_wander_82 : decode cX2_wander 82 = .ok (.iastore, 1) := by decide +kernel
theorem dX2_wander_83 : decode cX2_wander 83 = .ok (.iinc 2 1, 3) := by decide +kernel
theorem dX2_wander_86 : decode cX2_wander 86 = .ok (.goto (-84), 3) := by decide +kernel
theorem dX2_wander_89 : decode cX2_wander 89 = .ok (.return_, 1) := by decide +kernel
theorem dX2_neighbour_0 : decode cX2_neighbour 0 = .ok (.aload_n 0, 1) := by decide +kernel
theorem dX2_neighbour_1 : decode cX2_neighbour 1 = .ok (.getfield 22, 3) := by decide +kernel
theorem dX2_neighbour_4 : decode cX2_neighbour 4 = .ok (.iconst 1, 1) := by decide +kernel
theorem dX2_neighbour_5 : decode cX2_neighbour 5 = .ok (.if_icmp .ne 18, 3) := by decide +kernel
theorem dX2_neighbour_8 : decode cX2_neighbour 8 = .ok (.iload_n 1, 1) := by decide +kernel
theorem dX2_neighbour_9 : decode cX2_neighbour 9 = .ok (.iconst 1, 1) := by decide +kernel
theorem dX2_neighbour_10 : decode cX2_neighbour 10 = .ok (.iadd, 1) := by decide +kernel
theorem dX2_neighbour_11 : decode cX2_neighbour 11 = .ok (.iload_n 2, 1) := by decide +kernel
theorem dX2_neighbour_12 : decode cX2_neighbour 12 = .ok (.if_icmp .ge 9, 3) := by decide +kernel
theorem dX2_neighbour_15 : decode cX2_neighbour 15 = .ok (.iload_n 1, 1) := by decide +kernel
theorem dX2_neighbour_16 : decode cX2_neighbour 16 = .ok (.iconst 1, 1) := by decide +kernel
theorem dX2_neighbour_17 : decode cX2_neighbour 17 = .ok (.iadd, 1) := by decide +kernel
theorem dX2_neighbour_18 : decode cX2_neighbour 18 = .ok (.goto 4, 3) := by decide +kernel
theorem dX2_neighbour_21 : decode cX2_neighbour 21 = .ok (.iconst 0, 1) := by decide +kernel
theorem dX2_neighbour_22 : decode cX2_neighbour 22 = .ok (.ireturn, 1) := by decide +kernel
theorem dX2_neighbour_23 : decode cX2_neighbour 23 = .ok (.iload_n 1, 1) := by decide +kernel
theorem dX2_neighbour_24 : decode cX2_neighbour 24 = .ok (.ifCond .le 9, 3) := by decide +kernel
theorem dX2_neighbour_27 : decode cX2_neighbour 27 = .ok (.iload_n 1, 1) := by decide +kernel
theorem dX2_neighbour_28 : decode cX2_neighbour 28 = .ok (.iconst 1, 1) := by decide +kernel
theorem dX2_neighbour_29 : decode cX2_neighbour 29 = .ok (.isub, 1) := by decide +kernel
theorem dX2_neighbour_30 : decode cX2_neighbour 30 = .ok (.goto 6, 3) := by decide +kernel
theorem dX2_neighbour_33 : decode cX2_neighbour 33 = .ok (.iload_n 2, 1) := by decide +kernel
theorem dX2_neighbour_34 : decode cX2_neighbour 34 = .ok (.iconst 1, 1) := by decide +kernel
theorem dX2_neighbour_35 : decode cX2_neighbour 35 = .ok (.isub, 1) := by decide +kernel
theorem dX2_neighbour_36 : decode cX2_neighbour 36 = .ok (.ireturn, 1) := by decide +kernel
theorem dX2_meet_0 : decode cX2_meet 0 = .ok (.aload_n 0, 1) := by decide +kernel
theorem dX2_meet_1 : decode cX2_meet 1 = .ok (.getfield 15, 3) := by decide +kernel
theorem dX2_meet_4 : decode cX2_meet 4 = .ok (.iload_n 1, 1) := by decide +kernel
theorem dX2_meet_5 : decode cX2_meet 5 = .ok (.iaload, 1) := by decide +kernel
theorem dX2_meet_6 : decode cX2_meet 6 = .ok (.aload_n 0, 1) := by decide +kernel
theorem dX2_meet_7 : decode cX2_meet 7 = .ok (.getfield 15, 3) := by decide +kernel
theorem dX2_meet_10 : decode cX2_meet 10 = .ok (.iload_n 2, 1) := by decide +kernel
theorem dX2_meet_11 : decode cX2_meet 11 = .ok (.iaload, 1) := by decide +kernel
theorem dX2_meet_12 : decode cX2_meet 12 = .ok (.if_icmp .le 7, 3) := by decide +kernel
theorem dX2_meet_15 : decode cX2_meet 15 = .ok (.iconst 1, 1) := by decide +kernel
theorem dX2_meet_16 : decode cX2_meet 16 = .ok (.goto 4, 3) := by decide +kernel
theorem dX2_meet_19 : decode cX2_meet 19 = .ok (.iconst 0, 1) := by decide +kernel
theorem dX2_meet_20 : decode cX2_meet 20 = .ok (.istore_n 3, 1) := by decide +kernel
theorem dX2_meet_21 : decode cX2_meet 21 = .ok (.iload_n 3, 1) := by decide +kernel
theorem dX2_meet_22 : decode cX2_meet 22 = .ok (.ifCond .eq 7, 3) := by decide +kernel
theorem dX2_meet_25 : decode cX2_meet 25 = .ok (.iload_n 1, 1) := by decide +kernel
theorem dX2_meet_26 : decode cX2_meet 26 = .ok (.goto 4, 3) := by decide +kernel
theorem dX2_meet_29 : decode cX2_meet 29 = .ok (.iload_n 2, 1) := by decide +kernel
theorem dX2_meet_30 : decode cX2_meet 30 = .ok (.istore 4, 2) := by decide +kernel
theorem dX2_meet_32 : decode cX2_meet 32 = .ok (.aload_n 0, 1) := by decide +kernel
theorem dX2_meet_33 : decode cX2_meet 33 = .ok (.iload_n 3, 1) := by decide +kernel
theorem dX2_meet_34 : decode cX2_meet 34 = .ok (.ifCond .eq 7, 3) := by decide +kernel
theorem dX2_meet_37 : decode cX2_meet 37 = .ok (.iload_n 2, 1) := by decide +kernel
theorem dX2_meet_38 : decode cX2_meet 38 = .ok (.goto 4, 3) := by decide +kernel
theorem dX2_meet_41 : decode cX2_meet 41 = .ok (.iload_n 1, 1) := by decide +kernel
theorem dX2_meet_42 : decode cX2_meet 42 = .ok (.iconst 0, 1) := by decide +kernel
theorem dX2_meet_43 : decode cX2_meet 43 = .ok (.invokevirtual 28, 3) := by decide +kernel
theorem dX2_meet_46 : decode cX2_meet 46 = .ok (.aload_n 0, 1) := by decide +kernel
theorem dX2_meet_47 : decode cX2_meet 47 = .ok (.iload 4, 2) := by decide +kernel
theorem dX2_meet_49 : decode cX2_meet 49 = .ok (.aload_n 0, 1) := by decide +kernel
theorem dX2_meet_50 : decode cX2_meet 50 = .ok (.getfield 15, 3) := by decide +kernel
theorem dX2_meet_53 : decode cX2_meet 53 = .ok (.iload 4, 2) := by decide +kernel
theorem dX2_meet_55 : decode cX2_meet 55 = .ok (.iaload, 1) := by decide +kernel
theorem dX2_meet_56 : decode cX2_meet 56 = .ok (.iconst 5, 1) := by decide +kernel
theorem dX2_meet_57 : decode cX2_meet 57 = .ok (.isub, 1) := by decide +kernel
theorem dX2_meet_58 : decode cX2_meet 58 = .ok (.invokevirtual 28, 3) := by decide +kernel
theorem dX2_meet_61 : decode cX2_meet 61 = .ok (.return_, 1) := by decide +kernel
theorem dX3_init_0 : decode cX3_init 0 = .ok (.aload_n 0, 1) := by decide +kernel
theorem dX3_init_1 : decode cX3_init 1 = .ok (.invokespecial 3, 3) := by decide +kernel
theorem dX3_init_4 : decode cX3_init 4 = .ok (.aload_n 0, 1) := by decide +kernel
theorem dX3_init_5 : decode cX3_init 5 = .ok (.bipush 10, 2) := by decide +kernel
theorem dX3_init_7 : decode cX3_init 7 = .ok (.anewarray 9, 3) := by decide +kernel
theorem dX3_init_10 : decode cX3_init 10 = .ok (.putfield 11, 3) := by decide +kernel
theorem dX3_init_13 : decode cX3_init 13 = .ok (.aload_n 0, 1) := by decide +kernel
theorem dX3_init_14 : decode cX3_init 14 = .ok (.iconst 0, 1) := by decide +kernel
theorem dX3_init_15 : decode cX3_init 15 = .ok (.putfield 17, 3) := by decide +kernel
theorem dX3_init_18 : decode cX3_init 18 = .ok (.aload_n 0, 1) := by decide +kernel
theorem dX3_init_19 : decode cX3_init 19 = .ok (.iconst 0, 1) := by decide +kernel
theorem dX3_init_20 : decode cX3_init 20 = .ok (.putfield 21, 3) := by decide +kernel
theorem dX3_init_23 : decode cX3_init 23 = .ok (.iconst 0, 1) := by decide +kernel
theorem dX3_init_24 : decode cX3_init 24 = .ok (.istore_n 1, 1) := by decide +kernel
theorem dX3_init_25 : decode cX3_init 25 = .ok (.iload_n 1, 1) := by decide +kernel
theorem dX3_init_26 : decode cX3_init 26 = .ok (.bipush 10, 2) := by decide +kernel
theorem dX3_init_28 : decode cX3_init 28 = .ok (.if_icmp .ge 22, 3) := by decide +kernel
theorem dX3_init_31 : decode cX3_init 31 = .ok (.aload_n 0, 1) := by decide +kernel
theorem dX3_init_32 : decode cX3_init 32 = .ok (.getfield 11, 3) := by decide +kernel
theorem dX3_init_35 : decode cX3_init 35 = .ok (.iload_n 1, 1) := by decide +kernel
theorem dX3_init_36 : decode cX3_init 36 = .ok (.new 9, 3) := by decide +kernel
theorem dX3_init_39 : decode cX3_init 39 = .ok (.dup, 1) := by decide +kernel
theorem dX3_init_40 : decode cX3_init 40 = .ok (.invokespecial 24, 3) := by decide +kernel
theorem dX3_init_43 : decode cX3_init 43 = .ok (.aastore, 1) := by decide +kernel
theorem dX3_init_44 : decode cX3_init 44 = .ok (.iinc 1 1, 3) := by decide +kernel
theorem dX3_init_47 : decode cX3_init 47 = .ok (.goto (-22), 3) := by decide +kernel
theorem dX3_init_50 : decode cX3_init 50 = .ok (.return_, 1) := by decide +kernel
theorem dX3_remember_0 : decode cX3_remember 0 = .ok (.aload_n 0, 1) := by decide +kernel
theorem dX3_remember_1 : decode cX3_remember 1 = .ok (.getfield 11, 3) := by decide +kernel
theorem dX3_remember_4 : decode cX3_remember 4 = .ok (.aload_n 0, 1) := by decide +kernel
theorem dX3_remember_5 : decode cX3_remember 5 = .ok (.getfield 17, 3) := by decide +kernel
theorem dX3_remember_8 : decode cX3_remember 8 = .ok (.aaload, 1) := by decide +kernel
theorem dX3_remember_9 : decode cX3_remember 9 = .ok (.aload_n 1, 1) := by decide +kernel
theorem dX3_remember_10 : decode cX3_remember 10 = .ok (.invokevirtual 25, 3) := by decide +kernel
theorem dX3_remember_13 : decode cX3_remember 13 = .ok (.aload_n 0, 1) := by decide +kernel
theorem dX3_remember_14 : decode cX3_remember 14 = .ok (.aload_n 0, 1) := by decide +kernel
theorem dX3_remember_15 : decode cX3_remember 15 = .ok (.getfield 17, 3) := by decide +kernel
theorem dX3_remember_18 : decode cX3_remember 18 = .ok (.iconst 1, 1) := by decide +kernel
theorem dX3_remember_19 : decode cX3_remember 19 = .ok (.iadd, 1) := by decide +kernel
theorem dX3_remember_20 : decode cX3_remember 20 = .ok (.bipush 10, 2) := by decide +kernel
theorem dX3_remember_22 : decode cX3_remember 22 = .ok (.if_icmp .ge 12, 3) := by decide +kernel
theorem dX3_remember_25 : decode cX3_remember 25 = .ok (.aload_n 0, 1) := by decide +kernel
theorem dX3_remember_26 : decode cX3_remember 26 = .ok (.getfield 17, 3) := by decide +kernel
theorem dX3_remember_29 : decode cX3_remember 29 = .ok (.iconst 1, 1) := by decide +kernel
theorem dX3_remember_30 : decode cX3_remember 30 = .ok (.iadd, 1) := by decide +kernel
theorem dX3_remember_31 : decode cX3_remember 31 = .ok (.goto 4, 3) := by decide +kernel
theorem dX3_remember_34 : decode cX3_remember 34 = .ok (.iconst 0, 1) := by decide +kernel
theorem dX3_remember_35 : decode cX3_remember 35 = .ok (.putfield 17, 3) := by decide +kernel
theorem dX3_remember_38 : decode cX3_remember 38 = .ok (.aload_n 0, 1) := by decide +kernel
theorem dX3_remember_39 : decode cX3_remember 39 = .ok (.bipush 10, 2) := by decide +kernel
theorem dX3_remember_41 : decode cX3_remember 41 = .ok (.aload_n 0, 1) := by decide +kernel
theorem dX3_remember_42 : decode cX3_remember 42 = .ok (.getfield 21, 3) := by decide +kernel
theorem dX3_remember_45 : decode cX3_remember 45 = .ok (.iconst 1, 1) := by decide +kernel
theorem dX3_remember_46 : decode cX3_remember 46 = .ok (.iadd, 1) := by decide +kernel
theorem dX3_remember_47 : decode cX3_remember 47 = .ok (.invokestatic 29, 3) := by decide +kernel
theorem dX3_remember_50 : decode cX3_remember 50 = .ok (.putfield 21, 3) := by decide +kernel
theorem dX3_remember_53 : decode cX3_remember 53 = .ok (.return_, 1) := by decide +kernel
theorem dX3_recall_0 : decode cX3_recall 0 = .ok (.aload_n 0, 1) := by decide +kernel
theorem dX3_recall_1 : decode cX3_recall 1 = .ok (.getfield 21, 3) := by decide +kernel
theorem dX3_recall_4 : decode cX3_recall 4 = .ok (.ifCond .ne 5, 3) := by decide +kernel
theorem dX3_recall_7 : decode cX3_recall 7 = .ok (.iconst 0, 1) := by decide +kernel
theorem dX3_recall_8 : decode cX3_recall 8 = .ok (.ireturn, 1) := by decide +kernel
theorem dX3_recall_9 : decode cX3_recall 9 = .ok (.aload_n 0, 1) := by decide +kernel
theorem dX3_recall_10 : decode cX3_recall 10 = .ok (.aload_n 0, 1) := by decide +kernel
theorem dX3_recall_11 : decode cX3_recall 11 = .ok (.getfield 17, 3) := by decide +kernel
theorem dX3_recall_14 : decode cX3_recall 14 = .ok (.ifCond .le 12, 3) := by decide +kernel
theorem dX3_recall_17 : decode cX3_recall 17 = .ok (.aload_n 0, 1) := by decide +kernel
theorem dX3_recall_18 : decode cX3_recall 18 = .ok (.getfield 17, 3) := by decide +kernel
theorem dX3_recall_21 : decode cX3_recall 21 = .ok (.iconst 1, 1) := by decide +kernel
theorem dX3_recall_22 : decode cX3_recall 22 = .ok (.isub, 1) := by decide +kernel
theorem dX3_recall_23 : decode cX3_recall 23 = .ok (.goto 5, 3) := by decide +kernel
theorem dX3_recall_26 : decode cX3_recall 26 = .ok (.bipush 9, 2) := by decide +kernel
theorem dX3_recall_28 : decode cX3_recall 28 = .ok (.putfield 17, 3) := by decide +kernel
theorem dX3_recall_31 : decode cX3_recall 31 = .ok (.aload_n 1, 1) := by decide +kernel
theorem dX3_recall_32 : decode cX3_recall 32 = .ok (.aload_n 0, 1) := by decide +kernel
theorem dX3_recall_33 : decode cX3_recall 33 = .ok (.getfield 11, 3) := by decide +kernel
theorem dX3_recall_36 : decode cX3_recall 36 = .ok (.aload_n 0, 1) := by decide +kernel
theorem dX3_recall_37 : decode cX3_recall 37 = .ok (.getfield 17, 3) := by decide +kernel
theorem dX3_recall_40 : decode cX3_recall 40 = .ok (.aaload, 1) := by decide +kernel
theorem dX3_recall_41 : decode cX3_recall 41 = .ok (.invokevirtual 25, 3) := by decide +kernel
theorem dX3_recall_44 : decode cX3_recall 44 = .ok (.aload_n 0, 1) := by decide +kernel
theorem dX3_recall_45 : decode cX3_recall 45 = .ok (.dup, 1) := by decide +kernel
theorem dX3_recall_46 : decode cX3_recall 46 = .ok (.getfield 21, 3) := by decide +kernel
theorem dX3_recall_49 : decode cX3_recall 49 = .ok (.iconst 1, 1) := by decide +kernel
theorem dX3_recall_50 : decode cX3_recall 50 = .ok (.isub, 1) := by decide +kernel
theorem dX3_recall_51 : decode cX3_recall 51 = .ok (.putfield 21, 3) := by decide +kernel
theorem dX3_recall_54 : decode cX3_recall 54 = .ok (.iconst 1, 1) := by decide +kernel
theorem dX3_recall_55 : decode cX3_recall 55 = .ok (.ireturn, 1) := by decide +kernel
theorem dJ6_bitCount_0f7a4_0 : decode cJ6_bitCount_0f7a4 0 = .ok (.iload_n 0, 1) := by decide +kernel
theorem dJ6_bitCount_0f7a4_1 : decode cJ6_bitCount_0f7a4 1 = .ok (.iload_n 0, 1) := by decide +kernel
theorem dJ6_bitCount_0f7a4_2 : decode cJ6_bitCount_0f7a4 2 = .ok (.iconst 1, 1) := by decide +kernel
theorem dJ6_bitCount_0f7a4_3 : decode cJ6_bitCount_0f7a4 3 = .ok (.iushr, 1) := by decide +kernel
theorem dJ6_bitCount_0f7a4_4 : decode cJ6_bitCount_0f7a4 4 = .ok (.ldc_w 265, 3) := by decide +kernel
theorem dJ6_bitCount_0f7a4_7 : decode cJ6_bitCount_0f7a4 7 = .ok (.iand, 1) := by decide +kernel
theorem dJ6_bitCount_0f7a4_8 : decode cJ6_bitCount_0f7a4 8 = .ok (.isub, 1) := by decide +kernel
theorem dJ6_bitCount_0f7a4_9 : decode cJ6_bitCount_0f7a4 9 = .ok (.istore_n 0, 1) := by decide +kernel
theorem dJ6_bitCount_0f7a4_10 : decode cJ6_bitCount_0f7a4 10 = .ok (.iload_n 0, 1) := by decide +kernel
theorem dJ6_bitCount_0f7a4_11 : decode cJ6_bitCount_0f7a4 11 = .ok (.ldc_w 266, 3) := by decide +kernel
theorem dJ6_bitCount_0f7a4_14 : decode cJ6_bitCount_0f7a4 14 = .ok (.iand, 1) := by decide +kernel
theorem dJ6_bitCount_0f7a4_15 : decode cJ6_bitCount_0f7a4 15 = .ok (.iload_n 0, 1) := by decide +kernel
theorem dJ6_bitCount_0f7a4_16 : decode cJ6_bitCount_0f7a4 16 = .ok (.iconst 2, 1) := by decide +kernel
theorem dJ6_bitCount_0f7a4_17 : decode cJ6_bitCount_0f7a4 17 = .ok (.iushr, 1) := by decide +kernel
theorem dJ6_bitCount_0f7a4_18 : decode cJ6_bitCount_0f7a4 18 = .ok (.ldc_w 266, 3) := by decide +kernel
theorem dJ6_bitCount_0f7a4_21 : decode cJ6_bitCount_0f7a4 21 = .ok (.iand, 1) := by decide +kernel
theorem dJ6_bitCount_0f7a4_22 : decode cJ6_bitCount_0f7a4 22 = .ok (.iadd, 1) := by decide +kernel
theorem dJ6_bitCount_0f7a4_23 : decode cJ6_bitCount_0f7a4 23 = .ok (.istore_n 0, 1) := by decide +kernel
theorem dJ6_bitCount_0f7a4_24 : decode cJ6_bitCount_0f7a4 24 = .ok (.iload_n 0, 1) := by decide +kernel
theorem dJ6_bitCount_0f7a4_25 : decode cJ6_bitCount_0f7a4 25 = .ok (.iload_n 0, 1) := by decide +kernel
theorem dJ6_bitCount_0f7a4_26 : decode cJ6_bitCount_0f7a4 26 = .ok (.iconst 4, 1) := by decide +kernel
theorem dJ6_bitCount_0f7a4_27 : decode cJ6_bitCount_0f7a4 27 = .ok (.iushr, 1) := by decide +kernel
theorem dJ6_bitCount_0f7a4_28 : decode cJ6_bitCount_0f7a4 28 = .ok (.iadd, 1) := by decide +kernel
theorem dJ6_bitCount_0f7a4_29 : decode cJ6_bitCount_0f7a4 29 = .ok (.ldc_w 267, 3) := by decide +kernel
theorem dJ6_bitCount_0f7a4_32 : decode cJ6_bitCount_0f7a4 32 = .ok (.iand, 1) := by decide +kernel
theorem dJ6_bitCount_0f7a4_33 : decode cJ6_bitCount_0f7a4 33 = .ok (.istore_n 0, 1) := by decide +kernel
theorem dJ6_bitCount_0f7a4_34 : decode cJ6_bitCount_0f7a4 34 = .ok (.iload_n 0, 1) := by decide +kernel
theorem dJ6_bitCount_0f7a4_35 : decode cJ6_bitCount_0f7a4 35 = .ok (.iload_n 0, 1) := by decide +kernel
theorem dJ6_bitCount_0f7a4_36 : decode cJ6_bitCount_0f7a4 36 = .ok (.bipush 8, 2) := by decide +kernel
theorem dJ6_bitCount_0f7a4_38 : decode cJ6_bitCount_0f7a4 38 = .ok (.iushr, 1) := by decide +kernel
theorem dJ6_bitCount_0f7a4_39 : decode cJ6_bitCount_0f7a4 39 = .ok (.iadd, 1) := by decide +kernel
theorem dJ6_bitCount_0f7a4_40 : decode cJ6_bitCount_0f7a4 40 = .ok (.istore_n 0, 1) := by decide +kernel
theorem dJ6_bitCount_0f7a4_41 : decode cJ6_bitCount_0f7a4 41 = .ok (.iload_n 0, 1) := by decide +kernel
theorem dJ6_bitCount_0f7a4_42 : decode cJ6_bitCount_0f7a4 42 = .ok (.iload_n 0, 1) := by decide +kernel
theorem dJ6_bitCount_0f7a4_43 : decode cJ6_bitCount_0f7a4 43 = .ok (.bipush 16, 2) := by decide +kernel
theorem dJ6_bitCount_0f7a4_45 : decode cJ6_bitCount_0f7a4 45 = .ok (.iushr, 1) := by decide +kernel
theorem dJ6_bitCount_0f7a4_46 : decode cJ6_bitCount_0f7a4 46 = .ok (.iadd, 1) := by decide +kernel
theorem dJ6_bitCount_0f7a4_47 : decode cJ6_bitCount_0f7a4 47 = .ok (.istore_n 0, 1) := by decide +kernel
theorem dJ6_bitCount_0f7a4_48 : decode cJ6_bitCount_0f7a4 48 = .ok (.iload_n 0, 1) := by decide +kernel
theorem dJ6_bitCount_0f7a4_49 : decode cJ6_bitCount_0f7a4 49 = .ok (.bipush 63, 2) := by decide +kernel
theorem dJ6_bitCount_0f7a4_51 : decode cJ6_bitCount_0f7a4 51 = .ok (.iand, 1) := by decide +kernel
theorem dJ6_bitCount_0f7a4_52 : decode cJ6_bitCount_0f7a4 52 = .ok (.ireturn, 1) := by decide +kernel
