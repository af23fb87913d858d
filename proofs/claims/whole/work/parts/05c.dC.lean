theorem dX12_beside_48 : decode cX12_beside 48 = .ok (.iload 5, 2) := by decide +kernel
theorem dX12_beside_50 : decode cX12_beside 50 = .ok (.i2l, 1) := by decide +kernel
theorem dX12_beside_51 : decode cX12_beside 51 = .ok (.iload_n 1, 1) := by decide +kernel
theorem dX12_beside_52 : decode cX12_beside 52 = .ok (.invokevirtual 396, 3) := by decide +kernel
theorem dX12_beside_55 : decode cX12_beside 55 = .ok (.aload_n 0, 1) := by decide +kernel
theorem dX12_beside_56 : decode cX12_beside 56 = .ok (.iload 5, 2) := by decide +kernel
theorem dX12_beside_58 : decode cX12_beside 58 = .ok (.i2l, 1) := by decide +kernel
theorem dX12_beside_59 : decode cX12_beside 59 = .ok (.iload_n 2, 1) := by decide +kernel
theorem dX12_beside_60 : decode cX12_beside 60 = .ok (.invokevirtual 396, 3) := by decide +kernel
theorem dX12_beside_63 : decode cX12_beside 63 = .ok (.isub, 1) := by decide +kernel
theorem dX12_beside_64 : decode cX12_beside 64 = .ok (.invokestatic 426, 3) := by decide +kernel
theorem dX12_beside_67 : decode cX12_beside 67 = .ok (.iconst 1, 1) := by decide +kernel
theorem dX12_beside_68 : decode cX12_beside 68 = .ok (.if_icmp .ne 7, 3) := by decide +kernel
theorem dX12_beside_71 : decode cX12_beside 71 = .ok (.iconst 1, 1) := by decide +kernel
theorem dX12_beside_72 : decode cX12_beside 72 = .ok (.goto 4, 3) := by decide +kernel
theorem dX12_beside_75 : decode cX12_beside 75 = .ok (.iconst 0, 1) := by decide +kernel
theorem dX12_beside_76 : decode cX12_beside 76 = .ok (.iadd, 1) := by decide +kernel
theorem dX12_beside_77 : decode cX12_beside 77 = .ok (.istore 4, 2) := by decide +kernel
theorem dX12_beside_79 : decode cX12_beside 79 = .ok (.iinc 5 1, 3) := by decide +kernel
theorem dX12_beside_82 : decode cX12_beside 82 = .ok (.goto (-43), 3) := by decide +kernel
theorem dX12_beside_85 : decode cX12_beside 85 = .ok (.iload 4, 2) := by decide +kernel
theorem dX12_beside_87 : decode cX12_beside 87 = .ok (.ireturn, 1) := by decide +kernel
theorem dX12_word_0 : decode cX12_word 0 = .ok (.aload_n 0, 1) := by decide +kernel
theorem dX12_word_1 : decode cX12_word 1 = .ok (.iconst 0, 1) := by decide +kernel
theorem dX12_word_2 : decode cX12_word 2 = .ok (.putfield 157, 3) := by decide +kernel
theorem dX12_word_5 : decode cX12_word 5 = .ok (.aload_n 0, 1) := by decide +kernel
theorem dX12_word_6 : decode cX12_word 6 = .ok (.iload_n 1, 1) := by decide +kernel
theorem dX12_word_7 : decode cX12_word 7 = .ok (.invokevirtual 429, 3) := by decide +kernel
theorem dX12_word_10 : decode cX12_word 10 = .ok (.ifCond .eq 12, 3) := by decide +kernel
theorem dX12_word_13 : decode cX12_word 13 = .ok (.iload_n 2, 1) := by decide +kernel
theorem dX12_word_14 : decode cX12_word 14 = .ok (.iconst 0, 1) := by decide +kernel
theorem dX12_word_15 : decode cX12_word 15 = .ok (.iconst 2, 1) := by decide +kernel
theorem dX12_word_16 : decode cX12_word 16 = .ok (.invokestatic 277, 3) := by decide +kernel
theorem dX12_word_19 : decode cX12_word 19 = .ok (.ifCond .ne 7, 3) := by decide +kernel
theorem dX12_word_22 : decode cX12_word 22 = .ok (.iconst (-1), 1) := by decide +kernel
theorem dX12_word_23 : decode cX12_word 23 = .ok (.goto 36, 3) := by decide +kernel
theorem dX12_word_26 : decode cX12_word 26 = .ok (.iload_n 2, 1) := by decide +kernel
theorem dX12_word_27 : decode cX12_word 27 = .ok (.ifCond .ne 12, 3) := by decide +kernel
theorem dX12_word_30 : decode cX12_word 30 = .ok (.aload_n 0, 1) := by decide +kernel
theorem dX12_word_31 : decode cX12_word 31 = .ok (.getfield 25, 3) := by decide +kernel
theorem dX12_word_34 : decode cX12_word 34 = .ok (.iload_n 1, 1) := by decide +kernel
theorem dX12_word_35 : decode cX12_word 35 = .ok (.iaload, 1) := by decide +kernel
theorem dX12_word_36 : decode cX12_word 36 = .ok (.goto 23, 3) := by decide +kernel
theorem dX12_word_39 : decode cX12_word 39 = .ok (.iload_n 2, 1) := by decide +kernel
theorem dX12_word_40 : decode cX12_word 40 = .ok (.iconst 1, 1) := by decide +kernel
theorem dX12_word_41 : decode cX12_word 41 = .ok (.if_icmp .ne 12, 3) := by decide +kernel
theorem dX12_word_44 : decode cX12_word 44 = .ok (.aload_n 0, 1) := by decide +kernel
theorem dX12_word_45 : decode cX12_word 45 = .ok (.getfield 28, 3) := by decide +kernel
theorem dX12_word_48 : decode cX12_word 48 = .ok (.iload_n 1, 1) := by decide +kernel
theorem dX12_word_49 : decode cX12_word 49 = .ok (.iaload, 1) := by decide +kernel
theorem dX12_word_50 : decode cX12_word 50 = .ok (.goto 9, 3) := by decide +kernel
theorem dX12_word_53 : decode cX12_word 53 = .ok (.aload_n 0, 1) := by decide +kernel
theorem dX12_word_54 : decode cX12_word 54 = .ok (.getfield 31, 3) := by decide +kernel
theorem dX12_word_57 : decode cX12_word 57 = .ok (.iload_n 1, 1) := by decide +kernel
theorem dX12_word_58 : decode cX12_word 58 = .ok (.iaload, 1) := by decide +kernel
theorem dX12_word_59 : decode cX12_word 59 = .ok (.ireturn, 1) := by decide +kernel
theorem dX12_barred_0 : decode cX12_barred 0 = .ok (.aload_n 0, 1) := by decide +kernel
theorem dX12_barred_1 : decode cX12_barred 1 = .ok (.iconst 0, 1) := by decide +kernel
theorem dX12_barred_2 : decode cX12_barred 2 = .ok (.putfield 157, 3) := by decide +kernel
theorem dX12_barred_5 : decode cX12_barred 5 = .ok (.aload_n 0, 1) := by decide +kernel
theorem dX12_barred_6 : decode cX12_barred 6 = .ok (.iload_n 1, 1) := by decide +kernel
theorem dX12_barred_7 : decode cX12_barred 7 = .ok (.invokevirtual 429, 3) := by decide +kernel
theorem dX12_barred_10 : decode cX12_barred 10 = .ok (.ifCond .eq 33, 3) := by decide +kernel
theorem dX12_barred_13 : decode cX12_barred 13 = .ok (.aload_n 0, 1) := by decide +kernel
theorem dX12_barred_14 : decode cX12_barred 14 = .ok (.iload_n 2, 1) := by decide +kernel
theorem dX12_barred_15 : decode cX12_barred 15 = .ok (.invokevirtual 429, 3) := by decide +kernel
theorem dX12_barred_18 : decode cX12_barred 18 = .ok (.ifCond .eq 25, 3) := by decide +kernel
theorem dX12_barred_21 : decode cX12_barred 21 = .ok (.aload_n 0, 1) := by decide +kernel
theorem dX12_barred_22 : decode cX12_barred 22 = .ok (.getfield 34, 3) := by decide +kernel
theorem dX12_barred_25 : decode cX12_barred 25 = .ok (.bipush 12, 2) := by decide +kernel
theorem dX12_barred_27 : decode cX12_barred 27 = .ok (.iload_n 1, 1) := by decide +kernel
theorem dX12_barred_28 : decode cX12_barred 28 = .ok (.imul, 1) := by decide +kernel
theorem dX12_barred_29 : decode cX12_barred 29 = .ok (.iload_n 2, 1) := by decide +kernel
theorem dX12_barred_30 : decode cX12_barred 30 = .ok (.iadd, 1) := by decide +kernel
theorem dX12_barred_31 : decode cX12_barred 31 = .ok (.baload, 1) := by decide +kernel
theorem dX12_barred_32 : decode cX12_barred 32 = .ok (.ifCond .eq 7, 3) := by decide +kernel
theorem dX12_barred_35 : decode cX12_barred 35 = .ok (.iconst 1, 1) := by decide +kernel
theorem dX12_barred_36 : decode cX12_barred 36 = .ok (.goto 8, 3) := by decide +kernel
theorem dX12_barred_39 : decode cX12_barred 39 = .ok (.iconst 0, 1) := by decide +kernel
theorem dX12_barred_40 : decode cX12_barred 40 = .ok (.goto 4, 3) := by decide +kernel
theorem dX12_barred_43 : decode cX12_barred 43 = .ok (.iconst (-1), 1) := by decide +kernel
theorem dX12_barred_44 : decode cX12_barred 44 = .ok (.ireturn, 1) := by decide +kernel
theorem dX12_neighbours_0 : decode cX12_neighbours 0 = .ok (.aload_n 0, 1) := by decide +kernel
theorem dX12_neighbours_1 : decode cX12_neighbours 1 = .ok (.invokevirtual 423, 3) := by decide +kernel
theorem dX12_neighbours_4 : decode cX12_neighbours 4 = .ok (.iconst 0, 1) := by decide +kernel
theorem dX12_neighbours_5 : decode cX12_neighbours 5 = .ok (.istore_n 1, 1) := by decide +kernel
theorem dX12_neighbours_6 : decode cX12_neighbours 6 = .ok (.iload_n 1, 1) := by decide +kernel
theorem dX12_neighbours_7 : decode cX12_neighbours 7 = .ok (.sipush 144, 3) := by decide +kernel
theorem dX12_neighbours_10 : decode cX12_neighbours 10 = .ok (.if_icmp .ge 16, 3) := by decide +kernel
theorem dX12_neighbours_13 : decode cX12_neighbours 13 = .ok (.aload_n 0, 1) := by decide +kernel
theorem dX12_neighbours_14 : decode cX12_neighbours 14 = .ok (.getfield 123, 3) := by decide +kernel
theorem dX12_neighbours_17 : decode cX12_neighbours 17 = .ok (.iload_n 1, 1) := by decide +kernel
theorem dX12_neighbours_18 : decode cX12_neighbours 18 = .ok (.iconst 0, 1) := by decide +kernel
theorem dX12_neighbours_19 : decode cX12_neighbours 19 = .ok (.bastore, 1) := by decide +kernel
theorem dX12_neighbours_20 : decode cX12_neighbours 20 = .ok (.iinc 1 1, 3) := by decide +kernel
theorem dX12_neighbours_23 : decode cX12_neighbours 23 = .ok (.goto (-17), 3) := by decide +kernel
theorem dX12_neighbours_26 : decode cX12_neighbours 26 = .ok (.aload_n 0, 1) := by decide +kernel
theorem dX12_neighbours_27 : decode cX12_neighbours 27 = .ok (.invokevirtual 411, 3) := by decide +kernel
theorem dX12_neighbours_30 : decode cX12_neighbours 30 = .ok (.istore_n 1, 1) := by decide +kernel
theorem dX12_neighbours_31 : decode cX12_neighbours 31 = .ok (.iconst 0, 1) := by decide +kernel
theorem dX12_neighbours_32 : decode cX12_neighbours 32 = .ok (.istore_n 2, 1) := by decide +kernel
theorem dX12_neighbours_33 : decode cX12_neighbours 33 = .ok (.iload_n 2, 1) := by decide +kernel
theorem dX12_neighbours_34 : decode cX12_neighbours 34 = .ok (.iload_n 1, 1) := by decide +kernel
theorem dX12_neighbours_35 : decode cX12_neighbours 35 = .ok (.if_icmp .ge 53, 3) := by decide +kernel
theorem dX12_neighbours_38 : decode cX12_neighbours 38 = .ok (.iconst 0, 1) := by decide +kernel
theorem dX12_neighbours_39 : decode cX12_neighbours 39 = .ok (.istore_n 3, 1) := by decide +kernel
theorem dX12_neighbours_40 : decode cX12_neighbours 40 = .ok (.iload_n 3, 1) := by decide +kernel
theorem dX12_neighbours_41 : decode cX12_neighbours 41 = .ok (.iconst 1, 1) := by decide +kernel
theorem dX12_neighbours_42 : decode cX12_neighbours 42 = .ok (.iadd, 1) := by decide +kernel
theorem dX12_neighbours_43 : decode cX12_neighbours 43 = .ok (.aload_n 0, 1) := by decide +kernel
theorem dX12_neighbours_44 : decode cX12_neighbours 44 = .ok (.getfield 153, 3) := by decide +kernel
theorem dX12_neighbours_47 : decode cX12_neighbours 47 = .ok (.if_icmp .ge 35, 3) := by decide +kernel
theorem dX12_neighbours_50 : decode cX12_neighbours 50 = .ok (.aload_n 0, 1) := by decide +kernel
theorem dX12_neighbours_51 : decode cX12_neighbours 51 = .ok (.getfield 123, 3) := by decide +kernel
theorem dX12_neighbours_54 : decode cX12_neighbours 54 = .ok (.bipush 12, 2) := by decide +kernel
theorem dX12_neighbours_56 : decode cX12_neighbours 56 = .ok (.aload_n 0, 1) := by decide +kernel
theorem dX12_neighbours_57 : decode cX12_neighbours 57 = .ok (.iload_n 2, 1) := by decide +kernel
theorem dX12_neighbours_58 : decode cX12_neighbours 58 = .ok (.i2l, 1) := by decide +kernel
theorem dX12_neighbours_59 : decode cX12_neighbours 59 = .ok (.iload_n 3, 1) := by decide +kernel
theorem dX12_neighbours_60 : decode cX12_neighbours 60 = .ok (.invokevirtual 389, 3) := by decide +kernel
theorem dX12_neighbours_63 : decode cX12_neighbours 63 = .ok (.imul, 1) := by decide +kernel
theorem dX12_neighbours_64 : decode cX12_neighbours 64 = .ok (.aload_n 0, 1) := by decide +kernel
theorem dX12_neighbours_65 : decode cX12_neighbours 65 = .ok (.iload_n 2, 1) := by decide +kernel
theorem dX12_neighbours_66 : decode cX12_neighbours 66 = .ok (.i2l, 1) := by decide +kernel
theorem dX12_neighbours_67 : decode cX12_neighbours 67 = .ok (.iload_n 3, 1) := by decide +kernel
theorem dX12_neighbours_68 : decode cX12_neighbours 68 = .ok (.iconst 1, 1) := by decide +kernel
theorem dX12_neighbours_69 : decode cX12_neighbours 69 = .ok (.iadd, 1) := by decide +kernel
theorem dX12_neighbours_70 : decode cX12_neighbours 70 = .ok (.invokevirtual 389, 3) := by decide +kernel
theorem dX12_neighbours_73 : decode cX12_neighbours 73 = .ok (.iadd, 1) := by decide +kernel
theorem dX12_neighbours_74 : decode cX12_neighbours 74 = .ok (.iconst 1, 1) := by decide +kernel
theorem dX12_neighbours_75 : decode cX12_neighbours 75 = .ok (.bastore, 1) := by decide +kernel
theorem dX12_neighbours_76 : decode cX12_neighbours 76 = .ok (.iinc 3 1, 3) := by decide +kernel
theorem dX12_neighbours_79 : decode cX12_neighbours 79 = .ok (.goto (-39), 3) := by decide +kernel
theorem dX12_neighbours_82 : decode cX12_neighbours 82 = .ok (.iinc 2 1, 3) := by decide +kernel
theorem dX12_neighbours_85 : decode cX12_neighbours 85 = .ok (.goto (-52), 3) := by decide +kernel
theorem dX12_neighbours_88 : decode cX12_neighbours 88 = .ok (.return_, 1) := by decide +kernel
theorem dX12_goes_0 : decode cX12_goes 0 = .ok (.iconst 0, 1) := by decide +kernel
theorem dX12_goes_1 : decode cX12_goes 1 = .ok (.istore 5, 2) := by decide +kernel
theorem dX12_goes_3 : decode cX12_goes 3 = .ok (.iload 5, 2) := by decide +kernel
theorem dX12_goes_5 : decode cX12_goes 5 = .ok (.iload_n 1, 1) := by decide +kernel
theorem dX12_goes_6 : decode cX12_goes 6 = .ok (.if_icmp .ge 148, 3) := by decide +kernel
theorem dX12_goes_9 : decode cX12_goes 9 = .ok (.iload_n 3, 1) := by decide +kernel
theorem dX12_goes_10 : decode cX12_goes 10 = .ok (.iload 5, 2) := by decide +kernel
theorem dX12_goes_12 : decode cX12_goes 12 = .ok (.ishr, 1) := by decide +kernel
theorem dX12_goes_13 : decode cX12_goes 13 = .ok (.iconst 1, 1) := by decide +kernel
theorem dX12_goes_14 : decode cX12_goes 14 = .ok (.iand, 1) := by decide +kernel
theorem dX12_goes_15 : decode cX12_goes 15 = .ok (.ifCond .ne 6, 3) := by decide +kernel
theorem dX12_goes_18 : decode cX12_goes 18 = .ok (.goto 130, 3) := by decide +kernel
theorem dX12_goes_21 : decode cX12_goes 21 = .ok (.aload_n 0, 1) := by decide +kernel
theorem dX12_goes_22 : decode cX12_goes 22 = .ok (.getfield 126, 3) := by decide +kernel
theorem dX12_goes_25 : decode cX12_goes 25 = .ok (.iload 5, 2) := by decide +kernel
theorem dX12_goes_27 : decode cX12_goes 27 = .ok (.iaload, 1) := by decide +kernel
theorem dX12_goes_28 : decode cX12_goes 28 = .ok (.iload_n 2, 1) := by decide +kernel
theorem dX12_goes_29 : decode cX12_goes 29 = .ok (.if_icmp .eq 40, 3) := by decide +kernel
theorem dX12_goes_32 : decode cX12_goes 32 = .ok (.aload_n 0, 1) := by decide +kernel
theorem dX12_goes_33 : decode cX12_goes 33 = .ok (.getfield 120, 3) := by decide +kernel
theorem dX12_goes_36 : decode cX12_goes 36 = .ok (.iload 5, 2) := by decide +kernel
theorem dX12_goes_38 : decode cX12_goes 38 = .ok (.iaload, 1) := by decide +kernel
theorem dX12_goes_39 : decode cX12_goes 39 = .ok (.aload_n 0, 1) := by decide +kernel
theorem dX12_goes_40 : decode cX12_goes 40 = .ok (.getfield 120, 3) := by decide +kernel
theorem dX12_goes_43 : decode cX12_goes 43 = .ok (.iload_n 1, 1) := by decide +kernel
theorem dX12_goes_44 : decode cX12_goes 44 = .ok (.iaload, 1) := by decide +kernel
theorem dX12_goes_45 : decode cX12_goes 45 = .ok (.if_icmp .ne 26, 3) := by decide +kernel
theorem dX12_goes_48 : decode cX12_goes 48 = .ok (.aload_n 0, 1) := by decide +kernel
theorem dX12_goes_49 : decode cX12_goes 49 = .ok (.getfield 25, 3) := by decide +kernel
theorem dX12_goes_52 : decode cX12_goes 52 = .ok (.aload_n 0, 1) := by decide +kernel
theorem dX12_goes_53 : decode cX12_goes 53 = .ok (.getfield 126, 3) := by decide +kernel
theorem dX12_goes_56 : decode cX12_goes 56 = .ok (.iload 5, 2) := by decide +kernel
theorem dX12_goes_58 : decode cX12_goes 58 = .ok (.iaload, 1) := by decide +kernel
theorem dX12_goes_59 : decode cX12_goes 59 = .ok (.iaload, 1) := by decide +kernel
theorem dX12_goes_60 : decode cX12_goes 60 = .ok (.aload_n 0, 1) := by decide +kernel
theorem dX12_goes_61 : decode cX12_goes 61 = .ok (.getfield 25, 3) := by decide +kernel
theorem dX12_goes_64 : decode cX12_goes 64 = .ok (.iload_n 2, 1) := by decide +kernel
theorem dX12_goes_65 : decode cX12_goes 65 = .ok (.iaload, 1) := by decide +kernel
theorem dX12_goes_66 : decode cX12_goes 66 = .ok (.if_icmp .eq 5, 3) := by decide +kernel
theorem dX12_goes_69 : decode cX12_goes 69 = .ok (.iconst 0, 1) := by decide +kernel
theorem dX12_goes_70 : decode cX12_goes 70 = .ok (.ireturn, 1) := by decide +kernel
theorem dX12_goes_71 : decode cX12_goes 71 = .ok (.iload 4, 2) := by decide +kernel
theorem dX12_goes_73 : decode cX12_goes 73 = .ok (.ifCond .eq 75, 3) := by decide +kernel
theorem dX12_goes_76 : decode cX12_goes 76 = .ok (.aload_n 0, 1) := by decide +kernel
theorem dX12_goes_77 : decode cX12_goes 77 = .ok (.getfield 123, 3) := by decide +kernel
theorem dX12_goes_80 : decode cX12_goes 80 = .ok (.bipush 12, 2) := by decide +kernel
theorem dX12_goes_82 : decode cX12_goes 82 = .ok (.iload 5, 2) := by decide +kernel
theorem dX12_goes_84 : decode cX12_goes 84 = .ok (.imul, 1) := by decide +kernel
theorem dX12_goes_85 : decode cX12_goes 85 = .ok (.iload_n 1, 1) := by decide +kernel
theorem dX12_goes_86 : decode cX12_goes 86 = .ok (.iadd, 1) := by decide +kernel
theorem dX12_goes_87 : decode cX12_goes 87 = .ok (.baload, 1) := by decide +kernel
theorem dX12_goes_88 : decode cX12_goes 88 = .ok (.ifCond .eq 23, 3) := by decide +kernel
theorem dX12_goes_91 : decode cX12_goes 91 = .ok (.aload_n 0, 1) := by decide +kernel
theorem dX12_goes_92 : decode cX12_goes 92 = .ok (.getfield 34, 3) := by decide +kernel
theorem dX12_goes_95 : decode cX12_goes 95 = .ok (.bipush 12, 2) := by decide +kernel
theorem dX12_goes_97 : decode cX12_goes 97 = .ok (.aload_n 0, 1) := by decide +kernel
theorem dX12_goes_98 : decode cX12_goes 98 = .ok (.getfield 126, 3) := by decide +kernel
theorem dX12_goes_101 : decode cX12_goes 101 = .ok (.iload 5, 2) := by decide +kernel
theorem dX12_goes_103 : decode cX12_goes 103 = .ok (.iaload, 1) := by decide +kernel
theorem dX12_goes_104 : decode cX12_goes 104 = .ok (.imul, 1) := by decide +kernel
theorem dX12_goes_105 : decode cX12_goes 105 = .ok (.iload_n 2, 1) := by decide +kernel
theorem dX12_goes_106 : decode cX12_goes 106 = .ok (.iadd, 1) := by decide +kernel
theorem dX12_goes_107 : decode cX12_goes 107 = .ok (.baload, 1) := by decide +kernel
theorem dX12_goes_108 : decode cX12_goes 108 = .ok (.ifCond .ne 38, 3) := by decide +kernel
theorem dX12_goes_111 : decode cX12_goes 111 = .ok (.aload_n 0, 1) := by decide +kernel
theorem dX12_goes_112 : decode cX12_goes 112 = .ok (.getfield 123, 3) := by decide +kernel
theorem dX12_goes_115 : decode cX12_goes 115 = .ok (.bipush 12, 2) := by decide +kernel
theorem dX12_goes_117 : decode cX12_goes 117 = .ok (.iload_n 1, 1) := by decide +kernel
theorem dX12_goes_118 : decode cX12_goes 118 = .ok (.imul, 1) := by decide +kernel
theorem dX12_goes_119 : decode cX12_goes 119 = .ok (.iload 5, 2) := by decide +kernel
theorem dX12_goes_121 : decode cX12_goes 121 = .ok (.iadd, 1) := by decide +kernel
theorem dX12_goes_122 : decode cX12_goes 122 = .ok (.baload, 1) := by decide +kernel
theorem dX12_goes_123 : decode cX12_goes 123 = .ok (.ifCond .eq 25, 3) := by decide +kernel
theorem dX12_goes_126 : decode cX12_goes 126 = .ok (.aload_n 0, 1) := by decide +kernel
theorem dX12_goes_127 : decode cX12_goes 127 = .ok (.getfield 34, 3) := by decide +kernel
theorem dX12_goes_130 : decode cX12_goes 130 = .ok (.bipush 12, 2) := by decide +kernel
theorem dX12_goes_132 : decode cX12_goes 132 = .ok (.iload_n 2, 1) := by decide +kernel
theorem dX12_goes_133 : decode cX12_goes 133 = .ok (.imul, 1) := by decide +kernel
theorem dX12_goes_134 : decode cX12_goes 134 = .ok (.aload_n 0, 1) := by decide +kernel
theorem dX12_goes_135 : decode cX12_goes 135 = .ok (.getfield 126, 3) := by decide +kernel
theorem dX12_goes_138 : decode cX12_goes 138 = .ok (.iload 5, 2) := by decide +kernel
theorem dX12_goes_140 : decode cX12_goes 140 = .ok (.iaload, 1) := by decide +kernel
theorem dX12_goes_141 : decode cX12_goes 141 = .ok (.iadd, 1) := by decide +kernel
theorem dX12_goes_142 : decode cX12_goes 142 = .ok (.baload, 1) := by decide +kernel
theorem dX12_goes_143 : decode cX12_goes 143 = .ok (.ifCond .eq 5, 3) := by decide +kernel
theorem dX12_goes_146 : decode cX12_goes 146 = .ok (.iconst 0, 1) := by decide +kernel
theorem dX12_goes_147 : decode cX12_goes 147 = .ok (.ireturn, 1) := by decide +kernel
theorem dX12_goes_148 : decode cX12_goes 148 = .ok (.iinc 5 1, 3) := by decide +kernel
theorem dX12_goes_151 : decode cX12_goes 151 = .ok (.goto (-148), 3) := by decide +kernel
theorem dX12_goes_154 : decode cX12_goes 154 = .ok (.iconst 1, 1) := by decide +kernel
theorem dX12_goes_155 : decode cX12_goes 155 = .ok (.ireturn, 1) := by decide +kernel
theorem dX12_gives_0 : decode cX12_gives 0 = .ok (.iload_n 1, 1) := by decide +kernel
theorem dX12_gives_1 : decode cX12_gives 1 = .ok (.aload_n 0, 1) := by decide +kernel
theorem dX12_gives_2 : decode cX12_gives 2 = .ok (.getfield 153, 3) := by decide +kernel
theorem dX12_gives_5 : decode cX12_gives 5 = .ok (.if_icmp .ne 47, 3) := by decide +kernel
theorem dX12_gives_8 : decode cX12_gives 8 = .ok (.iconst 0, 1) := by decide +kernel
theorem dX12_gives_9 : decode cX12_gives 9 = .ok (.istore 4, 2) := by decide +kernel
theorem dX12_gives_11 : decode cX12_gives 11 = .ok (.iload 4, 2) := by decide +kernel
theorem dX12_gives_13 : decode cX12_gives 13 = .ok (.bipush 12, 2) := by decide +kernel
theorem dX12_gives_15 : decode cX12_gives 15 = .ok (.if_icmp .ge 30, 3) := by decide +kernel
theorem dX12_gives_18 : decode cX12_gives 18 = .ok (.aload_n 0, 1) := by decide +kernel
theorem dX12_gives_19 : decode cX12_gives 19 = .ok (.getfield 432, 3) := by decide +kernel
theorem dX12_gives_22 : decode cX12_gives 22 = .ok (.ifCond .eq 23, 3) := by decide +kernel
theorem dX12_gives_25 : decode cX12_gives 25 = .ok (.aload_n 0, 1) := by decide +kernel
theorem dX12_gives_26 : decode cX12_gives 26 = .ok (.getfield 129, 3) := by decide +kernel
theorem dX12_gives_29 : decode cX12_gives 29 = .ok (.iload 4, 2) := by decide +kernel
theorem dX12_gives_31 : decode cX12_gives 31 = .ok (.aload_n 0, 1) := by decide +kernel
theorem dX12_gives_32 : decode cX12_gives 32 = .ok (.getfield 126, 3) := by decide +kernel
theorem dX12_gives_35 : decode cX12_gives 35 = .ok (.iload 4, 2) := by decide +kernel
theorem dX12_gives_37 : decode cX12_gives 37 = .ok (.iaload, 1) := by decide +kernel
theorem dX12_gives_38 : decode cX12_gives 38 = .ok (.iastore, 1) := by decide +kernel
theorem dX12_gives_39 : decode cX12_gives 39 = .ok (.iinc 4 1, 3) := by decide +kernel
theorem dX12_gives_42 : decode cX12_gives 42 = .ok (.goto (-31), 3) := by decide +kernel
theorem dX12_gives_45 : decode cX12_gives 45 = .ok (.aload_n 0, 1) := by decide +kernel
theorem dX12_gives_46 : decode cX12_gives 46 = .ok (.iconst 0, 1) := by decide +kernel
theorem dX12_gives_47 : decode cX12_gives 47 = .ok (.putfield 432, 3) := by decide +kernel
theorem dX12_gives_50 : decode cX12_gives 50 = .ok (.lconst 1, 1) := by decide +kernel
theorem dX12_gives_51 : decode cX12_gives 51 = .ok (.lreturn, 1) := by decide +kernel
theorem dX12_gives_52 : decode cX12_gives 52 = .ok (.iload_n 2, 1) := by decide +kernel
theorem dX12_gives_53 : decode cX12_gives 53 = .ok (.iload_n 1, 1) := by decide +kernel
theorem dX12_gives_54 : decode cX12_gives 54 = .ok (.ishr, 1) := by decide +kernel
theorem dX12_gives_55 : decode cX12_gives 55 = .ok (.iconst 1, 1) := by decide +kernel
theorem dX12_gives_56 : decode cX12_gives 56 = .ok (.iand, 1) := by decide +kernel
theorem dX12_gives_57 : decode cX12_gives 57 = .ok (.ifCond .ne 13, 3) := by decide +kernel
theorem dX12_gives_60 : decode cX12_gives 60 = .ok (.aload_n 0, 1) := by decide +kernel
theorem dX12_gives_61 : decode cX12_gives 61 = .ok (.iload_n 1, 1) := by decide +kernel
theorem dX12_gives_62 : decode cX12_gives 62 = .ok (.iconst 1, 1) := by decide +kernel
theorem dX12_gives_63 : decode cX12_gives 63 = .ok (.iadd, 1) := by decide +kernel
theorem dX12_gives_64 : decode cX12_gives 64 = .ok (.iload_n 2, 1) := by decide +kernel
theorem dX12_gives_65 : decode cX12_gives 65 = .ok (.iload_n 3, 1) := by decide +kernel
theorem dX12_gives_66 : decode cX12_gives 66 = .ok (.invokevirtual 436, 3) := by decide +kernel
theorem dX12_gives_69 : decode cX12_gives 69 = .ok (.lreturn, 1) := by decide +kernel
theorem dX12_gives_70 : decode cX12_gives 70 = .ok (.lconst 0, 1) := by decide +kernel
theorem dX12_gives_71 : decode cX12_gives 71 = .ok (.lstore 4, 2) := by decide +kernel
theorem dX12_gives_73 : decode cX12_gives 73 = .ok (.iconst 0, 1) := by decide +kernel
theorem dX12_gives_74 : decode cX12_gives 74 = .ok (.istore 6, 2) := by decide +kernel
theorem dX12_gives_76 : decode cX12_gives 76 = .ok (.iload 6, 2) := by decide +kernel
theorem dX12_gives_78 : decode cX12_gives 78 = .ok (.aload_n 0, 1) := by decide +kernel
theorem dX12_gives_79 : decode cX12_gives 79 = .ok (.getfield 364, 3) := by decide +kernel
theorem dX12_gives_82 : decode cX12_gives 82 = .ok (.if_icmp .ge 60, 3) := by decide +kernel
theorem dX12_gives_85 : decode cX12_gives 85 = .ok (.aload_n 0, 1) := by decide +kernel
theorem dX12_gives_86 : decode cX12_gives 86 = .ok (.iload_n 1, 1) := by decide +kernel
theorem dX12_gives_87 : decode cX12_gives 87 = .ok (.iload 6, 2) := by decide +kernel
theorem dX12_gives_89 : decode cX12_gives 89 = .ok (.iload_n 2, 1) := by decide +kernel
theorem dX12_gives_90 : decode cX12_gives 90 = .ok (.iconst 1, 1) := by decide +kernel
theorem dX12_gives_91 : decode cX12_gives 91 = .ok (.invokevirtual 440, 3) := by decide +kernel
theorem dX12_gives_94 : decode cX12_gives 94 = .ok (.ifCond .ne 6, 3) := by decide +kernel
theorem dX12_gives_97 : decode cX12_gives 97 = .ok (.goto 39, 3) := by decide +kernel
theorem dX12_gives_100 : decode cX12_gives 100 = .ok (.aload_n 0, 1) := by decide +kernel
theorem dX12_gives_101 : decode cX12_gives 101 = .ok (.getfield 126, 3) := by decide +kernel
theorem dX12_gives_104 : decode cX12_gives 104 = .ok (.iload_n 1, 1) := by decide +kernel
theorem dX12_gives_105 : decode cX12_gives 105 = .ok (.iload 6, 2) := by decide +kernel
theorem dX12_gives_107 : decode cX12_gives 107 = .ok (.iastore, 1) := by decide +kernel
theorem dX12_gives_108 : decode cX12_gives 108 = .ok (.lload 4, 2) := by decide +kernel
theorem dX12_gives_110 : decode cX12_gives 110 = .ok (.aload_n 0, 1) := by decide +kernel
theorem dX12_gives_111 : decode cX12_gives 111 = .ok (.iload_n 1, 1) := by decide +kernel
theorem dX12_gives_112 : decode cX12_gives 112 = .ok (.iconst 1, 1) := by decide +kernel
theorem dX12_gives_113 : decode cX12_gives 113 = .ok (.iadd, 1) := by decide +kernel
theorem dX12_gives_114 : decode cX12_gives 114 = .ok (.iload_n 2, 1) := by decide +kernel
theorem dX12_gives_115 : decode cX12_gives 115 = .ok (.iload_n 3, 1) := by decide +kernel
theorem dX12_gives_116 : decode cX12_gives 116 = .ok (.invokevirtual 436, 3) := by decide +kernel
theorem dX12_gives_119 : decode cX12_gives 119 = .ok (.ladd, 1) := by decide +kernel
theorem dX12_gives_120 : decode cX12_gives 120 = .ok (.lstore 4, 2) := by decide +kernel
theorem dX12_gives_122 : decode cX12_gives 122 = .ok (.iload_n 3, 1) := by decide +kernel
theorem dX12_gives_123 : decode cX12_gives 123 = .ok (.ifCond .eq 13, 3) := by decide +kernel
theorem dX12_gives_126 : decode cX12_gives 126 = .ok (.lload 4, 2) := by decide +kernel
theorem dX12_gives_128 : decode cX12_gives 128 = .ok (.lconst 0, 1) := by decide +kernel
theorem dX12_gives_129 : decode cX12_gives 129 = .ok (.lcmp, 1) := by decide +kernel
theorem dX12_gives_130 : decode cX12_gives 130 = .ok (.ifCond .le 6, 3) := by decide +kernel
theorem dX12_gives_133 : decode cX12_gives 133 = .ok (.lload 4, 2) := by decide +kernel
theorem dX12_gives_135 : decode cX12_gives 135 = .ok (.lreturn, 1) := by decide +kernel
theorem dX12_gives_136 : decode cX12_gives 136 = .ok (.iinc 6 1, 3) := by decide +kernel
theorem dX12_gives_139 : decode cX12_gives 139 = .ok (.goto (-63), 3) := by decide +kernel
theorem dX12_gives_142 : decode cX12_gives 142 = .ok (.lload 4, 2) := by decide +kernel
theorem dX12_gives_144 : decode cX12_gives 144 = .ok (.lreturn, 1) := by decide +kernel
theorem dX12_waysFor_0 : decode cX12_waysFor 0 = .ok (.aload_n 0, 1) := by decide +kernel
theorem dX12_waysFor_1 : decode cX12_waysFor 1 = .ok (.iconst 1, 1) := by decide +kernel
theorem dX12_waysFor_2 : decode cX12_waysFor 2 = .ok (.putfield 432, 3) := by decide +kernel
theorem dX12_waysFor_5 : decode cX12_waysFor 5 = .ok (.aload_n 0, 1) := by decide +kernel
theorem dX12_waysFor_6 : decode cX12_waysFor 6 = .ok (.iconst 0, 1) := by decide +kernel
theorem dX12_waysFor_7 : decode cX12_waysFor 7 = .ok (.iload_n 1, 1) := by decide +kernel
theorem dX12_waysFor_8 : decode cX12_waysFor 8 = .ok (.iload_n 2, 1) := by decide +kernel
theorem dX12_waysFor_9 : decode cX12_waysFor 9 = .ok (.invokevirtual 436, 3) := by decide +kernel
theorem dX12_waysFor_12 : decode cX12_waysFor 12 = .ok (.lreturn, 1) := by decide +kernel
theorem dX12_fills_0 : decode cX12_fills 0 = .ok (.aload_n 0, 1) := by decide +kernel
theorem dX12_fills_1 : decode cX12_fills 1 = .ok (.iconst 0, 1) := by decide +kernel
theorem dX12_fills_2 : decode cX12_fills 2 = .ok (.putfield 157, 3) := by decide +kernel
theorem dX12_fills_5 : decode cX12_fills 5 = .ok (.aload_n 0, 1) := by decide +kernel
theorem dX12_fills_6 : decode cX12_fills 6 = .ok (.getfield 153, 3) := by decide +kernel
theorem dX12_fills_9 : decode cX12_fills 9 = .ok (.bipush 7, 2) := by decide +kernel
theorem dX12_fills_11 : decode cX12_fills 11 = .ok (.if_icmp .le 7, 3) := by decide +kernel
theorem dX12_fills_14 : decode cX12_fills 14 = .ok (.ldc2_w 444, 3) := by decide +kernel
theorem dX12_fills_17 : decode cX12_fills 17 = .ok (.lreturn, 1) := by decide +kernel
theorem dX12_fills_18 : decode cX12_fills 18 = .ok (.aload_n 0, 1) := by decide +kernel
theorem dX12_fills_19 : decode cX12_fills 19 = .ok (.invokevirtual 446, 3) := by decide +kernel
theorem dX12_fills_22 : decode cX12_fills 22 = .ok (.aload_n 0, 1) := by decide +kernel
theorem dX12_fills_23 : decode cX12_fills 23 = .ok (.iconst 1, 1) := by decide +kernel
theorem dX12_fills_24 : decode cX12_fills 24 = .ok (.aload_n 0, 1) := by decide +kernel
theorem dX12_fills_25 : decode cX12_fills 25 = .ok (.getfield 153, 3) := by decide +kernel
theorem dX12_fills_28 : decode cX12_fills 28 = .ok (.ishl, 1) := by decide +kernel
theorem dX12_fills_29 : decode cX12_fills 29 = .ok (.iconst 1, 1) := by decide +kernel
theorem dX12_fills_30 : decode cX12_fills 30 = .ok (.isub, 1) := by decide +kernel
theorem dX12_fills_31 : decode cX12_fills 31 = .ok (.iconst 0, 1) := by decide +kernel
theorem dX12_fills_32 : decode cX12_fills 32 = .ok (.invokevirtual 449, 3) := by decide +kernel
theorem dX12_fills_35 : decode cX12_fills 35 = .ok (.lreturn, 1) := by decide +kernel
theorem dX12_fill_0 : decode cX12_fill 0 = .ok (.aload_n 0, 1) := by decide +kernel
theorem dX12_fill_1 : decode cX12_fill 1 = .ok (.iconst 0, 1) := by decide +kernel
theorem dX12_fill_2 : decode cX12_fill 2 = .ok (.putfield 157, 3) := by decide +kernel
theorem dX12_fill_5 : decode cX12_fill 5 = .ok (.aload_n 0, 1) := by decide +kernel
theorem dX12_fill_6 : decode cX12_fill 6 = .ok (.iload_n 1, 1) := by decide +kernel
theorem dX12_fill_7 : decode cX12_fill 7 = .ok (.invokevirtual 378, 3) := by decide +kernel
theorem dX12_fill_10 : decode cX12_fill 10 = .ok (.ifCond .eq 12, 3) := by decide +kernel
theorem dX12_fill_13 : decode cX12_fill 13 = .ok (.aload_n 0, 1) := by decide +kernel
theorem dX12_fill_14 : decode cX12_fill 14 = .ok (.getfield 153, 3) := by decide +kernel
theorem dX12_fill_17 : decode cX12_fill 17 = .ok (.bipush 7, 2) := by decide +kernel
theorem dX12_fill_19 : decode cX12_fill 19 = .ok (.if_icmp .le 5, 3) := by decide +kernel
theorem dX12_fill_22 : decode cX12_fill 22 = .ok (.iconst (-1), 1) := by decide +kernel
theorem dX12_fill_23 : decode cX12_fill 23 = .ok (.ireturn, 1) := by decide +kernel
theorem dX12_fill_24 : decode cX12_fill 24 = .ok (.aload_n 0, 1) := by decide +kernel
theorem dX12_fill_25 : decode cX12_fill 25 = .ok (.invokevirtual 446, 3) := by decide +kernel
theorem dX12_fill_28 : decode cX12_fill 28 = .ok (.aload_n 0, 1) := by decide +kernel
theorem dX12_fill_29 : decode cX12_fill 29 = .ok (.iconst 1, 1) := by decide +kernel
theorem dX12_fill_30 : decode cX12_fill 30 = .ok (.aload_n 0, 1) := by decide +kernel
theorem dX12_fill_31 : decode cX12_fill 31 = .ok (.getfield 153, 3) := by decide +kernel
theorem dX12_fill_34 : decode cX12_fill 34 = .ok (.ishl, 1) := by decide +kernel
theorem dX12_fill_35 : decode cX12_fill 35 = .ok (.iconst 1, 1) := by decide +kernel
theorem dX12_fill_36 : decode cX12_fill 36 = .ok (.isub, 1) := by decide +kernel
theorem dX12_fill_37 : decode cX12_fill 37 = .ok (.iconst 1, 1) := by decide +kernel
theorem dX12_fill_38 : decode cX12_fill 38 = .ok (.invokevirtual 449, 3) := by decide +kernel
theorem dX12_fill_41 : decode cX12_fill 41 = .ok (.lconst 0, 1) := by decide +kernel
theorem dX12_fill_42 : decode cX12_fill 42 = .ok (.lcmp, 1) := by decide +kernel
theorem dX12_fill_43 : decode cX12_fill 43 = .ok (.ifCond .le 12, 3) := by decide +kernel
theorem dX12_fill_46 : decode cX12_fill 46 = .ok (.aload_n 0, 1) := by decide +kernel
theorem dX12_fill_47 : decode cX12_fill 47 = .ok (.getfield 129, 3) := by decide +kernel
theorem dX12_fill_50 : decode cX12_fill 50 = .ok (.iload_n 1, 1) := by decide +kernel
theorem dX12_fill_51 : decode cX12_fill 51 = .ok (.iaload, 1) := by decide +kernel
theorem dX12_fill_52 : decode cX12_fill 52 = .ok (.goto 4, 3) := by decide +kernel
theorem dX12_fill_55 : decode cX12_fill 55 = .ok (.iconst (-1), 1) := by decide +kernel
theorem dX12_fill_56 : decode cX12_fill 56 = .ok (.ireturn, 1) := by decide +kernel
theorem dX12_stuck_0 : decode cX12_stuck 0 = .ok (.aload_n 0, 1) := by decide +kernel
theorem dX12_stuck_1 : decode cX12_stuck 1 = .ok (.iconst 0, 1) := by decide +kernel
theorem dX12_stuck_2 : decode cX12_stuck 2 = .ok (.putfield 157, 3) := by decide +kernel
theorem dX12_stuck_5 : decode cX12_stuck 5 = .ok (.iload_n 1, 1) := by decide +kernel
theorem dX12_stuck_6 : decode cX12_stuck 6 = .ok (.iconst 0, 1) := by decide +kernel
theorem dX12_stuck_7 : decode cX12_stuck 7 = .ok (.iconst 1, 1) := by decide +kernel
theorem dX12_stuck_8 : decode cX12_stuck 8 = .ok (.invokestatic 277, 3) := by decide +kernel
theorem dX12_stuck_11 : decode cX12_stuck 11 = .ok (.ifCond .eq 12, 3) := by decide +kernel
theorem dX12_stuck_14 : decode cX12_stuck 14 = .ok (.aload_n 0, 1) := by decide +kernel
theorem dX12_stuck_15 : decode cX12_stuck 15 = .ok (.getfield 153, 3) := by decide +kernel
theorem dX12_stuck_18 : decode cX12_stuck 18 = .ok (.bipush 7, 2) := by decide +kernel
theorem dX12_stuck_20 : decode cX12_stuck 20 = .ok (.if_icmp .le 5, 3) := by decide +kernel
theorem dX12_stuck_23 : decode cX12_stuck 23 = .ok (.iconst (-1), 1) := by decide +kernel
theorem dX12_stuck_24 : decode cX12_stuck 24 = .ok (.ireturn, 1) := by decide +kernel
theorem dX12_stuck_25 : decode cX12_stuck 25 = .ok (.aload_n 0, 1) := by decide +kernel
theorem dX12_stuck_26 : decode cX12_stuck 26 = .ok (.invokevirtual 446, 3) := by decide +kernel
theorem dX12_stuck_29 : decode cX12_stuck 29 = .ok (.iconst (-1), 1) := by decide +kernel
theorem dX12_stuck_30 : decode cX12_stuck 30 = .ok (.istore_n 2, 1) := by decide +kernel
theorem dX12_stuck_31 : decode cX12_stuck 31 = .ok (.iconst 1, 1) := by decide +kernel
theorem dX12_stuck_32 : decode cX12_stuck 32 = .ok (.istore_n 3, 1) := by decide +kernel
theorem dX12_stuck_33 : decode cX12_stuck 33 = .ok (.iload_n 3, 1) := by decide +kernel
theorem dX12_stuck_34 : decode cX12_stuck 34 = .ok (.iconst 1, 1) := by decide +kernel
theorem dX12_stuck_35 : decode cX12_stuck 35 = .ok (.aload_n 0, 1) := by decide +kernel
theorem dX12_stuck_36 : decode cX12_stuck 36 = .ok (.getfield 153, 3) := by decide +kernel
theorem dX12_stuck_39 : decode cX12_stuck 39 = .ok (.ishl, 1) := by decide +kernel
theorem dX12_stuck_40 : decode cX12_stuck 40 = .ok (.if_icmp .ge 37, 3) := by decide +kernel
theorem dX12_stuck_43 : decode cX12_stuck 43 = .ok (.iload_n 2, 1) := by decide +kernel
theorem dX12_stuck_44 : decode cX12_stuck 44 = .ok (.ifCond .lt 14, 3) := by decide +kernel
theorem dX12_stuck_47 : decode cX12_stuck 47 = .ok (.iload_n 3, 1) := by decide +kernel
theorem dX12_stuck_48 : decode cX12_stuck 48 = .ok (.invokestatic 453, 3) := by decide +kernel
theorem dX12_stuck_51 : decode cX12_stuck 51 = .ok (.iload_n 2, 1) := by decide +kernel
theorem dX12_stuck_52 : decode cX12_stuck 52 = .ok (.invokestatic 453, 3) := by decide +kernel
theorem dX12_stuck_55 : decode cX12_stuck 55 = .ok (.if_icmp .ge 16, 3) := by decide +kernel
theorem dX12_stuck_58 : decode cX12_stuck 58 = .ok (.aload_n 0, 1) := by decide +kernel
theorem dX12_stuck_59 : decode cX12_stuck 59 = .ok (.iload_n 3, 1) := by decide +kernel
theorem dX12_stuck_60 : decode cX12_stuck 60 = .ok (.iconst 1, 1) := by decide +kernel
theorem dX12_stuck_61 : decode cX12_stuck 61 = .ok (.invokevirtual 449, 3) := by decide +kernel
theorem dX12_stuck_64 : decode cX12_stuck 64 = .ok (.lconst 0, 1) := by decide +kernel
theorem dX12_stuck_65 : decode cX12_stuck 65 = .ok (.lcmp, 1) := by decide +kernel
theorem dX12_stuck_66 : decode cX12_stuck 66 = .ok (.ifCond .ne 5, 3) := by decide +kernel
theorem dX12_stuck_69 : decode cX12_stuck 69 = .ok (.iload_n 3, 1) := by decide +kernel
theorem dX12_stuck_70 : decode cX12_stuck 70 = .ok (.istore_n 2, 1) := by decide +kernel
theorem dX12_stuck_71 : decode cX12_stuck 71 = .ok (.iinc 3 1, 3) := by decide +kernel
theorem dX12_stuck_74 : decode cX12_stuck 74 = .ok (.goto (-41), 3) := by decide +kernel
theorem dX12_stuck_77 : decode cX12_stuck 77 = .ok (.iload_n 2, 1) := by decide +kernel
theorem dX12_stuck_78 : decode cX12_stuck 78 = .ok (.ifCond .ge 7, 3) := by decide +kernel
theorem dX12_stuck_81 : decode cX12_stuck 81 = .ok (.iconst (-1), 1) := by decide +kernel
theorem dX12_stuck_82 : decode cX12_stuck 82 = .ok (.goto 15, 3) := by decide +kernel
theorem dX12_stuck_85 : decode cX12_stuck 85 = .ok (.iload_n 1, 1) := by decide +kernel
theorem dX12_stuck_86 : decode cX12_stuck 86 = .ok (.ifCond .ne 10, 3) := by decide +kernel
theorem dX12_stuck_89 : decode cX12_stuck 89 = .ok (.iload_n 2, 1) := by decide +kernel
theorem dX12_stuck_90 : decode cX12_stuck 90 = .ok (.invokestatic 453, 3) := by decide +kernel
theorem dX12_stuck_93 : decode cX12_stuck 93 = .ok (.goto 4, 3) := by decide +kernel
theorem dX12_stuck_96 : decode cX12_stuck 96 = .ok (.iload_n 2, 1) := by decide +kernel
theorem dX12_stuck_97 : decode cX12_stuck 97 = .ok (.ireturn, 1) := by decide +kernel
theorem dX12_line_0 : decode cX12_line 0 = .ok (.aload_n 0, 1) := by decide +kernel
theorem dX12_line_1 : decode cX12_line 1 = .ok (.iconst 0, 1) := by decide +kernel
theorem dX12_line_2 : decode cX12_line 2 = .ok (.putfield 157, 3) := by decide +kernel
theorem dX12_line_5 : decode cX12_line 5 = .ok (.aload_n 0, 1) := by decide +kernel
theorem dX12_line_6 : decode cX12_line 6 = .ok (.iload_n 1, 1) := by decide +kernel
theorem dX12_line_7 : decode cX12_line 7 = .ok (.invokevirtual 429, 3) := by decide +kernel
theorem dX12_line_10 : decode cX12_line 10 = .ok (.ifCond .eq 33, 3) := by decide +kernel
theorem dX12_line_13 : decode cX12_line 13 = .ok (.iload_n 2, 1) := by decide +kernel
theorem dX12_line_14 : decode cX12_line 14 = .ok (.iconst 0, 1) := by decide +kernel
theorem dX12_line_15 : decode cX12_line 15 = .ok (.sipush 999, 3) := by decide +kernel
theorem dX12_line_18 : decode cX12_line 18 = .ok (.invokestatic 277, 3) := by decide +kernel
theorem dX12_line_21 : decode cX12_line 21 = .ok (.ifCond .eq 22, 3) := by decide +kernel
theorem dX12_line_24 : decode cX12_line 24 = .ok (.iload_n 3, 1) := by decide +kernel
theorem dX12_line_25 : decode cX12_line 25 = .ok (.iconst 0, 1) := by decide +kernel
theorem dX12_line_26 : decode cX12_line 26 = .ok (.bipush 99, 2) := by decide +kernel
theorem dX12_line_28 : decode cX12_line 28 = .ok (.invokestatic 277, 3) := by decide +kernel
theorem dX12_line_31 : decode cX12_line 31 = .ok (.ifCond .eq 12, 3) := by decide +kernel
theorem dX12_line_34 : decode cX12_line 34 = .ok (.aload_n 0, 1) := by decide +kernel
theorem dX12_line_35 : decode cX12_line 35 = .ok (.getfield 372, 3) := by decide +kernel
theorem dX12_line_38 : decode cX12_line 38 = .ok (.bipush 60, 2) := by decide +kernel
theorem dX12_line_40 : decode cX12_line 40 = .ok (.if_icmp .ne 5, 3) := by decide +kernel
theorem dX12_line_43 : decode cX12_line 43 = .ok (.iconst (-1), 1) := by decide +kernel
theorem dX12_line_44 : decode cX12_line 44 = .ok (.ireturn, 1) := by decide +kernel
theorem dX12_line_45 : decode cX12_line 45 = .ok (.aload_n 0, 1) := by decide +kernel
theorem dX12_line_46 : decode cX12_line 46 = .ok (.getfield 132, 3) := by decide +kernel
theorem dX12_line_49 : decode cX12_line 49 = .ok (.aload_n 0, 1) := by decide +kernel
theorem dX12_line_50 : decode cX12_line 50 = .ok (.getfield 372, 3) := by decide +kernel
theorem dX12_line_53 : decode cX12_line 53 = .ok (.iload_n 1, 1) := by decide +kernel
theorem dX12_line_54 : decode cX12_line 54 = .ok (.iastore, 1) := by decide +kernel
theorem dX12_line_55 : decode cX12_line 55 = .ok (.aload_n 0, 1) := by decide +kernel
theorem dX12_line_56 : decode cX12_line 56 = .ok (.getfield 135, 3) := by decide +kernel
theorem dX12_line_59 : decode cX12_line 59 = .ok (.aload_n 0, 1) := by decide +kernel
theorem dX12_line_60 : decode cX12_line 60 = .ok (.getfield 372, 3) := by decide +kernel
theorem dX12_line_63 : decode cX12_line 63 = .ok (.iload_n 2, 1) := by decide +kernel
theorem dX12_line_64 : decode cX12_line 64 = .ok (.iastore, 1) := by decide +kernel
theorem dX12_line_65 : decode cX12_line 65 = .ok (.aload_n 0, 1) := by decide +kernel
theorem dX12_line_66 : decode cX12_line 66 = .ok (.getfield 138, 3) := by decide +kernel
theorem dX12_line_69 : decode cX12_line 69 = .ok (.aload_n 0, 1) := by decide +kernel
theorem dX12_line_70 : decode cX12_line 70 = .ok (.getfield 372, 3) := by decide +kernel
theorem dX12_line_73 : decode cX12_line 73 = .ok (.iload_n 3, 1) := by decide +kernel
theorem dX12_line_74 : decode cX12_line 74 = .ok (.iastore, 1) := by decide +kernel
theorem dX12_line_75 : decode cX12_line 75 = .ok (.aload_n 0, 1) := by decide +kernel
theorem dX12_line_76 : decode cX12_line 76 = .ok (.dup, 1) := by decide +kernel
theorem dX12_line_77 : decode cX12_line 77 = .ok (.getfield 372, 3) := by decide +kernel
theorem dX12_line_80 : decode cX12_line 80 = .ok (.iconst 1, 1) := by decide +kernel
theorem dX12_line_81 : decode cX12_line 81 = .ok (.iadd, 1) := by decide +kernel
theorem dX12_line_82 : decode cX12_line 82 = .ok (.putfield 372, 3) := by decide +kernel
theorem dX12_line_85 : decode cX12_line 85 = .ok (.aload_n 0, 1) := by decide +kernel
theorem dX12_line_86 : decode cX12_line 86 = .ok (.getfield 372, 3) := by decide +kernel
theorem dX12_line_89 : decode cX12_line 89 = .ok (.ireturn, 1) := by decide +kernel
theorem dX12_clear_0 : decode cX12_clear 0 = .ok (.aload_n 0, 1) := by decide +kernel
theorem dX12_clear_1 : decode cX12_clear 1 = .ok (.iconst 0, 1) := by decide +kernel
theorem dX12_clear_2 : decode cX12_clear 2 = .ok (.putfield 157, 3) := by decide +kernel
theorem dX12_clear_5 : decode cX12_clear 5 = .ok (.aload_n 0, 1) := by decide +kernel
theorem dX12_clear_6 : decode cX12_clear 6 = .ok (.iconst 0, 1) := by decide +kernel
theorem dX12_clear_7 : decode cX12_clear 7 = .ok (.putfield 372, 3) := by decide +kernel
theorem dX12_clear_10 : decode cX12_clear 10 = .ok (.iconst 1, 1) := by decide +kernel
theorem dX12_clear_11 : decode cX12_clear 11 = .ok (.ireturn, 1) := by decide +kernel
theorem dX12_wrongIn_0 : decode cX12_wrongIn 0 = .ok (.iload_n 1, 1) := by decide +kernel
theorem dX12_wrongIn_1 : decode cX12_wrongIn 1 = .ok (.aload_n 0, 1) := by decide +kernel
theorem dX12_wrongIn_2 : decode cX12_wrongIn 2 = .ok (.getfield 153, 3) := by decide +kernel
theorem dX12_wrongIn_5 : decode cX12_wrongIn 5 = .ok (.idiv, 1) := by decide +kernel
theorem dX12_wrongIn_6 : decode cX12_wrongIn 6 = .ok (.istore_n 2, 1) := by decide +kernel
theorem dX12_wrongIn_7 : decode cX12_wrongIn 7 = .ok (.iload_n 1, 1) := by decide +kernel
theorem dX12_wrongIn_8 : decode cX12_wrongIn 8 = .ok (.aload_n 0, 1) := by decide +kernel
theorem dX12_wrongIn_9 : decode cX12_wrongIn 9 = .ok (.getfield 153, 3) := by decide +kernel
theorem dX12_wrongIn_12 : decode cX12_wrongIn 12 = .ok (.irem, 1) := by decide +kernel
theorem dX12_wrongIn_13 : decode cX12_wrongIn 13 = .ok (.istore_n 3, 1) := by decide +kernel
theorem dX12_wrongIn_14 : decode cX12_wrongIn 14 = .ok (.aload_n 0, 1) := by decide +kernel
theorem dX12_wrongIn_15 : decode cX12_wrongIn 15 = .ok (.getfield 132, 3) := by decide +kernel
theorem dX12_wrongIn_18 : decode cX12_wrongIn 18 = .ok (.iload_n 1, 1) := by decide +kernel
theorem dX12_wrongIn_19 : decode cX12_wrongIn 19 = .ok (.iaload, 1) := by decide +kernel
theorem dX12_wrongIn_20 : decode cX12_wrongIn 20 = .ok (.istore 4, 2) := by decide +kernel
theorem dX12_wrongIn_22 : decode cX12_wrongIn 22 = .ok (.iload_n 2, 1) := by decide +kernel
theorem dX12_wrongIn_23 : decode cX12_wrongIn 23 = .ok (.ifCond .le 22, 3) := by decide +kernel
theorem dX12_wrongIn_26 : decode cX12_wrongIn 26 = .ok (.aload_n 0, 1) := by decide +kernel
theorem dX12_wrongIn_27 : decode cX12_wrongIn 27 = .ok (.getfield 132, 3) := by decide +kernel
theorem dX12_wrongIn_30 : decode cX12_wrongIn 30 = .ok (.aload_n 0, 1) := by decide +kernel
theorem dX12_wrongIn_31 : decode cX12_wrongIn 31 = .ok (.iload_n 2, 1) := by decide +kernel
theorem dX12_wrongIn_32 : decode cX12_wrongIn 32 = .ok (.i2l, 1) := by decide +kernel
theorem dX12_wrongIn_33 : decode cX12_wrongIn 33 = .ok (.iload_n 3, 1) := by decide +kernel
theorem dX12_wrongIn_34 : decode cX12_wrongIn 34 = .ok (.invokevirtual 389, 3) := by decide +kernel
theorem dX12_wrongIn_37 : decode cX12_wrongIn 37 = .ok (.iaload, 1) := by decide +kernel
theorem dX12_wrongIn_38 : decode cX12_wrongIn 38 = .ok (.iload 4, 2) := by decide +kernel
theorem dX12_wrongIn_40 : decode cX12_wrongIn 40 = .ok (.if_icmp .eq 5, 3) := by decide +kernel
theorem dX12_wrongIn_43 : decode cX12_wrongIn 43 = .ok (.iconst 1, 1) := by decide +kernel
theorem dX12_wrongIn_44 : decode cX12_wrongIn 44 = .ok (.ireturn, 1) := by decide +kernel
theorem dX12_wrongIn_45 : decode cX12_wrongIn 45 = .ok (.iconst 0, 1) := by decide +kernel
theorem dX12_wrongIn_46 : decode cX12_wrongIn 46 = .ok (.istore 5, 2) := by decide +kernel
theorem dX12_wrongIn_48 : decode cX12_wrongIn 48 = .ok (.iload 5, 2) := by decide +kernel
theorem dX12_wrongIn_50 : decode cX12_wrongIn 50 = .ok (.iload_n 3, 1) := by decide +kernel
theorem dX12_wrongIn_51 : decode cX12_wrongIn 51 = .ok (.if_icmp .ge 27, 3) := by decide +kernel
theorem dX12_wrongIn_54 : decode cX12_wrongIn 54 = .ok (.iload_n 2, 1) := by decide +kernel
theorem dX12_wrongIn_55 : decode cX12_wrongIn 55 = .ok (.ifCond .ne 23, 3) := by decide +kernel
theorem dX12_wrongIn_58 : decode cX12_wrongIn 58 = .ok (.aload_n 0, 1) := by decide +kernel
theorem dX12_wrongIn_59 : decode cX12_wrongIn 59 = .ok (.getfield 132, 3) := by decide +kernel
theorem dX12_wrongIn_62 : decode cX12_wrongIn 62 = .ok (.iload 5, 2) := by decide +kernel
theorem dX12_wrongIn_64 : decode cX12_wrongIn 64 = .ok (.iaload, 1) := by decide +kernel
theorem dX12_wrongIn_65 : decode cX12_wrongIn 65 = .ok (.iload 4, 2) := by decide +kernel
theorem dX12_wrongIn_67 : decode cX12_wrongIn 67 = .ok (.if_icmp .ne 5, 3) := by decide +kernel
theorem dX12_wrongIn_70 : decode cX12_wrongIn 70 = .ok (.iconst 1, 1) := by decide +kernel
theorem dX12_wrongIn_71 : decode cX12_wrongIn 71 = .ok (.ireturn, 1) := by decide +kernel
theorem dX12_wrongIn_72 : decode cX12_wrongIn 72 = .ok (.iinc 5 1, 3) := by decide +kernel
theorem dX12_wrongIn_75 : decode cX12_wrongIn 75 = .ok (.goto (-27), 3) := by decide +kernel
theorem dX12_wrongIn_78 : decode cX12_wrongIn 78 = .ok (.iconst 0, 1) := by decide +kernel
theorem dX12_wrongIn_79 : decode cX12_wrongIn 79 = .ok (.istore 5, 2) := by decide +kernel
theorem dX12_wrongIn_81 : decode cX12_wrongIn 81 = .ok (.iload 5, 2) := by decide +kernel
theorem dX12_wrongIn_83 : decode cX12_wrongIn 83 = .ok (.iload_n 3, 1) := by decide +kernel
theorem dX12_wrongIn_84 : decode cX12_wrongIn 84 = .ok (.if_icmp .ge 53, 3) := by decide +kernel
theorem dX12_wrongIn_87 : decode cX12_wrongIn 87 = .ok (.iload_n 2, 1) := by decide +kernel
theorem dX12_wrongIn_88 : decode cX12_wrongIn 88 = .ok (.ifCond .ne 49, 3) := by decide +kernel
theorem dX12_wrongIn_91 : decode cX12_wrongIn 91 = .ok (.aload_n 0, 1) := by decide +kernel
theorem dX12_wrongIn_92 : decode cX12_wrongIn 92 = .ok (.getfield 120, 3) := by decide +kernel
theorem dX12_wrongIn_95 : decode cX12_wrongIn 95 = .ok (.iload 5, 2) := by decide +kernel
theorem dX12_wrongIn_97 : decode cX12_wrongIn 97 = .ok (.iaload, 1) := by decide +kernel
theorem dX12_wrongIn_98 : decode cX12_wrongIn 98 = .ok (.aload_n 0, 1) := by decide +kernel
theorem dX12_wrongIn_99 : decode cX12_wrongIn 99 = .ok (.getfield 120, 3) := by decide +kernel
theorem dX12_wrongIn_102 : decode cX12_wrongIn 102 = .ok (.iload_n 3, 1) := by decide +kernel
theorem dX12_wrongIn_103 : decode cX12_wrongIn 103 = .ok (.iaload, 1) := by decide +kernel
theorem dX12_wrongIn_104 : decode cX12_wrongIn 104 = .ok (.if_icmp .ne 27, 3) := by decide +kernel
theorem dX12_wrongIn_107 : decode cX12_wrongIn 107 = .ok (.aload_n 0, 1) := by decide +kernel
theorem dX12_wrongIn_108 : decode cX12_wrongIn 108 = .ok (.getfield 25, 3) := by decide +kernel
theorem dX12_wrongIn_111 : decode cX12_wrongIn 111 = .ok (.aload_n 0, 1) := by decide +kernel
theorem dX12_wrongIn_112 : decode cX12_wrongIn 112 = .ok (.getfield 132, 3) := by decide +kernel
theorem dX12_wrongIn_115 : decode cX12_wrongIn 115 = .ok (.iload 5, 2) := by decide +kernel
theorem dX12_wrongIn_117 : decode cX12_wrongIn 117 = .ok (.iaload, 1) := by decide +kernel
theorem dX12_wrongIn_118 : decode cX12_wrongIn 118 = .ok (.iaload, 1) := by decide +kernel
theorem dX12_wrongIn_119 : decode cX12_wrongIn 119 = .ok (.aload_n 0, 1) := by decide +kernel
theorem dX12_wrongIn_120 : decode cX12_wrongIn 120 = .ok (.getfield 25, 3) := by decide +kernel
theorem dX12_wrongIn_123 : decode cX12_wrongIn 123 = .ok (.iload 4, 2) := by decide +kernel
theorem dX12_wrongIn_125 : decode cX12_wrongIn 125 = .ok (.iaload, 1) := by decide +kernel
theorem dX12_wrongIn_126 : decode cX12_wrongIn 126 = .ok (.if_icmp .eq 5, 3) := by decide +kernel
theorem dX12_wrongIn_129 : decode cX12_wrongIn 129 = .ok (.iconst 2, 1) := by decide +kernel
theorem dX12_wrongIn_130 : decode cX12_wrongIn 130 = .ok (.ireturn, 1) := by decide +kernel
theorem dX12_wrongIn_131 : decode cX12_wrongIn 131 = .ok (.iinc 5 1, 3) := by decide +kernel
theorem dX12_wrongIn_134 : decode cX12_wrongIn 134 = .ok (.goto (-53), 3) := by decide +kernel
theorem dX12_wrongIn_137 : decode cX12_wrongIn 137 = .ok (.aload_n 0, 1) := by decide +kernel
theorem dX12_wrongIn_138 : decode cX12_wrongIn 138 = .ok (.getfield 22, 3) := by decide +kernel
theorem dX12_wrongIn_141 : decode cX12_wrongIn 141 = .ok (.iload_n 3, 1) := by decide +kernel
theorem dX12_wrongIn_142 : decode cX12_wrongIn 142 = .ok (.iaload, 1) := by decide +kernel
theorem dX12_wrongIn_143 : decode cX12_wrongIn 143 = .ok (.ifCond .le 31, 3) := by decide +kernel
theorem dX12_wrongIn_146 : decode cX12_wrongIn 146 = .ok (.iload_n 2, 1) := by decide +kernel
theorem dX12_wrongIn_147 : decode cX12_wrongIn 147 = .ok (.aload_n 0, 1) := by decide +kernel
theorem dX12_wrongIn_148 : decode cX12_wrongIn 148 = .ok (.getfield 22, 3) := by decide +kernel
theorem dX12_wrongIn_151 : decode cX12_wrongIn 151 = .ok (.iload_n 3, 1) := by decide +kernel
theorem dX12_wrongIn_152 : decode cX12_wrongIn 152 = .ok (.iaload, 1) := by decide +kernel
theorem dX12_wrongIn_153 : decode cX12_wrongIn 153 = .ok (.irem, 1) := by decide +kernel
theorem dX12_wrongIn_154 : decode cX12_wrongIn 154 = .ok (.ifCond .ne 20, 3) := by decide +kernel
theorem dX12_wrongIn_157 : decode cX12_wrongIn 157 = .ok (.aload_n 0, 1) := by decide +kernel
theorem dX12_wrongIn_158 : decode cX12_wrongIn 158 = .ok (.getfield 135, 3) := by decide +kernel
theorem dX12_wrongIn_161 : decode cX12_wrongIn 161 = .ok (.iload_n 1, 1) := by decide +kernel
theorem dX12_wrongIn_162 : decode cX12_wrongIn 162 = .ok (.iaload, 1) := by decide +kernel
theorem dX12_wrongIn_163 : decode cX12_wrongIn 163 = .ok (.aload_n 0, 1) := by decide +kernel
theorem dX12_wrongIn_164 : decode cX12_wrongIn 164 = .ok (.getfield 135, 3) := by decide +kernel
theorem dX12_wrongIn_167 : decode cX12_wrongIn 167 = .ok (.iload_n 3, 1) := by decide +kernel
theorem dX12_wrongIn_168 : decode cX12_wrongIn 168 = .ok (.iaload, 1) := by decide +kernel
theorem dX12_wrongIn_169 : decode cX12_wrongIn 169 = .ok (.if_icmp .eq 5, 3) := by decide +kernel
theorem dX12_wrongIn_172 : decode cX12_wrongIn 172 = .ok (.iconst 3, 1) := by decide +kernel
theorem dX12_wrongIn_173 : decode cX12_wrongIn 173 = .ok (.ireturn, 1) := by decide +kernel
theorem dX12_wrongIn_174 : decode cX12_wrongIn 174 = .ok (.aload_n 0, 1) := by decide +kernel
theorem dX12_wrongIn_175 : decode cX12_wrongIn 175 = .ok (.getfield 361, 3) := by decide +kernel
theorem dX12_wrongIn_178 : decode cX12_wrongIn 178 = .ok (.ifCond .le 18, 3) := by decide +kernel
theorem dX12_wrongIn_181 : decode cX12_wrongIn 181 = .ok (.aload_n 0, 1) := by decide +kernel
theorem dX12_wrongIn_182 : decode cX12_wrongIn 182 = .ok (.getfield 138, 3) := by decide +kernel
theorem dX12_wrongIn_185 : decode cX12_wrongIn 185 = .ok (.iload_n 1, 1) := by decide +kernel
theorem dX12_wrongIn_186 : decode cX12_wrongIn 186 = .ok (.iaload, 1) := by decide +kernel
theorem dX12_wrongIn_187 : decode cX12_wrongIn 187 = .ok (.aload_n 0, 1) := by decide +kernel
theorem dX12_wrongIn_188 : decode cX12_wrongIn 188 = .ok (.getfield 361, 3) := by decide +kernel
theorem dX12_wrongIn_191 : decode cX12_wrongIn 191 = .ok (.if_icmp .eq 5, 3) := by decide +kernel
theorem dX12_wrongIn_194 : decode cX12_wrongIn 194 = .ok (.iconst 4, 1) := by decide +kernel
theorem dX12_wrongIn_195 : decode cX12_wrongIn 195 = .ok (.ireturn, 1) := by decide +kernel
theorem dX12_wrongIn_196 : decode cX12_wrongIn 196 = .ok (.iload_n 3, 1) := by decide +kernel
theorem dX12_wrongIn_197 : decode cX12_wrongIn 197 = .ok (.ifCond .le 29, 3) := by decide +kernel
theorem dX12_wrongIn_200 : decode cX12_wrongIn 200 = .ok (.aload_n 0, 1) := by decide +kernel
theorem dX12_wrongIn_201 : decode cX12_wrongIn 201 = .ok (.getfield 34, 3) := by decide +kernel
theorem dX12_wrongIn_204 : decode cX12_wrongIn 204 = .ok (.bipush 12, 2) := by decide +kernel
theorem dX12_wrongIn_206 : decode cX12_wrongIn 206 = .ok (.aload_n 0, 1) := by decide +kernel
theorem dX12_wrongIn_207 : decode cX12_wrongIn 207 = .ok (.getfield 132, 3) := by decide +kernel
theorem dX12_wrongIn_210 : decode cX12_wrongIn 210 = .ok (.iload_n 1, 1) := by decide +kernel
theorem dX12_wrongIn_211 : decode cX12_wrongIn 211 = .ok (.iconst 1, 1) := by decide +kernel
theorem dX12_wrongIn_212 : decode cX12_wrongIn 212 = .ok (.isub, 1) := by decide +kernel
theorem dX12_wrongIn_213 : decode cX12_wrongIn 213 = .ok (.iaload, 1) := by decide +kernel
theorem dX12_wrongIn_214 : decode cX12_wrongIn 214 = .ok (.imul, 1) := by decide +kernel
theorem dX12_wrongIn_215 : decode cX12_wrongIn 215 = .ok (.iload 4, 2) := by decide +kernel
theorem dX12_wrongIn_217 : decode cX12_wrongIn 217 = .ok (.iadd, 1) := by decide +kernel
theorem dX12_wrongIn_218 : decode cX12_wrongIn 218 = .ok (.baload, 1) := by decide +kernel
theorem dX12_wrongIn_219 : decode cX12_wrongIn 219 = .ok (.ifCond .eq 7, 3) := by decide +kernel
theorem dX12_wrongIn_222 : decode cX12_wrongIn 222 = .ok (.iconst 5, 1) := by decide +kernel
theorem dX12_wrongIn_223 : decode cX12_wrongIn 223 = .ok (.goto 4, 3) := by decide +kernel
theorem dX12_wrongIn_226 : decode cX12_wrongIn 226 = .ok (.iconst 0, 1) := by decide +kernel
theorem dX12_wrongIn_227 : decode cX12_wrongIn 227 = .ok (.ireturn, 1) := by decide +kernel
theorem dX12_judged_0 : decode cX12_judged 0 = .ok (.aload_n 0, 1) := by decide +kernel
theorem dX12_judged_1 : decode cX12_judged 1 = .ok (.iload_n 1, 1) := by decide +kernel
theorem dX12_judged_2 : decode cX12_judged 2 = .ok (.iconst 0, 1) := by decide +kernel
theorem dX12_judged_3 : decode cX12_judged 3 = .ok (.iconst 1, 1) := by decide +kernel
theorem dX12_judged_4 : decode cX12_judged 4 = .ok (.invokestatic 277, 3) := by decide +kernel
theorem dX12_judged_7 : decode cX12_judged 7 = .ok (.ifCond .eq 7, 3) := by decide +kernel
theorem dX12_judged_10 : decode cX12_judged 10 = .ok (.iconst 0, 1) := by decide +kernel
theorem dX12_judged_11 : decode cX12_judged 11 = .ok (.goto 4, 3) := by decide +kernel
theorem dX12_judged_14 : decode cX12_judged 14 = .ok (.iconst 1, 1) := by decide +kernel
theorem dX12_judged_15 : decode cX12_judged 15 = .ok (.putfield 157, 3) := by decide +kernel
theorem dX12_judged_18 : decode cX12_judged 18 = .ok (.aload_n 0, 1) := by decide +kernel
theorem dX12_judged_19 : decode cX12_judged 19 = .ok (.getfield 157, 3) := by decide +kernel
theorem dX12_judged_22 : decode cX12_judged 22 = .ok (.iconst 1, 1) := by decide +kernel
theorem dX12_judged_23 : decode cX12_judged 23 = .ok (.if_icmp .ne 5, 3) := by decide +kernel
theorem dX12_judged_26 : decode cX12_judged 26 = .ok (.iconst 0, 1) := by decide +kernel
theorem dX12_judged_27 : decode cX12_judged 27 = .ok (.ireturn, 1) := by decide +kernel
theorem dX12_judged_28 : decode cX12_judged 28 = .ok (.aload_n 0, 1) := by decide +kernel
theorem dX12_judged_29 : decode cX12_judged 29 = .ok (.invokevirtual 423, 3) := by decide +kernel
theorem dX12_judged_32 : decode cX12_judged 32 = .ok (.iconst 0, 1) := by decide +kernel
theorem dX12_judged_33 : decode cX12_judged 33 = .ok (.istore_n 2, 1) := by decide +kernel
theorem dX12_judged_34 : decode cX12_judged 34 = .ok (.iload_n 2, 1) := by decide +kernel
theorem dX12_judged_35 : decode cX12_judged 35 = .ok (.aload_n 0, 1) := by decide +kernel
theorem dX12_judged_36 : decode cX12_judged 36 = .ok (.getfield 372, 3) := by decide +kernel
theorem dX12_judged_39 : decode cX12_judged 39 = .ok (.if_icmp .ge 29, 3) := by decide +kernel
theorem dX12_judged_42 : decode cX12_judged 42 = .ok (.aload_n 0, 1) := by decide +kernel
theorem dX12_judged_43 : decode cX12_judged 43 = .ok (.iload_n 2, 1) := by decide +kernel
theorem dX12_judged_44 : decode cX12_judged 44 = .ok (.invokevirtual 456, 3) := by decide +kernel
theorem dX12_judged_47 : decode cX12_judged 47 = .ok (.istore_n 3, 1) := by decide +kernel
theorem dX12_judged_48 : decode cX12_judged 48 = .ok (.iload_n 3, 1) := by decide +kernel
theorem dX12_judged_49 : decode cX12_judged 49 = .ok (.ifCond .le 13, 3) := by decide +kernel
theorem dX12_judged_52 : decode cX12_judged 52 = .ok (.iload_n 1, 1) := by decide +kernel
theorem dX12_judged_53 : decode cX12_judged 53 = .ok (.ifCond .ne 7, 3) := by decide +kernel
theorem dX12_judged_56 : decode cX12_judged 56 = .ok (.iload_n 2, 1) := by decide +kernel
theorem dX12_judged_57 : decode cX12_judged 57 = .ok (.goto 4, 3) := by decide +kernel
theorem dX12_judged_60 : decode cX12_judged 60 = .ok (.iload_n 3, 1) := by decide +kernel
theorem dX12_judged_61 : decode cX12_judged 61 = .ok (.ireturn, 1) := by decide +kernel
theorem dX12_judged_62 : decode cX12_judged 62 = .ok (.iinc 2 1, 3) := by decide +kernel
theorem dX12_judged_65 : decode cX12_judged 65 = .ok (.goto (-31), 3) := by decide +kernel
theorem dX12_judged_68 : decode cX12_judged 68 = .ok (.iload_n 1, 1) := by decide +kernel
theorem dX12_judged_69 : decode cX12_judged 69 = .ok (.ifCond .ne 7, 3) := by decide +kernel
theorem dX12_judged_72 : decode cX12_judged 72 = .ok (.iconst (-1), 1) := by decide +kernel
theorem dX12_judged_73 : decode cX12_judged 73 = .ok (.goto 4, 3) := by decide +kernel
theorem dX12_judged_76 : decode cX12_judged 76 = .ok (.iconst 0, 1) := by decide +kernel
theorem dX12_judged_77 : decode cX12_judged 77 = .ok (.ireturn, 1) := by decide +kernel
theorem dX12_mends_0 : decode cX12_mends 0 = .ok (.iload_n 2, 1) := by decide +kernel
theorem dX12_mends_1 : decode cX12_mends 1 = .ok (.aload_n 0, 1) := by decide +kernel
theorem dX12_mends_2 : decode cX12_mends 2 = .ok (.getfield 459, 3) := by decide +kernel
theorem dX12_mends_5 : decode cX12_mends 5 = .ok (.if_icmp .lt 4, 3) := by decide +kernel
theorem dX12_mends_8 : decode cX12_mends 8 = .ok (.return_, 1) := by decide +kernel
theorem dX12_mends_9 : decode cX12_mends 9 = .ok (.iload_n 1, 1) := by decide +kernel
theorem dX12_mends_10 : decode cX12_mends 10 = .ok (.aload_n 0, 1) := by decide +kernel
theorem dX12_mends_11 : decode cX12_mends 11 = .ok (.getfield 153, 3) := by decide +kernel
theorem dX12_mends_14 : decode cX12_mends 14 = .ok (.if_icmp .ne 35, 3) := by decide +kernel
theorem dX12_mends_17 : decode cX12_mends 17 = .ok (.aload_n 0, 1) := by decide +kernel
theorem dX12_mends_18 : decode cX12_mends 18 = .ok (.iload_n 2, 1) := by decide +kernel
theorem dX12_mends_19 : decode cX12_mends 19 = .ok (.putfield 459, 3) := by decide +kernel
theorem dX12_mends_22 : decode cX12_mends 22 = .ok (.iconst 0, 1) := by decide +kernel
theorem dX12_mends_23 : decode cX12_mends 23 = .ok (.istore_n 3, 1) := by decide +kernel
theorem dX12_mends_24 : decode cX12_mends 24 = .ok (.iload_n 3, 1) := by decide +kernel
theorem dX12_mends_25 : decode cX12_mends 25 = .ok (.bipush 12, 2) := by decide +kernel
theorem dX12_mends_27 : decode cX12_mends 27 = .ok (.if_icmp .ge 21, 3) := by decide +kernel
theorem dX12_mends_30 : decode cX12_mends 30 = .ok (.aload_n 0, 1) := by decide +kernel
theorem dX12_mends_31 : decode cX12_mends 31 = .ok (.getfield 129, 3) := by decide +kernel
theorem dX12_mends_34 : decode cX12_mends 34 = .ok (.iload_n 3, 1) := by decide +kernel
theorem dX12_mends_35 : decode cX12_mends 35 = .ok (.aload_n 0, 1) := by decide +kernel
theorem dX12_mends_36 : decode cX12_mends 36 = .ok (.getfield 126, 3) := by decide +kernel
theorem dX12_mends_39 : decode cX12_mends 39 = .ok (.iload_n 3, 1) := by decide +kernel
theorem dX12_mends_40 : decode cX12_mends 40 = .ok (.iaload, 1) := by decide +kernel
theorem dX12_mends_41 : decode cX12_mends 41 = .ok (.iastore, 1) := by decide +kernel
theorem dX12_mends_42 : decode cX12_mends 42 = .ok (.iinc 3 1, 3) := by decide +kernel
theorem dX12_mends_45 : decode cX12_mends 45 = .ok (.goto (-21), 3) := by decide +kernel
theorem dX12_mends_48 : decode cX12_mends 48 = .ok (.return_, 1) := by decide +kernel
theorem dX12_mends_49 : decode cX12_mends 49 = .ok (.iconst 0, 1) := by decide +kernel
theorem dX12_mends_50 : decode cX12_mends 50 = .ok (.istore_n 3, 1) := by decide +kernel
theorem dX12_mends_51 : decode cX12_mends 51 = .ok (.iload_n 3, 1) := by decide +kernel
theorem dX12_mends_52 : decode cX12_mends 52 = .ok (.aload_n 0, 1) := by decide +kernel
theorem dX12_mends_53 : decode cX12_mends 53 = .ok (.getfield 364, 3) := by decide +kernel
theorem dX12_mends_56 : decode cX12_mends 56 = .ok (.if_icmp .ge 54, 3) := by decide +kernel
theorem dX12_mends_59 : decode cX12_mends 59 = .ok (.aload_n 0, 1) := by decide +kernel
theorem dX12_mends_60 : decode cX12_mends 60 = .ok (.iload_n 1, 1) := by decide +kernel
theorem dX12_mends_61 : decode cX12_mends 61 = .ok (.iload_n 3, 1) := by decide +kernel
theorem dX12_mends_62 : decode cX12_mends 62 = .ok (.iconst 1, 1) := by decide +kernel
theorem dX12_mends_63 : decode cX12_mends 63 = .ok (.iload_n 1, 1) := by decide +kernel
theorem dX12_mends_64 : decode cX12_mends 64 = .ok (.ishl, 1) := by decide +kernel
theorem dX12_mends_65 : decode cX12_mends 65 = .ok (.iconst 1, 1) := by decide +kernel
theorem dX12_mends_66 : decode cX12_mends 66 = .ok (.isub, 1) := by decide +kernel
theorem dX12_mends_67 : decode cX12_mends 67 = .ok (.iconst 0, 1) := by decide +kernel
theorem dX12_mends_68 : decode cX12_mends 68 = .ok (.invokevirtual 440, 3) := by decide +kernel
theorem dX12_mends_71 : decode cX12_mends 71 = .ok (.ifCond .ne 6, 3) := by decide +kernel
theorem dX12_mends_74 : decode cX12_mends 74 = .ok (.goto 30, 3) := by decide +kernel
theorem dX12_mends_77 : decode cX12_mends 77 = .ok (.aload_n 0, 1) := by decide +kernel
theorem dX12_mends_78 : decode cX12_mends 78 = .ok (.getfield 126, 3) := by decide +kernel
theorem dX12_mends_81 : decode cX12_mends 81 = .ok (.iload_n 1, 1) := by decide +kernel
theorem dX12_mends_82 : decode cX12_mends 82 = .ok (.iload_n 3, 1) := by decide +kernel
theorem dX12_mends_83 : decode cX12_mends 83 = .ok (.iastore, 1) := by decide +kernel
theorem dX12_mends_84 : decode cX12_mends 84 = .ok (.aload_n 0, 1) := by decide +kernel
theorem dX12_mends_85 : decode cX12_mends 85 = .ok (.iload_n 1, 1) := by decide +kernel
theorem dX12_mends_86 : decode cX12_mends 86 = .ok (.iconst 1, 1) := by decide +kernel
theorem dX12_mends_87 : decode cX12_mends 87 = .ok (.iadd, 1) := by decide +kernel
theorem dX12_mends_88 : decode cX12_mends 88 = .ok (.iload_n 2, 1) := by decide +kernel
theorem dX12_mends_89 : decode cX12_mends 89 = .ok (.aload_n 0, 1) := by decide +kernel
theorem dX12_mends_90 : decode cX12_mends 90 = .ok (.getfield 141, 3) := by decide +kernel
theorem dX12_mends_93 : decode cX12_mends 93 = .ok (.bipush 12, 2) := by decide +kernel
theorem dX12_mends_95 : decode cX12_mends 95 = .ok (.iload_n 1, 1) := by decide +kernel
theorem dX12_mends_96 : decode cX12_mends 96 = .ok (.imul, 1) := by decide +kernel
theorem dX12_mends_97 : decode cX12_mends 97 = .ok (.iload_n 3, 1) := by decide +kernel
theorem dX12_mends_98 : decode cX12_mends 98 = .ok (.iadd, 1) := by decide +kernel
theorem dX12_mends_99 : decode cX12_mends 99 = .ok (.iaload, 1) := by decide +kernel
theorem dX12_mends_100 : decode cX12_mends 100 = .ok (.iadd, 1) := by decide +kernel
theorem dX12_mends_101 : decode cX12_mends 101 = .ok (.invokevirtual 462, 3) := by decide +kernel
theorem dX12_mends_104 : decode cX12_mends 104 = .ok (.iinc 3 1, 3) := by decide +kernel
theorem dX12_mends_107 : decode cX12_mends 107 = .ok (.goto (-56), 3) := by decide +kernel
theorem dX12_mends_110 : decode cX12_mends 110 = .ok (.return_, 1) := by decide +kernel
theorem dX12_hasMended_0 : decode cX12_hasMended 0 = .ok (.aload_n 0, 1) := by decide +kernel
theorem dX12_hasMended_1 : decode cX12_hasMended 1 = .ok (.getfield 153, 3) := by decide +kernel
theorem dX12_hasMended_4 : decode cX12_hasMended 4 = .ok (.bipush 7, 2) := by decide +kernel
theorem dX12_hasMended_6 : decode cX12_hasMended 6 = .ok (.if_icmp .le 5, 3) := by decide +kernel
theorem dX12_hasMended_9 : decode cX12_hasMended 9 = .ok (.iconst 0, 1) := by decide +kernel
theorem dX12_hasMended_10 : decode cX12_hasMended 10 = .ok (.ireturn, 1) := by decide +kernel
theorem dX12_hasMended_11 : decode cX12_hasMended 11 = .ok (.aload_n 0, 1) := by decide +kernel
theorem dX12_hasMended_12 : decode cX12_hasMended 12 = .ok (.invokevirtual 423, 3) := by decide +kernel
theorem dX12_hasMended_15 : decode cX12_hasMended 15 = .ok (.iconst 0, 1) := by decide +kernel
theorem dX12_hasMended_16 : decode cX12_hasMended 16 = .ok (.istore_n 1, 1) := by decide +kernel
theorem dX12_hasMended_17 : decode cX12_hasMended 17 = .ok (.iload_n 1, 1) := by decide +kernel
theorem dX12_hasMended_18 : decode cX12_hasMended 18 = .ok (.sipush 144, 3) := by decide +kernel
theorem dX12_hasMended_21 : decode cX12_hasMended 21 = .ok (.if_icmp .ge 16, 3) := by decide +kernel
theorem dX12_hasMended_24 : decode cX12_hasMended 24 = .ok (.aload_n 0, 1) := by decide +kernel
theorem dX12_hasMended_25 : decode cX12_hasMended 25 = .ok (.getfield 141, 3) := by decide +kernel
theorem dX12_hasMended_28 : decode cX12_hasMended 28 = .ok (.iload_n 1, 1) := by decide +kernel
theorem dX12_hasMended_29 : decode cX12_hasMended 29 = .ok (.iconst 0, 1) := by decide +kernel
theorem dX12_hasMended_30 : decode cX12_hasMended 30 = .ok (.iastore, 1) := by decide +kernel
theorem dX12_hasMended_31 : decode cX12_hasMended 31 = .ok (.iinc 1 1, 3) := by decide +kernel
theorem dX12_hasMended_34 : decode cX12_hasMended 34 = .ok (.goto (-17), 3) := by decide +kernel
theorem dX12_hasMended_37 : decode cX12_hasMended 37 = .ok (.iconst 0, 1) := by decide +kernel
theorem dX12_hasMended_38 : decode cX12_hasMended 38 = .ok (.istore_n 1, 1) := by decide +kernel
theorem dX12_hasMended_39 : decode cX12_hasMended 39 = .ok (.iload_n 1, 1) := by decide +kernel
theorem dX12_hasMended_40 : decode cX12_hasMended 40 = .ok (.aload_n 0, 1) := by decide +kernel
theorem dX12_hasMended_41 : decode cX12_hasMended 41 = .ok (.getfield 372, 3) := by decide +kernel
theorem dX12_hasMended_44 : decode cX12_hasMended 44 = .ok (.if_icmp .ge 72, 3) := by decide +kernel
theorem dX12_hasMended_47 : decode cX12_hasMended 47 = .ok (.aload_n 0, 1) := by decide +kernel
theorem dX12_hasMended_48 : decode cX12_hasMended 48 = .ok (.iload_n 1, 1) := by decide +kernel
theorem dX12_hasMended_49 : decode cX12_hasMended 49 = .ok (.aload_n 0, 1) := by decide +kernel
theorem dX12_hasMended_50 : decode cX12_hasMended 50 = .ok (.getfield 153, 3) := by decide +kernel
theorem dX12_hasMended_53 : decode cX12_hasMended 53 = .ok (.idiv, 1) := by decide +kernel
theorem dX12_hasMended_54 : decode cX12_hasMended 54 = .ok (.i2l, 1) := by decide +kernel
theorem dX12_hasMended_55 : decode cX12_hasMended 55 = .ok (.iload_n 1, 1) := by decide +kernel
theorem dX12_hasMended_56 : decode cX12_hasMended 56 = .ok (.aload_n 0, 1) := by decide +kernel
theorem dX12_hasMended_57 : decode cX12_hasMended 57 = .ok (.getfield 153, 3) := by decide +kernel
theorem dX12_hasMended_60 : decode cX12_hasMended 60 = .ok (.irem, 1) := by decide +kernel
theorem dX12_hasMended_61 : decode cX12_hasMended 61 = .ok (.invokevirtual 389, 3) := by decide +kernel
theorem dX12_hasMended_64 : decode cX12_hasMended 64 = .ok (.istore_n 2, 1) := by decide +kernel
theorem dX12_hasMended_65 : decode cX12_hasMended 65 = .ok (.iconst 0, 1) := by decide +kernel
theorem dX12_hasMended_66 : decode cX12_hasMended 66 = .ok (.istore_n 3, 1) := by decide +kernel
theorem dX12_hasMended_67 : decode cX12_hasMended 67 = .ok (.iload_n 3, 1) := by decide +kernel
theorem dX12_hasMended_68 : decode cX12_hasMended 68 = .ok (.aload_n 0, 1) := by decide +kernel
theorem dX12_hasMended_69 : decode cX12_hasMended 69 = .ok (.getfield 364, 3) := by decide +kernel
theorem dX12_hasMended_72 : decode cX12_hasMended 72 = .ok (.if_icmp .ge 38, 3) := by decide +kernel
theorem dX12_hasMended_75 : decode cX12_hasMended 75 = .ok (.aload_n 0, 1) := by decide +kernel
theorem dX12_hasMended_76 : decode cX12_hasMended 76 = .ok (.getfield 141, 3) := by decide +kernel
theorem dX12_hasMended_79 : decode cX12_hasMended 79 = .ok (.bipush 12, 2) := by decide +kernel
theorem dX12_hasMended_81 : decode cX12_hasMended 81 = .ok (.iload_n 2, 1) := by decide +kernel
theorem dX12_hasMended_82 : decode cX12_hasMended 82 = .ok (.imul, 1) := by decide +kernel
theorem dX12_hasMended_83 : decode cX12_hasMended 83 = .ok (.iload_n 3, 1) := by decide +kernel
theorem dX12_hasMended_84 : decode cX12_hasMended 84 = .ok (.iadd, 1) := by decide +kernel
theorem dX12_hasMended_85 : decode cX12_hasMended 85 = .ok (.dup2, 1) := by decide +kernel
theorem dX12_hasMended_86 : decode cX12_hasMended 86 = .ok (.iaload, 1) := by decide +kernel
theorem dX12_hasMended_87 : decode cX12_hasMended 87 = .ok (.iload_n 3, 1) := by decide +kernel
theorem dX12_hasMended_88 : decode cX12_hasMended 88 = .ok (.aload_n 0, 1) := by decide +kernel
theorem dX12_hasMended_89 : decode cX12_hasMended 89 = .ok (.getfield 132, 3) := by decide +kernel
theorem dX12_hasMended_92 : decode cX12_hasMended 92 = .ok (.iload_n 1, 1) := by decide +kernel
theorem dX12_hasMended_93 : decode cX12_hasMended 93 = .ok (.iaload, 1) := by decide +kernel
theorem dX12_hasMended_94 : decode cX12_hasMended 94 = .ok (.if_icmp .ne 7, 3) := by decide +kernel
theorem dX12_hasMended_97 : decode cX12_hasMended 97 = .ok (.iconst 0, 1) := by decide +kernel
theorem dX12_hasMended_98 : decode cX12_hasMended 98 = .ok (.goto 4, 3) := by decide +kernel
theorem dX12_hasMended_101 : decode cX12_hasMended 101 = .ok (.iconst 1, 1) := by decide +kernel
theorem dX12_hasMended_102 : decode cX12_hasMended 102 = .ok (.iadd, 1) := by decide +kernel
theorem dX12_hasMended_103 : decode cX12_hasMended 103 = .ok (.iastore, 1) := by decide +kernel
theorem dX12_hasMended_104 : decode cX12_hasMended 104 = .ok (.iinc 3 1, 3) := by decide +kernel
theorem dX12_hasMended_107 : decode cX12_hasMended 107 = .ok (.goto (-40), 3) := by decide +kernel
theorem dX12_hasMended_110 : decode cX12_hasMended 110 = .ok (.iinc 1 1, 3) := by decide +kernel
theorem dX12_hasMended_113 : decode cX12_hasMended 113 = .ok (.goto (-74), 3) := by decide +kernel
theorem dX12_hasMended_116 : decode cX12_hasMended 116 = .ok (.aload_n 0, 1) := by decide +kernel
theorem dX12_hasMended_117 : decode cX12_hasMended 117 = .ok (.sipush 1000, 3) := by decide +kernel
theorem dX12_hasMended_120 : decode cX12_hasMended 120 = .ok (.putfield 459, 3) := by decide +kernel
theorem dX12_hasMended_123 : decode cX12_hasMended 123 = .ok (.aload_n 0, 1) := by decide +kernel
theorem dX12_hasMended_124 : decode cX12_hasMended 124 = .ok (.iconst 0, 1) := by decide +kernel
theorem dX12_hasMended_125 : decode cX12_hasMended 125 = .ok (.iconst 0, 1) := by decide +kernel
theorem dX12_hasMended_126 : decode cX12_hasMended 126 = .ok (.invokevirtual 462, 3) := by decide +kernel
theorem dX12_hasMended_129 : decode cX12_hasMended 129 = .ok (.aload_n 0, 1) := by decide +kernel
theorem dX12_hasMended_130 : decode cX12_hasMended 130 = .ok (.getfield 459, 3) := by decide +kernel
theorem dX12_hasMended_133 : decode cX12_hasMended 133 = .ok (.sipush 1000, 3) := by decide +kernel
theorem dX12_hasMended_136 : decode cX12_hasMended 136 = .ok (.if_icmp .ge 7, 3) := by decide +kernel
theorem dX12_hasMended_139 : decode cX12_hasMended 139 = .ok (.iconst 1, 1) := by decide +kernel
theorem dX12_hasMended_140 : decode cX12_hasMended 140 = .ok (.goto 4, 3) := by decide +kernel
theorem dX12_hasMended_143 : decode cX12_hasMended 143 = .ok (.iconst 0, 1) := by decide +kernel
theorem dX12_hasMended_144 : decode cX12_hasMended 144 = .ok (.ireturn, 1) := by decide +kernel
theorem dX12_mend_0 : decode cX12_mend 0 = .ok (.aload_n 0, 1) := by decide +kernel
theorem dX12_mend_1 : decode cX12_mend 1 = .ok (.iconst 0, 1) := by decide +kernel
theorem dX12_mend_2 : decode cX12_mend 2 = .ok (.putfield 157, 3) := by decide +kernel
theorem dX12_mend_5 : decode cX12_mend 5 = .ok (.aload_n 0, 1) := by decide +kernel
theorem dX12_mend_6 : decode cX12_mend 6 = .ok (.invokevirtual 465, 3) := by decide +kernel
theorem dX12_mend_9 : decode cX12_mend 9 = .ok (.ifCond .eq 10, 3) := by decide +kernel
theorem dX12_mend_12 : decode cX12_mend 12 = .ok (.aload_n 0, 1) := by decide +kernel
theorem dX12_mend_13 : decode cX12_mend 13 = .ok (.getfield 459, 3) := by decide +kernel
theorem dX12_mend_16 : decode cX12_mend 16 = .ok (.goto 4, 3) := by decide +kernel
theorem dX12_mend_19 : decode cX12_mend 19 = .ok (.iconst (-1), 1) := by decide +kernel
theorem dX12_mend_20 : decode cX12_mend 20 = .ok (.ireturn, 1) := by decide +kernel
theorem dX12_mended_0 : decode cX12_mended 0 = .ok (.aload_n 0, 1) := by decide +kernel
theorem dX12_mended_1 : decode cX12_mended 1 = .ok (.iconst 0, 1) := by decide +kernel
theorem dX12_mended_2 : decode cX12_mended 2 = .ok (.putfield 157, 3) := by decide +kernel
theorem dX12_mended_5 : decode cX12_mended 5 = .ok (.aload_n 0, 1) := by decide +kernel
theorem dX12_mended_6 : decode cX12_mended 6 = .ok (.iload_n 1, 1) := by decide +kernel
theorem dX12_mended_7 : decode cX12_mended 7 = .ok (.invokevirtual 378, 3) := by decide +kernel
theorem dX12_mended_10 : decode cX12_mended 10 = .ok (.ifCond .eq 19, 3) := by decide +kernel
theorem dX12_mended_13 : decode cX12_mended 13 = .ok (.aload_n 0, 1) := by decide +kernel
theorem dX12_mended_14 : decode cX12_mended 14 = .ok (.invokevirtual 465, 3) := by decide +kernel
theorem dX12_mended_17 : decode cX12_mended 17 = .ok (.ifCond .eq 12, 3) := by decide +kernel
theorem dX12_mended_20 : decode cX12_mended 20 = .ok (.aload_n 0, 1) := by decide +kernel
theorem dX12_mended_21 : decode cX12_mended 21 = .ok (.getfield 129, 3) := by decide +kernel
theorem dX12_mended_24 : decode cX12_mended 24 = .ok (.iload_n 1, 1) := by decide +kernel
theorem dX12_mended_25 : decode cX12_mended 25 = .ok (.iaload, 1) := by decide +kernel
theorem dX12_mended_26 : decode cX12_mended 26 = .ok (.goto 4, 3) := by decide +kernel
theorem dX12_mended_29 : decode cX12_mended 29 = .ok (.iconst (-1), 1) := by decide +kernel
theorem dX12_mended_30 : decode cX12_mended 30 = .ok (.ireturn, 1) := by decide +kernel
theorem dX12_keeps_0 : decode cX12_keeps 0 = .ok (.aload_n 0, 1) := by decide +kernel
theorem dX12_keeps_1 : decode cX12_keeps 1 = .ok (.getfield 468, 3) := by decide +kernel
theorem dX12_keeps_4 : decode cX12_keeps 4 = .ok (.istore_n 3, 1) := by decide +kernel
theorem dX12_keeps_5 : decode cX12_keeps 5 = .ok (.aload_n 0, 1) := by decide +kernel
theorem dX12_keeps_6 : decode cX12_keeps 6 = .ok (.dup, 1) := by decide +kernel
theorem dX12_keeps_7 : decode cX12_keeps 7 = .ok (.getfield 468, 3) := by decide +kernel
theorem dX12_keeps_10 : decode cX12_keeps 10 = .ok (.iconst 1, 1) := by decide +kernel
theorem dX12_keeps_11 : decode cX12_keeps 11 = .ok (.iadd, 1) := by decide +kernel
theorem dX12_keeps_12 : decode cX12_keeps 12 = .ok (.putfield 468, 3) := by decide +kernel
theorem dX12_keeps_15 : decode cX12_keeps 15 = .ok (.iload_n 2, 1) := by decide +kernel
theorem dX12_keeps_16 : decode cX12_keeps 16 = .ok (.ifCond .eq 10, 3) := by decide +kernel
theorem dX12_keeps_19 : decode cX12_keeps 19 = .ok (.aload_n 0, 1) := by decide +kernel
theorem dX12_keeps_20 : decode cX12_keeps 20 = .ok (.getfield 147, 3) := by decide +kernel
theorem dX12_keeps_23 : decode cX12_keeps 23 = .ok (.iload_n 3, 1) := by decide +kernel
theorem dX12_keeps_24 : decode cX12_keeps 24 = .ok (.iaload, 1) := by decide +kernel
theorem dX12_keeps_25 : decode cX12_keeps 25 = .ok (.ireturn, 1) := by decide +kernel
theorem dX12_keeps_26 : decode cX12_keeps 26 = .ok (.aload_n 0, 1) := by decide +kernel
theorem dX12_keeps_27 : decode cX12_keeps 27 = .ok (.getfield 147, 3) := by decide +kernel
theorem dX12_keeps_30 : decode cX12_keeps 30 = .ok (.iload_n 3, 1) := by decide +kernel
theorem dX12_keeps_31 : decode cX12_keeps 31 = .ok (.iload_n 1, 1) := by decide +kernel
theorem dX12_keeps_32 : decode cX12_keeps 32 = .ok (.iastore, 1) := by decide +kernel
theorem dX12_keeps_33 : decode cX12_keeps 33 = .ok (.iload_n 1, 1) := by decide +kernel
theorem dX12_keeps_34 : decode cX12_keeps 34 = .ok (.ireturn, 1) := by decide +kernel
theorem dX12_keepsRow_0 : decode cX12_keepsRow 0 = .ok (.iconst 0, 1) := by decide +kernel
theorem dX12_keepsRow_1 : decode cX12_keepsRow 1 = .ok (.istore 4, 2) := by decide +kernel
theorem dX12_keepsRow_3 : decode cX12_keepsRow 3 = .ok (.iload 4, 2) := by decide +kernel
theorem dX12_keepsRow_5 : decode cX12_keepsRow 5 = .ok (.iload_n 2, 1) := by decide +kernel
theorem dX12_keepsRow_6 : decode cX12_keepsRow 6 = .ok (.if_icmp .ge 22, 3) := by decide +kernel
theorem dX12_keepsRow_9 : decode cX12_keepsRow 9 = .ok (.aload_n 1, 1) := by decide +kernel
theorem dX12_keepsRow_10 : decode cX12_keepsRow 10 = .ok (.iload 4, 2) := by decide +kernel
theorem dX12_keepsRow_12 : decode cX12_keepsRow 12 = .ok (.aload_n 0, 1) := by decide +kernel
theorem dX12_keepsRow_13 : decode cX12_keepsRow 13 = .ok (.aload_n 1, 1) := by decide +kernel
theorem dX12_keepsRow_14 : decode cX12_keepsRow 14 = .ok (.iload 4, 2) := by decide +kernel
theorem dX12_keepsRow_16 : decode cX12_keepsRow 16 = .ok (.iaload, 1) := by decide +kernel
theorem dX12_keepsRow_17 : decode cX12_keepsRow 17 = .ok (.iload_n 3, 1) := by decide +kernel
theorem dX12_keepsRow_18 : decode cX12_keepsRow 18 = .ok (.invokevirtual 471, 3) := by decide +kernel
theorem dX12_keepsRow_21 : decode cX12_keepsRow 21 = .ok (.iastore, 1) := by decide +kernel
theorem dX12_keepsRow_22 : decode cX12_keepsRow 22 = .ok (.iinc 4 1, 3) := by decide +kernel
theorem dX12_keepsRow_25 : decode cX12_keepsRow 25 = .ok (.goto (-22), 3) := by decide +kernel
theorem dX12_keepsRow_28 : decode cX12_keepsRow 28 = .ok (.return_, 1) := by decide +kernel
theorem dX12_mark_0 : decode cX12_mark 0 = .ok (.aload_n 0, 1) := by decide +kernel
theorem dX12_mark_1 : decode cX12_mark 1 = .ok (.iconst 0, 1) := by decide +kernel
theorem dX12_mark_2 : decode cX12_mark 2 = .ok (.putfield 157, 3) := by decide +kernel
theorem dX12_mark_5 : decode cX12_mark 5 = .ok (.iload_n 1, 1) := by decide +kernel
theorem dX12_mark_6 : decode cX12_mark 6 = .ok (.iconst 0, 1) := by decide +kernel
theorem dX12_mark_7 : decode cX12_mark 7 = .ok (.iconst 3, 1) := by decide +kernel
theorem dX12_mark_8 : decode cX12_mark 8 = .ok (.invokestatic 277, 3) := by decide +kernel
theorem dX12_mark_11 : decode cX12_mark 11 = .ok (.ifCond .eq 16, 3) := by decide +kernel
theorem dX12_mark_14 : decode cX12_mark 14 = .ok (.iload_n 2, 1) := by decide +kernel
theorem dX12_mark_15 : decode cX12_mark 15 = .ok (.ifCond .eq 14, 3) := by decide +kernel
theorem dX12_mark_18 : decode cX12_mark 18 = .ok (.aload_n 0, 1) := by decide +kernel
theorem dX12_mark_19 : decode cX12_mark 19 = .ok (.getfield 144, 3) := by decide +kernel
theorem dX12_mark_22 : decode cX12_mark 22 = .ok (.iload_n 1, 1) := by decide +kernel
theorem dX12_mark_23 : decode cX12_mark 23 = .ok (.baload, 1) := by decide +kernel
theorem dX12_mark_24 : decode cX12_mark 24 = .ok (.ifCond .ne 5, 3) := by decide +kernel
theorem dX12_mark_27 : decode cX12_mark 27 = .ok (.iconst 0, 1) := by decide +kernel
theorem dX12_mark_28 : decode cX12_mark 28 = .ok (.ireturn, 1) := by decide +kernel
theorem dX12_mark_29 : decode cX12_mark 29 = .ok (.aload_n 0, 1) := by decide +kernel
theorem dX12_mark_30 : decode cX12_mark 30 = .ok (.getfield 144, 3) := by decide +kernel
theorem dX12_mark_33 : decode cX12_mark 33 = .ok (.iload_n 1, 1) := by decide +kernel
theorem dX12_mark_34 : decode cX12_mark 34 = .ok (.iconst 1, 1) := by decide +kernel
theorem dX12_mark_35 : decode cX12_mark 35 = .ok (.bastore, 1) := by decide +kernel
theorem dX12_mark_36 : decode cX12_mark 36 = .ok (.aload_n 0, 1) := by decide +kernel
theorem dX12_mark_37 : decode cX12_mark 37 = .ok (.sipush 500, 3) := by decide +kernel
theorem dX12_mark_40 : decode cX12_mark 40 = .ok (.iload_n 1, 1) := by decide +kernel
theorem dX12_mark_41 : decode cX12_mark 41 = .ok (.imul, 1) := by decide +kernel
theorem dX12_mark_42 : decode cX12_mark 42 = .ok (.putfield 468, 3) := by decide +kernel
theorem dX12_mark_45 : decode cX12_mark 45 = .ok (.aload_n 0, 1) := by decide +kernel
theorem dX12_mark_46 : decode cX12_mark 46 = .ok (.aload_n 0, 1) := by decide +kernel
theorem dX12_mark_47 : decode cX12_mark 47 = .ok (.aload_n 0, 1) := by decide +kernel
theorem dX12_mark_48 : decode cX12_mark 48 = .ok (.getfield 153, 3) := by decide +kernel
theorem dX12_mark_51 : decode cX12_mark 51 = .ok (.iload_n 2, 1) := by decide +kernel
theorem dX12_mark_52 : decode cX12_mark 52 = .ok (.invokevirtual 471, 3) := by decide +kernel
theorem dX12_mark_55 : decode cX12_mark 55 = .ok (.putfield 153, 3) := by decide +kernel
theorem dX12_mark_58 : decode cX12_mark 58 = .ok (.aload_n 0, 1) := by decide +kernel
theorem dX12_mark_59 : decode cX12_mark 59 = .ok (.aload_n 0, 1) := by decide +kernel
theorem dX12_mark_60 : decode cX12_mark 60 = .ok (.aload_n 0, 1) := by decide +kernel
theorem dX12_mark_61 : decode cX12_mark 61 = .ok (.getfield 355, 3) := by decide +kernel
theorem dX12_mark_64 : decode cX12_mark 64 = .ok (.iload_n 2, 1) := by decide +kernel
theorem dX12_mark_65 : decode cX12_mark 65 = .ok (.invokevirtual 471, 3) := by decide +kernel
theorem dX12_mark_68 : decode cX12_mark 68 = .ok (.putfield 355, 3) := by decide +kernel
theorem dX12_mark_71 : decode cX12_mark 71 = .ok (.aload_n 0, 1) := by decide +kernel
theorem dX12_mark_72 : decode cX12_mark 72 = .ok (.aload_n 0, 1) := by decide +kernel
theorem dX12_mark_73 : decode cX12_mark 73 = .ok (.getfield 13, 3) := by decide +kernel
theorem dX12_mark_76 : decode cX12_mark 76 = .ok (.bipush 12, 2) := by decide +kernel
theorem dX12_mark_78 : decode cX12_mark 78 = .ok (.iload_n 2, 1) := by decide +kernel
theorem dX12_mark_79 : decode cX12_mark 79 = .ok (.invokevirtual 475, 3) := by decide +kernel
theorem dX12_mark_82 : decode cX12_mark 82 = .ok (.aload_n 0, 1) := by decide +kernel
theorem dX12_mark_83 : decode cX12_mark 83 = .ok (.aload_n 0, 1) := by decide +kernel
theorem dX12_mark_84 : decode cX12_mark 84 = .ok (.getfield 22, 3) := by decide +kernel
theorem dX12_mark_87 : decode cX12_mark 87 = .ok (.bipush 12, 2) := by decide +kernel
theorem dX12_mark_89 : decode cX12_mark 89 = .ok (.iload_n 2, 1) := by decide +kernel
theorem dX12_mark_90 : decode cX12_mark 90 = .ok (.invokevirtual 475, 3) := by decide +kernel
theorem dX12_mark_93 : decode cX12_mark 93 = .ok (.aload_n 0, 1) := by decide +kernel
theorem dX12_mark_94 : decode cX12_mark 94 = .ok (.aload_n 0, 1) := by decide +kernel
theorem dX12_mark_95 : decode cX12_mark 95 = .ok (.getfield 16, 3) := by decide +kernel
theorem dX12_mark_98 : decode cX12_mark 98 = .ok (.bipush 8, 2) := by decide +kernel
theorem dX12_mark_100 : decode cX12_mark 100 = .ok (.iload_n 2, 1) := by decide +kernel
theorem dX12_mark_101 : decode cX12_mark 101 = .ok (.invokevirtual 475, 3) := by decide +kernel
theorem dX12_mark_104 : decode cX12_mark 104 = .ok (.aload_n 0, 1) := by decide +kernel
theorem dX12_mark_105 : decode cX12_mark 105 = .ok (.aload_n 0, 1) := by decide +kernel
theorem dX12_mark_106 : decode cX12_mark 106 = .ok (.getfield 19, 3) := by decide +kernel
theorem dX12_mark_109 : decode cX12_mark 109 = .ok (.bipush 8, 2) := by decide +kernel
theorem dX12_mark_111 : decode cX12_mark 111 = .ok (.iload_n 2, 1) := by decide +kernel
theorem dX12_mark_112 : decode cX12_mark 112 = .ok (.invokevirtual 475, 3) := by decide +kernel
theorem dX12_mark_115 : decode cX12_mark 115 = .ok (.aload_n 0, 1) := by decide +kernel
theorem dX12_mark_116 : decode cX12_mark 116 = .ok (.aload_n 0, 1) := by decide +kernel
theorem dX12_mark_117 : decode cX12_mark 117 = .ok (.aload_n 0, 1) := by decide +kernel
theorem dX12_mark_118 : decode cX12_mark 118 = .ok (.getfield 352, 3) := by decide +kernel
theorem dX12_mark_121 : decode cX12_mark 121 = .ok (.iload_n 2, 1) := by decide +kernel
theorem dX12_mark_122 : decode cX12_mark 122 = .ok (.invokevirtual 471, 3) := by decide +kernel
theorem dX12_mark_125 : decode cX12_mark 125 = .ok (.putfield 352, 3) := by decide +kernel
theorem dX12_mark_128 : decode cX12_mark 128 = .ok (.aload_n 0, 1) := by decide +kernel
theorem dX12_mark_129 : decode cX12_mark 129 = .ok (.aload_n 0, 1) := by decide +kernel
theorem dX12_mark_130 : decode cX12_mark 130 = .ok (.aload_n 0, 1) := by decide +kernel
theorem dX12_mark_131 : decode cX12_mark 131 = .ok (.getfield 358, 3) := by decide +kernel
theorem dX12_mark_134 : decode cX12_mark 134 = .ok (.iload_n 2, 1) := by decide +kernel
theorem dX12_mark_135 : decode cX12_mark 135 = .ok (.invokevirtual 471, 3) := by decide +kernel
theorem dX12_mark_138 : decode cX12_mark 138 = .ok (.putfield 358, 3) := by decide +kernel
theorem dX12_mark_141 : decode cX12_mark 141 = .ok (.aload_n 0, 1) := by decide +kernel
theorem dX12_mark_142 : decode cX12_mark 142 = .ok (.aload_n 0, 1) := by decide +kernel
theorem dX12_mark_143 : decode cX12_mark 143 = .ok (.aload_n 0, 1) := by decide +kernel
theorem dX12_mark_144 : decode cX12_mark 144 = .ok (.getfield 361, 3) := by decide +kernel
theorem dX12_mark_147 : decode cX12_mark 147 = .ok (.iload_n 2, 1) := by decide +kernel
theorem dX12_mark_148 : decode cX12_mark 148 = .ok (.invokevirtual 471, 3) := by decide +kernel
theorem dX12_mark_151 : decode cX12_mark 151 = .ok (.putfield 361, 3) := by decide +kernel
theorem dX12_mark_154 : decode cX12_mark 154 = .ok (.aload_n 0, 1) := by decide +kernel
theorem dX12_mark_155 : decode cX12_mark 155 = .ok (.aload_n 0, 1) := by decide +kernel
theorem dX12_mark_156 : decode cX12_mark 156 = .ok (.aload_n 0, 1) := by decide +kernel
theorem dX12_mark_157 : decode cX12_mark 157 = .ok (.getfield 364, 3) := by decide +kernel
theorem dX12_mark_160 : decode cX12_mark 160 = .ok (.iload_n 2, 1) := by decide +kernel
theorem dX12_mark_161 : decode cX12_mark 161 = .ok (.invokevirtual 471, 3) := by decide +kernel
theorem dX12_mark_164 : decode cX12_mark 164 = .ok (.putfield 364, 3) := by decide +kernel
theorem dX12_mark_167 : decode cX12_mark 167 = .ok (.aload_n 0, 1) := by decide +kernel
theorem dX12_mark_168 : decode cX12_mark 168 = .ok (.aload_n 0, 1) := by decide +kernel
theorem dX12_mark_169 : decode cX12_mark 169 = .ok (.aload_n 0, 1) := by decide +kernel
theorem dX12_mark_170 : decode cX12_mark 170 = .ok (.getfield 367, 3) := by decide +kernel
theorem dX12_mark_173 : decode cX12_mark 173 = .ok (.iload_n 2, 1) := by decide +kernel
theorem dX12_mark_174 : decode cX12_mark 174 = .ok (.invokevirtual 471, 3) := by decide +kernel
theorem dX12_mark_177 : decode cX12_mark 177 = .ok (.putfield 367, 3) := by decide +kernel
theorem dX12_mark_180 : decode cX12_mark 180 = .ok (.aload_n 0, 1) := by decide +kernel
theorem dX12_mark_181 : decode cX12_mark 181 = .ok (.aload_n 0, 1) := by decide +kernel
theorem dX12_mark_182 : decode cX12_mark 182 = .ok (.aload_n 0, 1) := by decide +kernel
theorem dX12_mark_183 : decode cX12_mark 183 = .ok (.getfield 372, 3) := by decide +kernel
theorem dX12_mark_186 : decode cX12_mark 186 = .ok (.iload_n 2, 1) := by decide +kernel
theorem dX12_mark_187 : decode cX12_mark 187 = .ok (.invokevirtual 471, 3) := by decide +kernel
theorem dX12_mark_190 : decode cX12_mark 190 = .ok (.putfield 372, 3) := by decide +kernel
theorem dX12_mark_193 : decode cX12_mark 193 = .ok (.aload_n 0, 1) := by decide +kernel
theorem dX12_mark_194 : decode cX12_mark 194 = .ok (.aload_n 0, 1) := by decide +kernel
theorem dX12_mark_195 : decode cX12_mark 195 = .ok (.getfield 25, 3) := by decide +kernel
theorem dX12_mark_198 : decode cX12_mark 198 = .ok (.bipush 12, 2) := by decide +kernel
theorem dX12_mark_200 : decode cX12_mark 200 = .ok (.iload_n 2, 1) := by decide +kernel
theorem dX12_mark_201 : decode cX12_mark 201 = .ok (.invokevirtual 475, 3) := by decide +kernel
theorem dX12_mark_204 : decode cX12_mark 204 = .ok (.aload_n 0, 1) := by decide +kernel
theorem dX12_mark_205 : decode cX12_mark 205 = .ok (.aload_n 0, 1) := by decide +kernel
theorem dX12_mark_206 : decode cX12_mark 206 = .ok (.getfield 28, 3) := by decide +kernel
theorem dX12_mark_209 : decode cX12_mark 209 = .ok (.bipush 12, 2) := by decide +kernel
theorem dX12_mark_211 : decode cX12_mark 211 = .ok (.iload_n 2, 1) := by decide +kernel
theorem dX12_mark_212 : decode cX12_mark 212 = .ok (.invokevirtual 475, 3) := by decide +kernel
theorem dX12_mark_215 : decode cX12_mark 215 = .ok (.aload_n 0, 1) := by decide +kernel
theorem dX12_mark_216 : decode cX12_mark 216 = .ok (.aload_n 0, 1) := by decide +kernel
theorem dX12_mark_217 : decode cX12_mark 217 = .ok (.getfield 31, 3) := by decide +kernel
theorem dX12_mark_220 : decode cX12_mark 220 = .ok (.bipush 12, 2) := by decide +kernel
theorem dX12_mark_222 : decode cX12_mark 222 = .ok (.iload_n 2, 1) := by decide +kernel
theorem dX12_mark_223 : decode cX12_mark 223 = .ok (.invokevirtual 475, 3) := by decide +kernel
theorem dX12_mark_226 : decode cX12_mark 226 = .ok (.aload_n 0, 1) := by decide +kernel
theorem dX12_mark_227 : decode cX12_mark 227 = .ok (.aload_n 0, 1) := by decide +kernel
theorem dX12_mark_228 : decode cX12_mark 228 = .ok (.getfield 132, 3) := by decide +kernel
theorem dX12_mark_231 : decode cX12_mark 231 = .ok (.bipush 60, 2) := by decide +kernel
theorem dX12_mark_233 : decode cX12_mark 233 = .ok (.iload_n 2, 1) := by decide +kernel
theorem dX12_mark_234 : decode cX12_mark 234 = .ok (.invokevirtual 475, 3) := by decide +kernel
theorem dX12_mark_237 : decode cX12_mark 237 = .ok (.aload_n 0, 1) := by decide +kernel
theorem dX12_mark_238 : decode cX12_mark 238 = .ok (.aload_n 0, 1) := by decide +kernel
theorem dX12_mark_239 : decode cX12_mark 239 = .ok (.getfield 135, 3) := by decide +kernel
theorem dX12_mark_242 : decode cX12_mark 242 = .ok (.bipush 60, 2) := by decide +kernel
theorem dX12_mark_244 : decode cX12_mark 244 = .ok (.iload_n 2, 1) := by decide +kernel
theorem dX12_mark_245 : decode cX12_mark 245 = .ok (.invokevirtual 475, 3) := by decide +kernel
theorem dX12_mark_248 : decode cX12_mark 248 = .ok (.aload_n 0, 1) := by decide +kernel
theorem dX12_mark_249 : decode cX12_mark 249 = .ok (.aload_n 0, 1) := by decide +kernel
theorem dX12_mark_250 : decode cX12_mark 250 = .ok (.getfield 138, 3) := by decide +kernel
theorem dX12_mark_253 : decode cX12_mark 253 = .ok (.bipush 60, 2) := by decide +kernel
theorem dX12_mark_255 : decode cX12_mark 255 = .ok (.iload_n 2, 1) := by decide +kernel
theorem dX12_mark_256 : decode cX12_mark 256 = .ok (.invokevirtual 475, 3) := by decide +kernel
theorem dX12_mark_259 : decode cX12_mark 259 = .ok (.iconst 0, 1) := by decide +kernel
theorem dX12_mark_260 : decode cX12_mark 260 = .ok (.istore_n 3, 1) := by decide +kernel
theorem dX12_mark_261 : decode cX12_mark 261 = .ok (.iload_n 3, 1) := by decide +kernel
theorem dX12_mark_262 : decode cX12_mark 262 = .ok (.sipush 144, 3) := by decide +kernel
theorem dX12_mark_265 : decode cX12_mark 265 = .ok (.if_icmp .ge 43, 3) := by decide +kernel
theorem dX12_mark_268 : decode cX12_mark 268 = .ok (.aload_n 0, 1) := by decide +kernel
theorem dX12_mark_269 : decode cX12_mark 269 = .ok (.getfield 34, 3) := by decide +kernel
theorem dX12_mark_272 : decode cX12_mark 272 = .ok (.iload_n 3, 1) := by decide +kernel
theorem dX12_mark_273 : decode cX12_mark 273 = .ok (.aload_n 0, 1) := by decide +kernel
theorem dX12_mark_274 : decode cX12_mark 274 = .ok (.aload_n 0, 1) := by decide +kernel
theorem dX12_mark_275 : decode cX12_mark 275 = .ok (.getfield 34, 3) := by decide +kernel
theorem dX12_mark_278 : decode cX12_mark 278 = .ok (.iload_n 3, 1) := by decide +kernel
theorem dX12_mark_279 : decode cX12_mark 279 = .ok (.baload, 1) := by decide +kernel
theorem dX12_mark_280 : decode cX12_mark 280 = .ok (.ifCond .eq 7, 3) := by decide +kernel
theorem dX12_mark_283 : decode cX12_mark 283 = .ok (.iconst 1, 1) := by decide +kernel
theorem dX12_mark_284 : decode cX12_mark 284 = .ok (.goto 4, 3) := by decide +kernel
theorem dX12_mark_287 : decode cX12_mark 287 = .ok (.iconst 0, 1) := by decide +kernel
theorem dX12_mark_288 : decode cX12_mark 288 = .ok (.iload_n 2, 1) := by decide +kernel
theorem dX12_mark_289 : decode cX12_mark 289 = .ok (.invokevirtual 471, 3) := by decide +kernel
theorem dX12_mark_292 : decode cX12_mark 292 = .ok (.iconst 1, 1) := by decide +kernel
theorem dX12_mark_293 : decode cX12_mark 293 = .ok (.if_icmp .ne 7, 3) := by decide +kernel
theorem dX12_mark_296 : decode cX12_mark 296 = .ok (.iconst 1, 1) := by decide +kernel
theorem dX12_mark_297 : decode cX12_mark 297 = .ok (.goto 4, 3) := by decide +kernel
theorem dX12_mark_300 : decode cX12_mark 300 = .ok (.iconst 0, 1) := by decide +kernel
theorem dX12_mark_301 : decode cX12_mark 301 = .ok (.bastore, 1) := by decide +kernel
theorem dX12_mark_302 : decode cX12_mark 302 = .ok (.iinc 3 1, 3) := by decide +kernel
theorem dX12_mark_305 : decode cX12_mark 305 = .ok (.goto (-44), 3) := by decide +kernel
theorem dX12_mark_308 : decode cX12_mark 308 = .ok (.iconst 1, 1) := by decide +kernel
theorem dX12_mark_309 : decode cX12_mark 309 = .ok (.ireturn, 1) := by decide +kernel
theorem dX12_isPair_0 : decode cX12_isPair 0 = .ok (.iconst 0, 1) := by decide +kernel
theorem dX12_isPair_1 : decode cX12_isPair 1 = .ok (.istore_n 3, 1) := by decide +kernel
theorem dX12_isPair_2 : decode cX12_isPair 2 = .ok (.iload_n 3, 1) := by decide +kernel
theorem dX12_isPair_3 : decode cX12_isPair 3 = .ok (.aload_n 0, 1) := by decide +kernel
theorem dX12_isPair_4 : decode cX12_isPair 4 = .ok (.getfield 355, 3) := by decide +kernel
theorem dX12_isPair_7 : decode cX12_isPair 7 = .ok (.if_icmp .ge 51, 3) := by decide +kernel
theorem dX12_isPair_10 : decode cX12_isPair 10 = .ok (.aload_n 0, 1) := by decide +kernel
theorem dX12_isPair_11 : decode cX12_isPair 11 = .ok (.getfield 16, 3) := by decide +kernel
theorem dX12_isPair_14 : decode cX12_isPair 14 = .ok (.iload_n 3, 1) := by decide +kernel
theorem dX12_isPair_15 : decode cX12_isPair 15 = .ok (.iaload, 1) := by decide +kernel
theorem dX12_isPair_16 : decode cX12_isPair 16 = .ok (.iload_n 1, 1) := by decide +kernel
theorem dX12_isPair_17 : decode cX12_isPair 17 = .ok (.if_icmp .ne 13, 3) := by decide +kernel
theorem dX12_isPair_20 : decode cX12_isPair 20 = .ok (.aload_n 0, 1) := by decide +kernel
theorem dX12_isPair_21 : decode cX12_isPair 21 = .ok (.getfield 19, 3) := by decide +kernel
theorem dX12_isPair_24 : decode cX12_isPair 24 = .ok (.iload_n 3, 1) := by decide +kernel
theorem dX12_isPair_25 : decode cX12_isPair 25 = .ok (.iaload, 1) := by decide +kernel
theorem dX12_isPair_26 : decode cX12_isPair 26 = .ok (.iload_n 2, 1) := by decide +kernel
theorem dX12_isPair_27 : decode cX12_isPair 27 = .ok (.if_icmp .eq 23, 3) := by decide +kernel
theorem dX12_isPair_30 : decode cX12_isPair 30 = .ok (.aload_n 0, 1) := by decide +kernel
theorem dX12_isPair_31 : decode cX12_isPair 31 = .ok (.getfield 16, 3) := by decide +kernel
theorem dX12_isPair_34 : decode cX12_isPair 34 = .ok (.iload_n 3, 1) := by decide +kernel
theorem dX12_isPair_35 : decode cX12_isPair 35 = .ok (.iaload, 1) := by decide +kernel
theorem dX12_isPair_36 : decode cX12_isPair 36 = .ok (.iload_n 2, 1) := by decide +kernel
theorem dX12_isPair_37 : decode cX12_isPair 37 = .ok (.if_icmp .ne 15, 3) := by decide +kernel
theorem dX12_isPair_40 : decode cX12_isPair 40 = .ok (.aload_n 0, 1) := by decide +kernel
theorem dX12_isPair_41 : decode cX12_isPair 41 = .ok (.getfield 19, 3) := by decide +kernel
theorem dX12_isPair_44 : decode cX12_isPair 44 = .ok (.iload_n 3, 1) := by decide +kernel
theorem dX12_isPair_45 : decode cX12_isPair 45 = .ok (.iaload, 1) := by decide +kernel
theorem dX12_isPair_46 : decode cX12_isPair 46 = .ok (.iload_n 1, 1) := by decide +kernel
theorem dX12_isPair_47 : decode cX12_isPair 47 = .ok (.if_icmp .ne 5, 3) := by decide +kernel
theorem dX12_isPair_50 : decode cX12_isPair 50 = .ok (.iconst 1, 1) := by decide +kernel
theorem dX12_isPair_51 : decode cX12_isPair 51 = .ok (.ireturn, 1) := by decide +kernel
theorem dX12_isPair_52 : decode cX12_isPair 52 = .ok (.iinc 3 1, 3) := by decide +kernel
theorem dX12_isPair_55 : decode cX12_isPair 55 = .ok (.goto (-53), 3) := by decide +kernel
theorem dX12_isPair_58 : decode cX12_isPair 58 = .ok (.iconst 0, 1) := by decide +kernel
theorem dX12_isPair_59 : decode cX12_isPair 59 = .ok (.ireturn, 1) := by decide +kernel
theorem dX12_isPairOn_0 : decode cX12_isPairOn 0 = .ok (.iconst 0, 1) := by decide +kernel
theorem dX12_isPairOn_1 : decode cX12_isPairOn 1 = .ok (.istore 4, 2) := by decide +kernel
theorem dX12_isPairOn_3 : decode cX12_isPairOn 3 = .ok (.iload 4, 2) := by decide +kernel
theorem dX12_isPairOn_5 : decode cX12_isPairOn 5 = .ok (.aload_n 0, 1) := by decide +kernel
theorem dX12_isPairOn_6 : decode cX12_isPairOn 6 = .ok (.getfield 147, 3) := by decide +kernel
theorem dX12_isPairOn_9 : decode cX12_isPairOn 9 = .ok (.iload_n 1, 1) := by decide +kernel
theorem dX12_isPairOn_10 : decode cX12_isPairOn 10 = .ok (.iconst 1, 1) := by decide +kernel
theorem dX12_isPairOn_11 : decode cX12_isPairOn 11 = .ok (.iadd, 1) := by decide +kernel
theorem dX12_isPairOn_12 : decode cX12_isPairOn 12 = .ok (.iaload, 1) := by decide +kernel
theorem dX12_isPairOn_13 : decode cX12_isPairOn 13 = .ok (.if_icmp .ge 63, 3) := by decide +kernel
theorem dX12_isPairOn_16 : decode cX12_isPairOn 16 = .ok (.aload_n 0, 1) := by decide +kernel
theorem dX12_isPairOn_17 : decode cX12_isPairOn 17 = .ok (.getfield 147, 3) := by decide +kernel
theorem dX12_isPairOn_20 : decode cX12_isPairOn 20 = .ok (.iload_n 1, 1) := by decide +kernel
theorem dX12_isPairOn_21 : decode cX12_isPairOn 21 = .ok (.bipush 26, 2) := by decide +kernel
theorem dX12_isPairOn_23 : decode cX12_isPairOn 23 = .ok (.iadd, 1) := by decide +kernel
theorem dX12_isPairOn_24 : decode cX12_isPairOn 24 = .ok (.iload 4, 2) := by decide +kernel
theorem dX12_isPairOn_26 : decode cX12_isPairOn 26 = .ok (.iadd, 1) := by decide +kernel
theorem dX12_isPairOn_27 : decode cX12_isPairOn 27 = .ok (.iaload, 1) := by decide +kernel
theorem dX12_isPairOn_28 : decode cX12_isPairOn 28 = .ok (.istore 5, 2) := by decide +kernel
theorem dX12_isPairOn_30 : decode cX12_isPairOn 30 = .ok (.aload_n 0, 1) := by decide +kernel
theorem dX12_isPairOn_31 : decode cX12_isPairOn 31 = .ok (.getfield 147, 3) := by decide +kernel
theorem dX12_isPairOn_34 : decode cX12_isPairOn 34 = .ok (.iload_n 1, 1) := by decide +kernel
theorem dX12_isPairOn_35 : decode cX12_isPairOn 35 = .ok (.bipush 34, 2) := by decide +kernel
theorem dX12_isPairOn_37 : decode cX12_isPairOn 37 = .ok (.iadd, 1) := by decide +kernel
theorem dX12_isPairOn_38 : decode cX12_isPairOn 38 = .ok (.iload 4, 2) := by decide +kernel
theorem dX12_isPairOn_40 : decode cX12_isPairOn 40 = .ok (.iadd, 1) := by decide +kernel
theorem dX12_isPairOn_41 : decode cX12_isPairOn 41 = .ok (.iaload, 1) := by decide +kernel
theorem dX12_isPairOn_42 : decode cX12_isPairOn 42 = .ok (.istore 6, 2) := by decide +kernel
theorem dX12_isPairOn_44 : decode cX12_isPairOn 44 = .ok (.iload 5, 2) := by decide +kernel
theorem dX12_isPairOn_46 : decode cX12_isPairOn 46 = .ok (.iload_n 2, 1) := by decide +kernel
theorem dX12_isPairOn_47 : decode cX12_isPairOn 47 = .ok (.if_icmp .ne 9, 3) := by decide +kernel
theorem dX12_isPairOn_50 : decode cX12_isPairOn 50 = .ok (.iload 6, 2) := by decide +kernel
theorem dX12_isPairOn_52 : decode cX12_isPairOn 52 = .ok (.iload_n 3, 1) := by decide +kernel
theorem dX12_isPairOn_53 : decode cX12_isPairOn 53 = .ok (.if_icmp .eq 15, 3) := by decide +kernel
theorem dX12_isPairOn_56 : decode cX12_isPairOn 56 = .ok (.iload 5, 2) := by decide +kernel
theorem dX12_isPairOn_58 : decode cX12_isPairOn 58 = .ok (.iload_n 3, 1) := by decide +kernel
theorem dX12_isPairOn_59 : decode cX12_isPairOn 59 = .ok (.if_icmp .ne 11, 3) := by decide +kernel
theorem dX12_isPairOn_62 : decode cX12_isPairOn 62 = .ok (.iload 6, 2) := by decide +kernel
theorem dX12_isPairOn_64 : decode cX12_isPairOn 64 = .ok (.iload_n 2, 1) := by decide +kernel
theorem dX12_isPairOn_65 : decode cX12_isPairOn 65 = .ok (.if_icmp .ne 5, 3) := by decide +kernel
theorem dX12_isPairOn_68 : decode cX12_isPairOn 68 = .ok (.iconst 1, 1) := by decide +kernel
theorem dX12_isPairOn_69 : decode cX12_isPairOn 69 = .ok (.ireturn, 1) := by decide +kernel
theorem dX12_isPairOn_70 : decode cX12_isPairOn 70 = .ok (.iinc 4 1, 3) := by decide +kernel
theorem dX12_isPairOn_73 : decode cX12_isPairOn 73 = .ok (.goto (-70), 3) := by decide +kernel
theorem dX12_isPairOn_76 : decode cX12_isPairOn 76 = .ok (.iconst 0, 1) := by decide +kernel
theorem dX12_isPairOn_77 : decode cX12_isPairOn 77 = .ok (.ireturn, 1) := by decide +kernel
theorem dX12_friends_0 : decode cX12_friends 0 = .ok (.iconst 0, 1) := by decide +kernel
theorem dX12_friends_1 : decode cX12_friends 1 = .ok (.istore_n 3, 1) := by decide +kernel
theorem dX12_friends_2 : decode cX12_friends 2 = .ok (.iconst 0, 1) := by decide +kernel
theorem dX12_friends_3 : decode cX12_friends 3 = .ok (.istore 4, 2) := by decide +kernel
theorem dX12_friends_5 : decode cX12_friends 5 = .ok (.iload 4, 2) := by decide +kernel
theorem dX12_friends_7 : decode cX12_friends 7 = .ok (.aload_n 0, 1) := by decide +kernel
theorem dX12_friends_8 : decode cX12_friends 8 = .ok (.getfield 153, 3) := by decide +kernel
theorem dX12_friends_11 : decode cX12_friends 11 = .ok (.if_icmp .ge 51, 3) := by decide +kernel
theorem dX12_friends_14 : decode cX12_friends 14 = .ok (.iload_n 3, 1) := by decide +kernel
theorem dX12_friends_15 : decode cX12_friends 15 = .ok (.iload 4, 2) := by decide +kernel
theorem dX12_friends_17 : decode cX12_friends 17 = .ok (.iload_n 2, 1) := by decide +kernel
theorem dX12_friends_18 : decode cX12_friends 18 = .ok (.if_icmp .eq 35, 3) := by decide +kernel
theorem dX12_friends_21 : decode cX12_friends 21 = .ok (.iload_n 1, 1) := by decide +kernel
theorem dX12_friends_22 : decode cX12_friends 22 = .ok (.ifCond .ge 16, 3) := by decide +kernel
theorem dX12_friends_25 : decode cX12_friends 25 = .ok (.aload_n 0, 1) := by decide +kernel
theorem dX12_friends_26 : decode cX12_friends 26 = .ok (.iload_n 2, 1) := by decide +kernel
theorem dX12_friends_27 : decode cX12_friends 27 = .ok (.iload 4, 2) := by decide +kernel
theorem dX12_friends_29 : decode cX12_friends 29 = .ok (.invokevirtual 479, 3) := by decide +kernel
theorem dX12_friends_32 : decode cX12_friends 32 = .ok (.ifCond .eq 21, 3) := by decide +kernel
theorem dX12_friends_35 : decode cX12_friends 35 = .ok (.goto 14, 3) := by decide +kernel
theorem dX12_friends_38 : decode cX12_friends 38 = .ok (.aload_n 0, 1) := by decide +kernel
theorem dX12_friends_39 : decode cX12_friends 39 = .ok (.iload_n 1, 1) := by decide +kernel
theorem dX12_friends_40 : decode cX12_friends 40 = .ok (.iload_n 2, 1) := by decide +kernel
theorem dX12_friends_41 : decode cX12_friends 41 = .ok (.iload 4, 2) := by decide +kernel
theorem dX12_friends_43 : decode cX12_friends 43 = .ok (.invokevirtual 482, 3) := by decide +kernel
theorem dX12_friends_46 : decode cX12_friends 46 = .ok (.ifCond .eq 7, 3) := by decide +kernel
theorem dX12_friends_49 : decode cX12_friends 49 = .ok (.iconst 1, 1) := by decide +kernel
theorem dX12_friends_50 : decode cX12_friends 50 = .ok (.goto 4, 3) := by decide +kernel
theorem dX12_friends_53 : decode cX12_friends 53 = .ok (.iconst 0, 1) := by decide +kernel
theorem dX12_friends_54 : decode cX12_friends 54 = .ok (.iadd, 1) := by decide +kernel
theorem dX12_friends_55 : decode cX12_friends 55 = .ok (.istore_n 3, 1) := by decide +kernel
theorem dX12_friends_56 : decode cX12_friends 56 = .ok (.iinc 4 1, 3) := by decide +kernel
theorem dX12_friends_59 : decode cX12_friends 59 = .ok (.goto (-54), 3) := by decide +kernel
theorem dX12_friends_62 : decode cX12_friends 62 = .ok (.iload_n 3, 1) := by decide +kernel
theorem dX12_friends_63 : decode cX12_friends 63 = .ok (.ireturn, 1) := by decide +kernel
theorem dX12_mayBe_0 : decode cX12_mayBe 0 = .ok (.aload_n 0, 1) := by decide +kernel
theorem dX12_mayBe_1 : decode cX12_mayBe 1 = .ok (.getfield 22, 3) := by decide +kernel
theorem dX12_mayBe_4 : decode cX12_mayBe 4 = .ok (.iload_n 2, 1) := by decide +kernel
theorem dX12_mayBe_5 : decode cX12_mayBe 5 = .ok (.iaload, 1) := by decide +kernel
theorem dX12_mayBe_6 : decode cX12_mayBe 6 = .ok (.aload_n 0, 1) := by decide +kernel
theorem dX12_mayBe_7 : decode cX12_mayBe 7 = .ok (.getfield 147, 3) := by decide +kernel
theorem dX12_mayBe_10 : decode cX12_mayBe 10 = .ok (.iload_n 1, 1) := by decide +kernel
theorem dX12_mayBe_11 : decode cX12_mayBe 11 = .ok (.bipush 14, 2) := by decide +kernel
theorem dX12_mayBe_13 : decode cX12_mayBe 13 = .ok (.iadd, 1) := by decide +kernel
theorem dX12_mayBe_14 : decode cX12_mayBe 14 = .ok (.iload_n 3, 1) := by decide +kernel
theorem dX12_mayBe_15 : decode cX12_mayBe 15 = .ok (.iadd, 1) := by decide +kernel
theorem dX12_mayBe_16 : decode cX12_mayBe 16 = .ok (.iaload, 1) := by decide +kernel
theorem dX12_mayBe_17 : decode cX12_mayBe 17 = .ok (.if_icmp .ne 55, 3) := by decide +kernel
theorem dX12_mayBe_20 : decode cX12_mayBe 20 = .ok (.aload_n 0, 1) := by decide +kernel
theorem dX12_mayBe_21 : decode cX12_mayBe 21 = .ok (.iconst (-1), 1) := by decide +kernel
theorem dX12_mayBe_22 : decode cX12_mayBe 22 = .ok (.iload_n 2, 1) := by decide +kernel
theorem dX12_mayBe_23 : decode cX12_mayBe 23 = .ok (.invokevirtual 485, 3) := by decide +kernel
theorem dX12_mayBe_26 : decode cX12_mayBe 26 = .ok (.aload_n 0, 1) := by decide +kernel
theorem dX12_mayBe_27 : decode cX12_mayBe 27 = .ok (.iload_n 1, 1) := by decide +kernel
theorem dX12_mayBe_28 : decode cX12_mayBe 28 = .ok (.iload_n 3, 1) := by decide +kernel
theorem dX12_mayBe_29 : decode cX12_mayBe 29 = .ok (.invokevirtual 485, 3) := by decide +kernel
theorem dX12_mayBe_32 : decode cX12_mayBe 32 = .ok (.if_icmp .ne 40, 3) := by decide +kernel
theorem dX12_mayBe_35 : decode cX12_mayBe 35 = .ok (.aload_n 0, 1) := by decide +kernel
theorem dX12_mayBe_36 : decode cX12_mayBe 36 = .ok (.getfield 13, 3) := by decide +kernel
theorem dX12_mayBe_39 : decode cX12_mayBe 39 = .ok (.iload_n 2, 1) := by decide +kernel
theorem dX12_mayBe_40 : decode cX12_mayBe 40 = .ok (.iaload, 1) := by decide +kernel
theorem dX12_mayBe_41 : decode cX12_mayBe 41 = .ok (.iload_n 2, 1) := by decide +kernel
theorem dX12_mayBe_42 : decode cX12_mayBe 42 = .ok (.if_icmp .ne 7, 3) := by decide +kernel
theorem dX12_mayBe_45 : decode cX12_mayBe 45 = .ok (.iconst 1, 1) := by decide +kernel
theorem dX12_mayBe_46 : decode cX12_mayBe 46 = .ok (.goto 4, 3) := by decide +kernel
theorem dX12_mayBe_49 : decode cX12_mayBe 49 = .ok (.iconst 0, 1) := by decide +kernel
theorem dX12_mayBe_50 : decode cX12_mayBe 50 = .ok (.aload_n 0, 1) := by decide +kernel
theorem dX12_mayBe_51 : decode cX12_mayBe 51 = .ok (.getfield 147, 3) := by decide +kernel
theorem dX12_mayBe_54 : decode cX12_mayBe 54 = .ok (.iload_n 1, 1) := by decide +kernel
theorem dX12_mayBe_55 : decode cX12_mayBe 55 = .ok (.iconst 2, 1) := by decide +kernel
theorem dX12_mayBe_56 : decode cX12_mayBe 56 = .ok (.iadd, 1) := by decide +kernel
theorem dX12_mayBe_57 : decode cX12_mayBe 57 = .ok (.iload_n 3, 1) := by decide +kernel
theorem dX12_mayBe_58 : decode cX12_mayBe 58 = .ok (.iadd, 1) := by decide +kernel
theorem dX12_mayBe_59 : decode cX12_mayBe 59 = .ok (.iaload, 1) := by decide +kernel
theorem dX12_mayBe_60 : decode cX12_mayBe 60 = .ok (.iload_n 3, 1) := by decide +kernel
theorem dX12_mayBe_61 : decode cX12_mayBe 61 = .ok (.if_icmp .ne 7, 3) := by decide +kernel
theorem dX12_mayBe_64 : decode cX12_mayBe 64 = .ok (.iconst 1, 1) := by decide +kernel
theorem dX12_mayBe_65 : decode cX12_mayBe 65 = .ok (.goto 4, 3) := by decide +kernel
theorem dX12_mayBe_68 : decode cX12_mayBe 68 = .ok (.iconst 0, 1) := by decide +kernel
theorem dX12_mayBe_69 : decode cX12_mayBe 69 = .ok (.if_icmp .eq 5, 3) := by decide +kernel
theorem dX12_mayBe_72 : decode cX12_mayBe 72 = .ok (.iconst 0, 1) := by decide +kernel
theorem dX12_mayBe_73 : decode cX12_mayBe 73 = .ok (.ireturn, 1) := by decide +kernel
theorem dX12_mayBe_74 : decode cX12_mayBe 74 = .ok (.iconst 0, 1) := by decide +kernel
theorem dX12_mayBe_75 : decode cX12_mayBe 75 = .ok (.istore 4, 2) := by decide +kernel
theorem dX12_mayBe_77 : decode cX12_mayBe 77 = .ok (.iload 4, 2) := by decide +kernel
theorem dX12_mayBe_79 : decode cX12_mayBe 79 = .ok (.iload_n 2, 1) := by decide +kernel
theorem dX12_mayBe_80 : decode cX12_mayBe 80 = .ok (.if_icmp .ge 135, 3) := by decide +kernel
theorem dX12_mayBe_83 : decode cX12_mayBe 83 = .ok (.aload_n 0, 1) := by decide +kernel
theorem dX12_mayBe_84 : decode cX12_mayBe 84 = .ok (.getfield 150, 3) := by decide +kernel
theorem dX12_mayBe_87 : decode cX12_mayBe 87 = .ok (.iload 4, 2) := by decide +kernel
theorem dX12_mayBe_89 : decode cX12_mayBe 89 = .ok (.iaload, 1) := by decide +kernel
theorem dX12_mayBe_90 : decode cX12_mayBe 90 = .ok (.iload_n 3, 1) := by decide +kernel
theorem dX12_mayBe_91 : decode cX12_mayBe 91 = .ok (.if_icmp .eq 26, 3) := by decide +kernel
theorem dX12_mayBe_94 : decode cX12_mayBe 94 = .ok (.aload_n 0, 1) := by decide +kernel
theorem dX12_mayBe_95 : decode cX12_mayBe 95 = .ok (.iload 4, 2) := by decide +kernel
theorem dX12_mayBe_97 : decode cX12_mayBe 97 = .ok (.iload_n 2, 1) := by decide +kernel
theorem dX12_mayBe_98 : decode cX12_mayBe 98 = .ok (.invokevirtual 479, 3) := by decide +kernel
theorem dX12_mayBe_101 : decode cX12_mayBe 101 = .ok (.aload_n 0, 1) := by decide +kernel
theorem dX12_mayBe_102 : decode cX12_mayBe 102 = .ok (.iload_n 1, 1) := by decide +kernel
theorem dX12_mayBe_103 : decode cX12_mayBe 103 = .ok (.aload_n 0, 1) := by decide +kernel
theorem dX12_mayBe_104 : decode cX12_mayBe 104 = .ok (.getfield 150, 3) := by decide +kernel
theorem dX12_mayBe_107 : decode cX12_mayBe 107 = .ok (.iload 4, 2) := by decide +kernel
theorem dX12_mayBe_109 : decode cX12_mayBe 109 = .ok (.iaload, 1) := by decide +kernel
theorem dX12_mayBe_110 : decode cX12_mayBe 110 = .ok (.iload_n 3, 1) := by decide +kernel
theorem dX12_mayBe_111 : decode cX12_mayBe 111 = .ok (.invokevirtual 482, 3) := by decide +kernel
theorem dX12_mayBe_114 : decode cX12_mayBe 114 = .ok (.if_icmp .eq 5, 3) := by decide +kernel
theorem dX12_mayBe_117 : decode cX12_mayBe 117 = .ok (.iconst 0, 1) := by decide +kernel
theorem dX12_mayBe_118 : decode cX12_mayBe 118 = .ok (.ireturn, 1) := by decide +kernel
theorem dX12_mayBe_119 : decode cX12_mayBe 119 = .ok (.aload_n 0, 1) := by decide +kernel
theorem dX12_mayBe_120 : decode cX12_mayBe 120 = .ok (.getfield 13, 3) := by decide +kernel
theorem dX12_mayBe_123 : decode cX12_mayBe 123 = .ok (.iload_n 2, 1) := by decide +kernel
theorem dX12_mayBe_124 : decode cX12_mayBe 124 = .ok (.iaload, 1) := by decide +kernel
theorem dX12_mayBe_125 : decode cX12_mayBe 125 = .ok (.iload 4, 2) := by decide +kernel
theorem dX12_mayBe_127 : decode cX12_mayBe 127 = .ok (.if_icmp .ne 7, 3) := by decide +kernel
theorem dX12_mayBe_130 : decode cX12_mayBe 130 = .ok (.iconst 1, 1) := by decide +kernel
theorem dX12_mayBe_131 : decode cX12_mayBe 131 = .ok (.goto 4, 3) := by decide +kernel
theorem dX12_mayBe_134 : decode cX12_mayBe 134 = .ok (.iconst 0, 1) := by decide +kernel
theorem dX12_mayBe_135 : decode cX12_mayBe 135 = .ok (.aload_n 0, 1) := by decide +kernel
theorem dX12_mayBe_136 : decode cX12_mayBe 136 = .ok (.getfield 147, 3) := by decide +kernel
theorem dX12_mayBe_139 : decode cX12_mayBe 139 = .ok (.iload_n 1, 1) := by decide +kernel
theorem dX12_mayBe_140 : decode cX12_mayBe 140 = .ok (.iconst 2, 1) := by decide +kernel
theorem dX12_mayBe_141 : decode cX12_mayBe 141 = .ok (.iadd, 1) := by decide +kernel
theorem dX12_mayBe_142 : decode cX12_mayBe 142 = .ok (.iload_n 3, 1) := by decide +kernel
theorem dX12_mayBe_143 : decode cX12_mayBe 143 = .ok (.iadd, 1) := by decide +kernel
theorem dX12_mayBe_144 : decode cX12_mayBe 144 = .ok (.iaload, 1) := by decide +kernel
theorem dX12_mayBe_145 : decode cX12_mayBe 145 = .ok (.aload_n 0, 1) := by decide +kernel
theorem dX12_mayBe_146 : decode cX12_mayBe 146 = .ok (.getfield 150, 3) := by decide +kernel
theorem dX12_mayBe_149 : decode cX12_mayBe 149 = .ok (.iload 4, 2) := by decide +kernel
theorem dX12_mayBe_151 : decode cX12_mayBe 151 = .ok (.iaload, 1) := by decide +kernel
theorem dX12_mayBe_152 : decode cX12_mayBe 152 = .ok (.if_icmp .ne 7, 3) := by decide +kernel
theorem dX12_mayBe_155 : decode cX12_mayBe 155 = .ok (.iconst 1, 1) := by decide +kernel
theorem dX12_mayBe_156 : decode cX12_mayBe 156 = .ok (.goto 4, 3) := by decide +kernel
theorem dX12_mayBe_159 : decode cX12_mayBe 159 = .ok (.iconst 0, 1) := by decide +kernel
theorem dX12_mayBe_160 : decode cX12_mayBe 160 = .ok (.if_icmp .ne 47, 3) := by decide +kernel
theorem dX12_mayBe_163 : decode cX12_mayBe 163 = .ok (.aload_n 0, 1) := by decide +kernel
theorem dX12_mayBe_164 : decode cX12_mayBe 164 = .ok (.getfield 13, 3) := by decide +kernel
theorem dX12_mayBe_167 : decode cX12_mayBe 167 = .ok (.iload 4, 2) := by decide +kernel
theorem dX12_mayBe_169 : decode cX12_mayBe 169 = .ok (.iaload, 1) := by decide +kernel
theorem dX12_mayBe_170 : decode cX12_mayBe 170 = .ok (.iload_n 2, 1) := by decide +kernel
theorem dX12_mayBe_171 : decode cX12_mayBe 171 = .ok (.if_icmp .ne 7, 3) := by decide +kernel
theorem dX12_mayBe_174 : decode cX12_mayBe 174 = .ok (.iconst 1, 1) := by decide +kernel
theorem dX12_mayBe_175 : decode cX12_mayBe 175 = .ok (.goto 4, 3) := by decide +kernel
theorem dX12_mayBe_178 : decode cX12_mayBe 178 = .ok (.iconst 0, 1) := by decide +kernel
theorem dX12_mayBe_179 : decode cX12_mayBe 179 = .ok (.aload_n 0, 1) := by decide +kernel
theorem dX12_mayBe_180 : decode cX12_mayBe 180 = .ok (.getfield 147, 3) := by decide +kernel
theorem dX12_mayBe_183 : decode cX12_mayBe 183 = .ok (.iload_n 1, 1) := by decide +kernel
theorem dX12_mayBe_184 : decode cX12_mayBe 184 = .ok (.iconst 2, 1) := by decide +kernel
theorem dX12_mayBe_185 : decode cX12_mayBe 185 = .ok (.iadd, 1) := by decide +kernel
theorem dX12_mayBe_186 : decode cX12_mayBe 186 = .ok (.aload_n 0, 1) := by decide +kernel
theorem dX12_mayBe_187 : decode cX12_mayBe 187 = .ok (.getfield 150, 3) := by decide +kernel
theorem dX12_mayBe_190 : decode cX12_mayBe 190 = .ok (.iload 4, 2) := by decide +kernel
theorem dX12_mayBe_192 : decode cX12_mayBe 192 = .ok (.iaload, 1) := by decide +kernel
theorem dX12_mayBe_193 : decode cX12_mayBe 193 = .ok (.iadd, 1) := by decide +kernel
theorem dX12_mayBe_194 : decode cX12_mayBe 194 = .ok (.iaload, 1) := by decide +kernel
theorem dX12_mayBe_195 : decode cX12_mayBe 195 = .ok (.iload_n 3, 1) := by decide +kernel
theorem dX12_mayBe_196 : decode cX12_mayBe 196 = .ok (.if_icmp .ne 7, 3) := by decide +kernel
theorem dX12_mayBe_199 : decode cX12_mayBe 199 = .ok (.iconst 1, 1) := by decide +kernel
theorem dX12_mayBe_200 : decode cX12_mayBe 200 = .ok (.goto 4, 3) := by decide +kernel
theorem dX12_mayBe_203 : decode cX12_mayBe 203 = .ok (.iconst 0, 1) := by decide +kernel
theorem dX12_mayBe_204 : decode cX12_mayBe 204 = .ok (.if_icmp .eq 5, 3) := by decide +kernel
theorem dX12_mayBe_207 : decode cX12_mayBe 207 = .ok (.iconst 0, 1) := by decide +kernel
theorem dX12_mayBe_208 : decode cX12_mayBe 208 = .ok (.ireturn, 1) := by decide +kernel
theorem dX12_mayBe_209 : decode cX12_mayBe 209 = .ok (.iinc 4 1, 3) := by decide +kernel
theorem dX12_mayBe_212 : decode cX12_mayBe 212 = .ok (.goto (-135), 3) := by decide +kernel
theorem dX12_mayBe_215 : decode cX12_mayBe 215 = .ok (.iconst 1, 1) := by decide +kernel
theorem dX12_mayBe_216 : decode cX12_mayBe 216 = .ok (.ireturn, 1) := by decide +kernel
theorem dX12_names_0 : decode cX12_names 0 = .ok (.iload_n 2, 1) := by decide +kernel
theorem dX12_names_1 : decode cX12_names 1 = .ok (.aload_n 0, 1) := by decide +kernel
theorem dX12_names_2 : decode cX12_names 2 = .ok (.getfield 153, 3) := by decide +kernel
theorem dX12_names_5 : decode cX12_names 5 = .ok (.if_icmp .ne 5, 3) := by decide +kernel
theorem dX12_names_8 : decode cX12_names 8 = .ok (.iconst 1, 1) := by decide +kernel
theorem dX12_names_9 : decode cX12_names 9 = .ok (.ireturn, 1) := by decide +kernel
theorem dX12_names_10 : decode cX12_names 10 = .ok (.iconst 0, 1) := by decide +kernel
theorem dX12_names_11 : decode cX12_names 11 = .ok (.istore_n 3, 1) := by decide +kernel
theorem dX12_names_12 : decode cX12_names 12 = .ok (.iload_n 3, 1) := by decide +kernel
theorem dX12_names_13 : decode cX12_names 13 = .ok (.aload_n 0, 1) := by decide +kernel
theorem dX12_names_14 : decode cX12_names 14 = .ok (.getfield 153, 3) := by decide +kernel
theorem dX12_names_17 : decode cX12_names 17 = .ok (.if_icmp .ge 42, 3) := by decide +kernel
theorem dX12_names_20 : decode cX12_names 20 = .ok (.aload_n 0, 1) := by decide +kernel
theorem dX12_names_21 : decode cX12_names 21 = .ok (.iload_n 1, 1) := by decide +kernel
theorem dX12_names_22 : decode cX12_names 22 = .ok (.iload_n 2, 1) := by decide +kernel
theorem dX12_names_23 : decode cX12_names 23 = .ok (.iload_n 3, 1) := by decide +kernel
theorem dX12_names_24 : decode cX12_names 24 = .ok (.invokevirtual 488, 3) := by decide +kernel
theorem dX12_names_27 : decode cX12_names 27 = .ok (.ifCond .ne 6, 3) := by decide +kernel
theorem dX12_names_30 : decode cX12_names 30 = .ok (.goto 23, 3) := by decide +kernel
theorem dX12_names_33 : decode cX12_names 33 = .ok (.aload_n 0, 1) := by decide +kernel
theorem dX12_names_34 : decode cX12_names 34 = .ok (.getfield 150, 3) := by decide +kernel
theorem dX12_names_37 : decode cX12_names 37 = .ok (.iload_n 2, 1) := by decide +kernel
theorem dX12_names_38 : decode cX12_names 38 = .ok (.iload_n 3, 1) := by decide +kernel
theorem dX12_names_39 : decode cX12_names 39 = .ok (.iastore, 1) := by decide +kernel
theorem dX12_names_40 : decode cX12_names 40 = .ok (.aload_n 0, 1) := by decide +kernel
theorem dX12_names_41 : decode cX12_names 41 = .ok (.iload_n 1, 1) := by decide +kernel
theorem dX12_names_42 : decode cX12_names 42 = .ok (.iload_n 2, 1) := by decide +kernel
theorem dX12_names_43 : decode cX12_names 43 = .ok (.iconst 1, 1) := by decide +kernel
theorem dX12_names_44 : decode cX12_names 44 = .ok (.iadd, 1) := by decide +kernel
theorem dX12_names_45 : decode cX12_names 45 = .ok (.invokevirtual 491, 3) := by decide +kernel
theorem dX12_names_48 : decode cX12_names 48 = .ok (.ifCond .eq 5, 3) := by decide +kernel
theorem dX12_names_51 : decode cX12_names 51 = .ok (.iconst 1, 1) := by decide +kernel
theorem dX12_names_52 : decode cX12_names 52 = .ok (.ireturn, 1) := by decide +kernel
theorem dX12_names_53 : decode cX12_names 53 = .ok (.iinc 3 1, 3) := by decide +kernel
theorem dX12_names_56 : decode cX12_names 56 = .ok (.goto (-44), 3) := by decide +kernel
theorem dX12_names_59 : decode cX12_names 59 = .ok (.iconst 0, 1) := by decide +kernel
theorem dX12_names_60 : decode cX12_names 60 = .ok (.ireturn, 1) := by decide +kernel
theorem dX12_areSame_0 : decode cX12_areSame 0 = .ok (.aload_n 0, 1) := by decide +kernel
theorem dX12_areSame_1 : decode cX12_areSame 1 = .ok (.getfield 147, 3) := by decide +kernel
theorem dX12_areSame_4 : decode cX12_areSame 4 = .ok (.sipush 500, 3) := by decide +kernel
theorem dX12_areSame_7 : decode cX12_areSame 7 = .ok (.iload_n 1, 1) := by decide +kernel
theorem dX12_areSame_8 : decode cX12_areSame 8 = .ok (.imul, 1) := by decide +kernel
theorem dX12_areSame_9 : decode cX12_areSame 9 = .ok (.iaload, 1) := by decide +kernel
theorem dX12_areSame_10 : decode cX12_areSame 10 = .ok (.aload_n 0, 1) := by decide +kernel
theorem dX12_areSame_11 : decode cX12_areSame 11 = .ok (.getfield 153, 3) := by decide +kernel
theorem dX12_areSame_14 : decode cX12_areSame 14 = .ok (.if_icmp .ne 20, 3) := by decide +kernel
theorem dX12_areSame_17 : decode cX12_areSame 17 = .ok (.aload_n 0, 1) := by decide +kernel
theorem dX12_areSame_18 : decode cX12_areSame 18 = .ok (.sipush 500, 3) := by decide +kernel
theorem dX12_areSame_21 : decode cX12_areSame 21 = .ok (.iload_n 1, 1) := by decide +kernel
theorem dX12_areSame_22 : decode cX12_areSame 22 = .ok (.imul, 1) := by decide +kernel
theorem dX12_areSame_23 : decode cX12_areSame 23 = .ok (.iconst 0, 1) := by decide +kernel
theorem dX12_areSame_24 : decode cX12_areSame 24 = .ok (.invokevirtual 491, 3) := by decide +kernel
theorem dX12_areSame_27 : decode cX12_areSame 27 = .ok (.ifCond .eq 7, 3) := by decide +kernel
theorem dX12_areSame_30 : decode cX12_areSame 30 = .ok (.iconst 1, 1) := by decide +kernel
theorem dX12_areSame_31 : decode cX12_areSame 31 = .ok (.goto 4, 3) := by decide +kernel
theorem dX12_areSame_34 : decode cX12_areSame 34 = .ok (.iconst 0, 1) := by decide +kernel
theorem dX12_areSame_35 : decode cX12_areSame 35 = .ok (.ireturn, 1) := by decide +kernel
theorem dX12_same_0 : decode cX12_same 0 = .ok (.aload_n 0, 1) := by decide +kernel
theorem dX12_same_1 : decode cX12_same 1 = .ok (.iconst 0, 1) := by decide +kernel
theorem dX12_same_2 : decode cX12_same 2 = .ok (.putfield 157, 3) := by decide +kernel
theorem dX12_same_5 : decode cX12_same 5 = .ok (.iload_n 1, 1) := by decide +kernel
theorem dX12_same_6 : decode cX12_same 6 = .ok (.iconst 0, 1) := by decide +kernel
theorem dX12_same_7 : decode cX12_same 7 = .ok (.iconst 3, 1) := by decide +kernel
theorem dX12_same_8 : decode cX12_same 8 = .ok (.invokestatic 277, 3) := by decide +kernel
theorem dX12_same_11 : decode cX12_same 11 = .ok (.ifCond .eq 28, 3) := by decide +kernel
theorem dX12_same_14 : decode cX12_same 14 = .ok (.aload_n 0, 1) := by decide +kernel
theorem dX12_same_15 : decode cX12_same 15 = .ok (.getfield 144, 3) := by decide +kernel
theorem dX12_same_18 : decode cX12_same 18 = .ok (.iload_n 1, 1) := by decide +kernel
theorem dX12_same_19 : decode cX12_same 19 = .ok (.baload, 1) := by decide +kernel
theorem dX12_same_20 : decode cX12_same 20 = .ok (.ifCond .eq 19, 3) := by decide +kernel
theorem dX12_same_23 : decode cX12_same 23 = .ok (.aload_n 0, 1) := by decide +kernel
theorem dX12_same_24 : decode cX12_same 24 = .ok (.iload_n 1, 1) := by decide +kernel
theorem dX12_same_25 : decode cX12_same 25 = .ok (.invokevirtual 494, 3) := by decide +kernel
theorem dX12_same_28 : decode cX12_same 28 = .ok (.ifCond .eq 7, 3) := by decide +kernel
theorem dX12_same_31 : decode cX12_same 31 = .ok (.iconst 1, 1) := by decide +kernel
theorem dX12_same_32 : decode cX12_same 32 = .ok (.goto 8, 3) := by decide +kernel
theorem dX12_same_35 : decode cX12_same 35 = .ok (.iconst 0, 1) := by decide +kernel
theorem dX12_same_36 : decode cX12_same 36 = .ok (.goto 4, 3) := by decide +kernel
theorem dX12_same_39 : decode cX12_same 39 = .ok (.iconst (-1), 1) := by decide +kernel
theorem dX12_same_40 : decode cX12_same 40 = .ok (.ireturn, 1) := by decide +kernel
theorem dX12_renamed_0 : decode cX12_renamed 0 = .ok (.aload_n 0, 1) := by decide +kernel
theorem dX12_renamed_1 : decode cX12_renamed 1 = .ok (.iconst 0, 1) := by decide +kernel
theorem dX12_renamed_2 : decode cX12_renamed 2 = .ok (.putfield 157, 3) := by decide +kernel
theorem dX12_renamed_5 : decode cX12_renamed 5 = .ok (.iload_n 1, 1) := by decide +kernel
theorem dX12_renamed_6 : decode cX12_renamed 6 = .ok (.iconst 0, 1) := by decide +kernel
theorem dX12_renamed_7 : decode cX12_renamed 7 = .ok (.iconst 3, 1) := by decide +kernel
theorem dX12_renamed_8 : decode cX12_renamed 8 = .ok (.invokestatic 277, 3) := by decide +kernel
theorem dX12_renamed_11 : decode cX12_renamed 11 = .ok (.ifCond .eq 37, 3) := by decide +kernel
theorem dX12_renamed_14 : decode cX12_renamed 14 = .ok (.aload_n 0, 1) := by decide +kernel
theorem dX12_renamed_15 : decode cX12_renamed 15 = .ok (.getfield 144, 3) := by decide +kernel
theorem dX12_renamed_18 : decode cX12_renamed 18 = .ok (.iload_n 1, 1) := by decide +kernel
theorem dX12_renamed_19 : decode cX12_renamed 19 = .ok (.baload, 1) := by decide +kernel
theorem dX12_renamed_20 : decode cX12_renamed 20 = .ok (.ifCond .eq 28, 3) := by decide +kernel
theorem dX12_renamed_23 : decode cX12_renamed 23 = .ok (.aload_n 0, 1) := by decide +kernel
theorem dX12_renamed_24 : decode cX12_renamed 24 = .ok (.iload_n 2, 1) := by decide +kernel
theorem dX12_renamed_25 : decode cX12_renamed 25 = .ok (.invokevirtual 378, 3) := by decide +kernel
theorem dX12_renamed_28 : decode cX12_renamed 28 = .ok (.ifCond .eq 20, 3) := by decide +kernel
theorem dX12_renamed_31 : decode cX12_renamed 31 = .ok (.aload_n 0, 1) := by decide +kernel
theorem dX12_renamed_32 : decode cX12_renamed 32 = .ok (.iload_n 1, 1) := by decide +kernel
theorem dX12_renamed_33 : decode cX12_renamed 33 = .ok (.invokevirtual 494, 3) := by decide +kernel
theorem dX12_renamed_36 : decode cX12_renamed 36 = .ok (.ifCond .eq 12, 3) := by decide +kernel
theorem dX12_renamed_39 : decode cX12_renamed 39 = .ok (.aload_n 0, 1) := by decide +kernel
theorem dX12_renamed_40 : decode cX12_renamed 40 = .ok (.getfield 150, 3) := by decide +kernel
theorem dX12_renamed_43 : decode cX12_renamed 43 = .ok (.iload_n 2, 1) := by decide +kernel
theorem dX12_renamed_44 : decode cX12_renamed 44 = .ok (.iaload, 1) := by decide +kernel
theorem dX12_renamed_45 : decode cX12_renamed 45 = .ok (.goto 4, 3) := by decide +kernel
theorem dX12_renamed_48 : decode cX12_renamed 48 = .ok (.iconst (-1), 1) := by decide +kernel
theorem dX12_renamed_49 : decode cX12_renamed 49 = .ok (.ireturn, 1) := by decide +kernel
theorem dX12_count_0 : decode cX12_count 0 = .ok (.aload_n 0, 1) := by decide +kernel
theorem dX12_count_1 : decode cX12_count 1 = .ok (.iconst 0, 1) := by decide +kernel
theorem dX12_count_2 : decode cX12_count 2 = .ok (.putfield 157, 3) := by decide +kernel
theorem dX12_count_5 : decode cX12_count 5 = .ok (.iload_n 1, 1) := by decide +kernel
theorem dX12_count_6 : decode cX12_count 6 = .ok (.iconst 0, 1) := by decide +kernel
theorem dX12_count_7 : decode cX12_count 7 = .ok (.bipush 8, 2) := by decide +kernel
theorem dX12_count_9 : decode cX12_count 9 = .ok (.invokestatic 277, 3) := by decide +kernel
theorem dX12_count_12 : decode cX12_count 12 = .ok (.ifCond .ne 5, 3) := by decide +kernel
theorem dX12_count_15 : decode cX12_count 15 = .ok (.iconst (-1), 1) := by decide +kernel
theorem dX12_count_16 : decode cX12_count 16 = .ok (.ireturn, 1) := by decide +kernel
theorem dX12_count_17 : decode cX12_count 17 = .ok (.iload_n 1, 1) := by decide +kernel
theorem dX12_count_18 : decode cX12_count 18 = .ok (.ifCond .ne 10, 3) := by decide +kernel
theorem dX12_count_21 : decode cX12_count 21 = .ok (.aload_n 0, 1) := by decide +kernel
theorem dX12_count_22 : decode cX12_count 22 = .ok (.getfield 153, 3) := by decide +kernel
theorem dX12_count_25 : decode cX12_count 25 = .ok (.goto 93, 3) := by decide +kernel
theorem dX12_count_28 : decode cX12_count 28 = .ok (.iload_n 1, 1) := by decide +kernel
theorem dX12_count_29 : decode cX12_count 29 = .ok (.iconst 1, 1) := by decide +kernel
theorem dX12_count_30 : decode cX12_count 30 = .ok (.if_icmp .ne 10, 3) := by decide +kernel
theorem dX12_count_33 : decode cX12_count 33 = .ok (.aload_n 0, 1) := by decide +kernel
theorem dX12_count_34 : decode cX12_count 34 = .ok (.getfield 352, 3) := by decide +kernel
theorem dX12_count_37 : decode cX12_count 37 = .ok (.goto 81, 3) := by decide +kernel
theorem dX12_count_40 : decode cX12_count 40 = .ok (.iload_n 1, 1) := by decide +kernel
theorem dX12_count_41 : decode cX12_count 41 = .ok (.iconst 2, 1) := by decide +kernel
theorem dX12_count_42 : decode cX12_count 42 = .ok (.if_icmp .ne 10, 3) := by decide +kernel
theorem dX12_count_45 : decode cX12_count 45 = .ok (.aload_n 0, 1) := by decide +kernel
theorem dX12_count_46 : decode cX12_count 46 = .ok (.getfield 355, 3) := by decide +kernel
theorem dX12_count_49 : decode cX12_count 49 = .ok (.goto 69, 3) := by decide +kernel
theorem dX12_count_52 : decode cX12_count 52 = .ok (.iload_n 1, 1) := by decide +kernel
theorem dX12_count_53 : decode cX12_count 53 = .ok (.iconst 3, 1) := by decide +kernel
theorem dX12_count_54 : decode cX12_count 54 = .ok (.if_icmp .ne 10, 3) := by decide +kernel
theorem dX12_count_57 : decode cX12_count 57 = .ok (.aload_n 0, 1) := by decide +kernel
theorem dX12_count_58 : decode cX12_count 58 = .ok (.getfield 358, 3) := by decide +kernel
theorem dX12_count_61 : decode cX12_count 61 = .ok (.goto 57, 3) := by decide +kernel
theorem dX12_count_64 : decode cX12_count 64 = .ok (.iload_n 1, 1) := by decide +kernel
theorem dX12_count_65 : decode cX12_count 65 = .ok (.iconst 4, 1) := by decide +kernel
theorem dX12_count_66 : decode cX12_count 66 = .ok (.if_icmp .ne 10, 3) := by decide +kernel
theorem dX12_count_69 : decode cX12_count 69 = .ok (.aload_n 0, 1) := by decide +kernel
theorem dX12_count_70 : decode cX12_count 70 = .ok (.getfield 361, 3) := by decide +kernel
theorem dX12_count_73 : decode cX12_count 73 = .ok (.goto 45, 3) := by decide +kernel
theorem dX12_count_76 : decode cX12_count 76 = .ok (.iload_n 1, 1) := by decide +kernel
theorem dX12_count_77 : decode cX12_count 77 = .ok (.iconst 5, 1) := by decide +kernel
theorem dX12_count_78 : decode cX12_count 78 = .ok (.if_icmp .ne 10, 3) := by decide +kernel
theorem dX12_count_81 : decode cX12_count 81 = .ok (.aload_n 0, 1) := by decide +kernel
theorem dX12_count_82 : decode cX12_count 82 = .ok (.getfield 364, 3) := by decide +kernel
theorem dX12_count_85 : decode cX12_count 85 = .ok (.goto 33, 3) := by decide +kernel
theorem dX12_count_88 : decode cX12_count 88 = .ok (.iload_n 1, 1) := by decide +kernel
theorem dX12_count_89 : decode cX12_count 89 = .ok (.bipush 6, 2) := by decide +kernel
theorem dX12_count_91 : decode cX12_count 91 = .ok (.if_icmp .ne 10, 3) := by decide +kernel
theorem dX12_count_94 : decode cX12_count 94 = .ok (.aload_n 0, 1) := by decide +kernel
theorem dX12_count_95 : decode cX12_count 95 = .ok (.getfield 367, 3) := by decide +kernel
theorem dX12_count_98 : decode cX12_count 98 = .ok (.goto 20, 3) := by decide +kernel
theorem dX12_count_101 : decode cX12_count 101 = .ok (.iload_n 1, 1) := by decide +kernel
theorem dX12_count_102 : decode cX12_count 102 = .ok (.bipush 7, 2) := by decide +kernel
theorem dX12_count_104 : decode cX12_count 104 = .ok (.if_icmp .ne 10, 3) := by decide +kernel
theorem dX12_count_107 : decode cX12_count 107 = .ok (.aload_n 0, 1) := by decide +kernel
theorem dX12_count_108 : decode cX12_count 108 = .ok (.getfield 372, 3) := by decide +kernel
theorem dX12_count_111 : decode cX12_count 111 = .ok (.goto 7, 3) := by decide +kernel
theorem dX12_count_114 : decode cX12_count 114 = .ok (.aload_n 0, 1) := by decide +kernel
theorem dX12_count_115 : decode cX12_count 115 = .ok (.getfield 162, 3) := by decide +kernel
theorem dX12_count_118 : decode cX12_count 118 = .ok (.ireturn, 1) := by decide +kernel
