theorem dX11_init_0 : decode cX11_init 0 = .ok (.aload_n 0, 1) := by decide +kernel
theorem dX11_init_1 : decode cX11_init 1 = .ok (.invokespecial 1, 3) := by decide +kernel
theorem dX11_init_4 : decode cX11_init 4 = .ok (.aload_n 0, 1) := by decide +kernel
theorem dX11_init_5 : decode cX11_init 5 = .ok (.new 7, 3) := by decide +kernel
theorem dX11_init_8 : decode cX11_init 8 = .ok (.dup, 1) := by decide +kernel
theorem dX11_init_9 : decode cX11_init 9 = .ok (.invokespecial 9, 3) := by decide +kernel
theorem dX11_init_12 : decode cX11_init 12 = .ok (.putfield 10, 3) := by decide +kernel
theorem dX11_init_15 : decode cX11_init 15 = .ok (.aload_n 0, 1) := by decide +kernel
theorem dX11_init_16 : decode cX11_init 16 = .ok (.new 16, 3) := by decide +kernel
theorem dX11_init_19 : decode cX11_init 19 = .ok (.dup, 1) := by decide +kernel
theorem dX11_init_20 : decode cX11_init 20 = .ok (.aload_n 0, 1) := by decide +kernel
theorem dX11_init_21 : decode cX11_init 21 = .ok (.getfield 10, 3) := by decide +kernel
theorem dX11_init_24 : decode cX11_init 24 = .ok (.invokespecial 18, 3) := by decide +kernel
theorem dX11_init_27 : decode cX11_init 27 = .ok (.putfield 21, 3) := by decide +kernel
theorem dX11_init_30 : decode cX11_init 30 = .ok (.aload_n 0, 1) := by decide +kernel
theorem dX11_init_31 : decode cX11_init 31 = .ok (.new 25, 3) := by decide +kernel
theorem dX11_init_34 : decode cX11_init 34 = .ok (.dup, 1) := by decide +kernel
theorem dX11_init_35 : decode cX11_init 35 = .ok (.invokespecial 27, 3) := by decide +kernel
theorem dX11_init_38 : decode cX11_init 38 = .ok (.putfield 28, 3) := by decide +kernel
theorem dX11_init_41 : decode cX11_init 41 = .ok (.aload_n 0, 1) := by decide +kernel
theorem dX11_init_42 : decode cX11_init 42 = .ok (.new 32, 3) := by decide +kernel
theorem dX11_init_45 : decode cX11_init 45 = .ok (.dup, 1) := by decide +kernel
theorem dX11_init_46 : decode cX11_init 46 = .ok (.invokespecial 34, 3) := by decide +kernel
theorem dX11_init_49 : decode cX11_init 49 = .ok (.putfield 35, 3) := by decide +kernel
theorem dX11_init_52 : decode cX11_init 52 = .ok (.aload_n 0, 1) := by decide +kernel
theorem dX11_init_53 : decode cX11_init 53 = .ok (.new 39, 3) := by decide +kernel
theorem dX11_init_56 : decode cX11_init 56 = .ok (.dup, 1) := by decide +kernel
theorem dX11_init_57 : decode cX11_init 57 = .ok (.invokespecial 41, 3) := by decide +kernel
theorem dX11_init_60 : decode cX11_init 60 = .ok (.putfield 42, 3) := by decide +kernel
theorem dX11_init_63 : decode cX11_init 63 = .ok (.aload_n 0, 1) := by decide +kernel
theorem dX11_init_64 : decode cX11_init 64 = .ok (.new 46, 3) := by decide +kernel
theorem dX11_init_67 : decode cX11_init 67 = .ok (.dup, 1) := by decide +kernel
theorem dX11_init_68 : decode cX11_init 68 = .ok (.aload_n 0, 1) := by decide +kernel
theorem dX11_init_69 : decode cX11_init 69 = .ok (.getfield 28, 3) := by decide +kernel
theorem dX11_init_72 : decode cX11_init 72 = .ok (.aload_n 0, 1) := by decide +kernel
theorem dX11_init_73 : decode cX11_init 73 = .ok (.getfield 42, 3) := by decide +kernel
theorem dX11_init_76 : decode cX11_init 76 = .ok (.invokespecial 48, 3) := by decide +kernel
theorem dX11_init_79 : decode cX11_init 79 = .ok (.putfield 51, 3) := by decide +kernel
theorem dX11_init_82 : decode cX11_init 82 = .ok (.aload_n 0, 1) := by decide +kernel
theorem dX11_init_83 : decode cX11_init 83 = .ok (.new 55, 3) := by decide +kernel
theorem dX11_init_86 : decode cX11_init 86 = .ok (.dup, 1) := by decide +kernel
theorem dX11_init_87 : decode cX11_init 87 = .ok (.aload_n 0, 1) := by decide +kernel
theorem dX11_init_88 : decode cX11_init 88 = .ok (.getfield 28, 3) := by decide +kernel
theorem dX11_init_91 : decode cX11_init 91 = .ok (.aload_n 0, 1) := by decide +kernel
theorem dX11_init_92 : decode cX11_init 92 = .ok (.getfield 42, 3) := by decide +kernel
theorem dX11_init_95 : decode cX11_init 95 = .ok (.aload_n 0, 1) := by decide +kernel
theorem dX11_init_96 : decode cX11_init 96 = .ok (.getfield 35, 3) := by decide +kernel
theorem dX11_init_99 : decode cX11_init 99 = .ok (.invokespecial 57, 3) := by decide +kernel
theorem dX11_init_102 : decode cX11_init 102 = .ok (.putfield 60, 3) := by decide +kernel
theorem dX11_init_105 : decode cX11_init 105 = .ok (.aload_n 0, 1) := by decide +kernel
theorem dX11_init_106 : decode cX11_init 106 = .ok (.new 64, 3) := by decide +kernel
theorem dX11_init_109 : decode cX11_init 109 = .ok (.dup, 1) := by decide +kernel
theorem dX11_init_110 : decode cX11_init 110 = .ok (.aload_n 0, 1) := by decide +kernel
theorem dX11_init_111 : decode cX11_init 111 = .ok (.getfield 28, 3) := by decide +kernel
theorem dX11_init_114 : decode cX11_init 114 = .ok (.invokespecial 66, 3) := by decide +kernel
theorem dX11_init_117 : decode cX11_init 117 = .ok (.putfield 69, 3) := by decide +kernel
theorem dX11_init_120 : decode cX11_init 120 = .ok (.aload_n 0, 1) := by decide +kernel
theorem dX11_init_121 : decode cX11_init 121 = .ok (.iconst 4, 1) := by decide +kernel
theorem dX11_init_122 : decode cX11_init 122 = .ok (.anewarray 73, 3) := by decide +kernel
theorem dX11_init_125 : decode cX11_init 125 = .ok (.putfield 75, 3) := by decide +kernel
theorem dX11_init_128 : decode cX11_init 128 = .ok (.iconst 0, 1) := by decide +kernel
theorem dX11_init_129 : decode cX11_init 129 = .ok (.istore_n 1, 1) := by decide +kernel
theorem dX11_init_130 : decode cX11_init 130 = .ok (.iload_n 1, 1) := by decide +kernel
theorem dX11_init_131 : decode cX11_init 131 = .ok (.iconst 4, 1) := by decide +kernel
theorem dX11_init_132 : decode cX11_init 132 = .ok (.if_icmp .ge 22, 3) := by decide +kernel
theorem dX11_init_135 : decode cX11_init 135 = .ok (.aload_n 0, 1) := by decide +kernel
theorem dX11_init_136 : decode cX11_init 136 = .ok (.getfield 75, 3) := by decide +kernel
theorem dX11_init_139 : decode cX11_init 139 = .ok (.iload_n 1, 1) := by decide +kernel
theorem dX11_init_140 : decode cX11_init 140 = .ok (.new 73, 3) := by decide +kernel
theorem dX11_init_143 : decode cX11_init 143 = .ok (.dup, 1) := by decide +kernel
theorem dX11_init_144 : decode cX11_init 144 = .ok (.invokespecial 79, 3) := by decide +kernel
theorem dX11_init_147 : decode cX11_init 147 = .ok (.aastore, 1) := by decide +kernel
theorem dX11_init_148 : decode cX11_init 148 = .ok (.iinc 1 1, 3) := by decide +kernel
theorem dX11_init_151 : decode cX11_init 151 = .ok (.goto (-21), 3) := by decide +kernel
theorem dX11_init_154 : decode cX11_init 154 = .ok (.aload_n 0, 1) := by decide +kernel
theorem dX11_init_155 : decode cX11_init 155 = .ok (.new 80, 3) := by decide +kernel
theorem dX11_init_158 : decode cX11_init 158 = .ok (.dup, 1) := by decide +kernel
theorem dX11_init_159 : decode cX11_init 159 = .ok (.sipush 200, 3) := by decide +kernel
theorem dX11_init_162 : decode cX11_init 162 = .ok (.invokespecial 82, 3) := by decide +kernel
theorem dX11_init_165 : decode cX11_init 165 = .ok (.putfield 85, 3) := by decide +kernel
theorem dX11_init_168 : decode cX11_init 168 = .ok (.aload_n 0, 1) := by decide +kernel
theorem dX11_init_169 : decode cX11_init 169 = .ok (.sipush 200, 3) := by decide +kernel
theorem dX11_init_172 : decode cX11_init 172 = .ok (.newarray .int, 2) := by decide +kernel
theorem dX11_init_174 : decode cX11_init 174 = .ok (.putfield 89, 3) := by decide +kernel
theorem dX11_init_177 : decode cX11_init 177 = .ok (.aload_n 0, 1) := by decide +kernel
theorem dX11_init_178 : decode cX11_init 178 = .ok (.getfield 28, 3) := by decide +kernel
theorem dX11_init_181 : decode cX11_init 181 = .ok (.iconst 1, 1) := by decide +kernel
theorem dX11_init_182 : decode cX11_init 182 = .ok (.invokevirtual 93, 3) := by decide +kernel
theorem dX11_init_185 : decode cX11_init 185 = .ok (.aload_n 0, 1) := by decide +kernel
theorem dX11_init_186 : decode cX11_init 186 = .ok (.getfield 42, 3) := by decide +kernel
theorem dX11_init_189 : decode cX11_init 189 = .ok (.aload_n 0, 1) := by decide +kernel
theorem dX11_init_190 : decode cX11_init 190 = .ok (.getfield 28, 3) := by decide +kernel
theorem dX11_init_193 : decode cX11_init 193 = .ok (.invokevirtual 96, 3) := by decide +kernel
theorem dX11_init_196 : decode cX11_init 196 = .ok (.return_, 1) := by decide +kernel
theorem dX11_feed_0 : decode cX11_feed 0 = .ok (.aload_n 0, 1) := by decide +kernel
theorem dX11_feed_1 : decode cX11_feed 1 = .ok (.getfield 10, 3) := by decide +kernel
theorem dX11_feed_4 : decode cX11_feed 4 = .ok (.lload_n 1, 1) := by decide +kernel
theorem dX11_feed_5 : decode cX11_feed 5 = .ok (.invokevirtual 99, 3) := by decide +kernel
theorem dX11_feed_8 : decode cX11_feed 8 = .ok (.aload_n 0, 1) := by decide +kernel
theorem dX11_feed_9 : decode cX11_feed 9 = .ok (.getfield 10, 3) := by decide +kernel
theorem dX11_feed_12 : decode cX11_feed 12 = .ok (.lload_n 3, 1) := by decide +kernel
theorem dX11_feed_13 : decode cX11_feed 13 = .ok (.invokevirtual 99, 3) := by decide +kernel
theorem dX11_feed_16 : decode cX11_feed 16 = .ok (.aload_n 0, 1) := by decide +kernel
theorem dX11_feed_17 : decode cX11_feed 17 = .ok (.getfield 10, 3) := by decide +kernel
theorem dX11_feed_20 : decode cX11_feed 20 = .ok (.lload 5, 2) := by decide +kernel
theorem dX11_feed_22 : decode cX11_feed 22 = .ok (.invokevirtual 99, 3) := by decide +kernel
theorem dX11_feed_25 : decode cX11_feed 25 = .ok (.aload_n 0, 1) := by decide +kernel
theorem dX11_feed_26 : decode cX11_feed 26 = .ok (.getfield 10, 3) := by decide +kernel
theorem dX11_feed_29 : decode cX11_feed 29 = .ok (.getfield 103, 3) := by decide +kernel
theorem dX11_feed_32 : decode cX11_feed 32 = .ok (.ireturn, 1) := by decide +kernel
theorem dX11_form_0 : decode cX11_form 0 = .ok (.aload_n 0, 1) := by decide +kernel
theorem dX11_form_1 : decode cX11_form 1 = .ok (.getfield 21, 3) := by decide +kernel
theorem dX11_form_4 : decode cX11_form 4 = .ok (.invokevirtual 107, 3) := by decide +kernel
theorem dX11_form_7 : decode cX11_form 7 = .ok (.istore_n 1, 1) := by decide +kernel
theorem dX11_form_8 : decode cX11_form 8 = .ok (.iload_n 1, 1) := by decide +kernel
theorem dX11_form_9 : decode cX11_form 9 = .ok (.ifCond .ne 29, 3) := by decide +kernel
theorem dX11_form_12 : decode cX11_form 12 = .ok (.aload_n 0, 1) := by decide +kernel
theorem dX11_form_13 : decode cX11_form 13 = .ok (.getfield 28, 3) := by decide +kernel
theorem dX11_form_16 : decode cX11_form 16 = .ok (.aload_n 0, 1) := by decide +kernel
theorem dX11_form_17 : decode cX11_form 17 = .ok (.getfield 21, 3) := by decide +kernel
theorem dX11_form_20 : decode cX11_form 20 = .ok (.getfield 111, 3) := by decide +kernel
theorem dX11_form_23 : decode cX11_form 23 = .ok (.invokevirtual 114, 3) := by decide +kernel
theorem dX11_form_26 : decode cX11_form 26 = .ok (.aload_n 0, 1) := by decide +kernel
theorem dX11_form_27 : decode cX11_form 27 = .ok (.getfield 35, 3) := by decide +kernel
theorem dX11_form_30 : decode cX11_form 30 = .ok (.iconst 0, 1) := by decide +kernel
theorem dX11_form_31 : decode cX11_form 31 = .ok (.putfield 117, 3) := by decide +kernel
theorem dX11_form_34 : decode cX11_form 34 = .ok (.aload_n 0, 1) := by decide +kernel
theorem dX11_form_35 : decode cX11_form 35 = .ok (.invokevirtual 118, 3) := by decide +kernel
theorem dX11_form_38 : decode cX11_form 38 = .ok (.iload_n 1, 1) := by decide +kernel
theorem dX11_form_39 : decode cX11_form 39 = .ok (.ireturn, 1) := by decide +kernel
theorem dX11_turning_0 : decode cX11_turning 0 = .ok (.aload_n 0, 1) := by decide +kernel
theorem dX11_turning_1 : decode cX11_turning 1 = .ok (.iload_n 1, 1) := by decide +kernel
theorem dX11_turning_2 : decode cX11_turning 2 = .ok (.invokevirtual 121, 3) := by decide +kernel
theorem dX11_turning_5 : decode cX11_turning 5 = .ok (.ifCond .ne 5, 3) := by decide +kernel
theorem dX11_turning_8 : decode cX11_turning 8 = .ok (.iconst (-1), 1) := by decide +kernel
theorem dX11_turning_9 : decode cX11_turning 9 = .ok (.ireturn, 1) := by decide +kernel
theorem dX11_turning_10 : decode cX11_turning 10 = .ok (.iload_n 2, 1) := by decide +kernel
theorem dX11_turning_11 : decode cX11_turning 11 = .ok (.tableswitch 64 0 2 #[25, 37, 49], 25) := by decide +kernel
theorem dX11_turning_36 : decode cX11_turning 36 = .ok (.aload_n 0, 1) := by decide +kernel
theorem dX11_turning_37 : decode cX11_turning 37 = .ok (.getfield 42, 3) := by decide +kernel
theorem dX11_turning_40 : decode cX11_turning 40 = .ok (.getfield 125, 3) := by decide +kernel
theorem dX11_turning_43 : decode cX11_turning 43 = .ok (.iload_n 1, 1) := by decide +kernel
theorem dX11_turning_44 : decode cX11_turning 44 = .ok (.invokestatic 128, 3) := by decide +kernel
theorem dX11_turning_47 : decode cX11_turning 47 = .ok (.ireturn, 1) := by decide +kernel
theorem dX11_turning_48 : decode cX11_turning 48 = .ok (.aload_n 0, 1) := by decide +kernel
theorem dX11_turning_49 : decode cX11_turning 49 = .ok (.getfield 28, 3) := by decide +kernel
theorem dX11_turning_52 : decode cX11_turning 52 = .ok (.getfield 132, 3) := by decide +kernel
theorem dX11_turning_55 : decode cX11_turning 55 = .ok (.iload_n 1, 1) := by decide +kernel
theorem dX11_turning_56 : decode cX11_turning 56 = .ok (.invokestatic 128, 3) := by decide +kernel
theorem dX11_turning_59 : decode cX11_turning 59 = .ok (.ireturn, 1) := by decide +kernel
theorem dX11_turning_60 : decode cX11_turning 60 = .ok (.aload_n 0, 1) := by decide +kernel
theorem dX11_turning_61 : decode cX11_turning 61 = .ok (.getfield 42, 3) := by decide +kernel
theorem dX11_turning_64 : decode cX11_turning 64 = .ok (.getfield 135, 3) := by decide +kernel
theorem dX11_turning_67 : decode cX11_turning 67 = .ok (.getfield 138, 3) := by decide +kernel
theorem dX11_turning_70 : decode cX11_turning 70 = .ok (.iload_n 1, 1) := by decide +kernel
theorem dX11_turning_71 : decode cX11_turning 71 = .ok (.invokestatic 128, 3) := by decide +kernel
theorem dX11_turning_74 : decode cX11_turning 74 = .ok (.ireturn, 1) := by decide +kernel
theorem dX11_turning_75 : decode cX11_turning 75 = .ok (.iconst (-1), 1) := by decide +kernel
theorem dX11_turning_76 : decode cX11_turning 76 = .ok (.ireturn, 1) := by decide +kernel
theorem dX11_end_0 : decode cX11_end 0 = .ok (.lload_n 1, 1) := by decide +kernel
theorem dX11_end_1 : decode cX11_end 1 = .ok (.invokestatic 141, 3) := by decide +kernel
theorem dX11_end_4 : decode cX11_end 4 = .ok (.ifCond .eq 23, 3) := by decide +kernel
theorem dX11_end_7 : decode cX11_end 7 = .ok (.aload_n 0, 1) := by decide +kernel
theorem dX11_end_8 : decode cX11_end 8 = .ok (.iload_n 3, 1) := by decide +kernel
theorem dX11_end_9 : decode cX11_end 9 = .ok (.invokevirtual 121, 3) := by decide +kernel
theorem dX11_end_12 : decode cX11_end 12 = .ok (.ifCond .eq 15, 3) := by decide +kernel
theorem dX11_end_15 : decode cX11_end 15 = .ok (.aload_n 0, 1) := by decide +kernel
theorem dX11_end_16 : decode cX11_end 16 = .ok (.getfield 42, 3) := by decide +kernel
theorem dX11_end_19 : decode cX11_end 19 = .ok (.lload_n 1, 1) := by decide +kernel
theorem dX11_end_20 : decode cX11_end 20 = .ok (.iload_n 3, 1) := by decide +kernel
theorem dX11_end_21 : decode cX11_end 21 = .ok (.invokevirtual 145, 3) := by decide +kernel
theorem dX11_end_24 : decode cX11_end 24 = .ok (.goto 4, 3) := by decide +kernel
theorem dX11_end_27 : decode cX11_end 27 = .ok (.iconst (-1), 1) := by decide +kernel
theorem dX11_end_28 : decode cX11_end 28 = .ok (.ireturn, 1) := by decide +kernel
theorem dX11_where_0 : decode cX11_where 0 = .ok (.lload_n 1, 1) := by decide +kernel
theorem dX11_where_1 : decode cX11_where 1 = .ok (.invokestatic 141, 3) := by decide +kernel
theorem dX11_where_4 : decode cX11_where 4 = .ok (.ifCond .eq 23, 3) := by decide +kernel
theorem dX11_where_7 : decode cX11_where 7 = .ok (.aload_n 0, 1) := by decide +kernel
theorem dX11_where_8 : decode cX11_where 8 = .ok (.iload_n 3, 1) := by decide +kernel
theorem dX11_where_9 : decode cX11_where 9 = .ok (.invokevirtual 121, 3) := by decide +kernel
theorem dX11_where_12 : decode cX11_where 12 = .ok (.ifCond .eq 15, 3) := by decide +kernel
theorem dX11_where_15 : decode cX11_where 15 = .ok (.aload_n 0, 1) := by decide +kernel
theorem dX11_where_16 : decode cX11_where 16 = .ok (.getfield 42, 3) := by decide +kernel
theorem dX11_where_19 : decode cX11_where 19 = .ok (.lload_n 1, 1) := by decide +kernel
theorem dX11_where_20 : decode cX11_where 20 = .ok (.iload_n 3, 1) := by decide +kernel
theorem dX11_where_21 : decode cX11_where 21 = .ok (.invokevirtual 149, 3) := by decide +kernel
theorem dX11_where_24 : decode cX11_where 24 = .ok (.goto 4, 3) := by decide +kernel
theorem dX11_where_27 : decode cX11_where 27 = .ok (.iconst (-1), 1) := by decide +kernel
theorem dX11_where_28 : decode cX11_where 28 = .ok (.ireturn, 1) := by decide +kernel
theorem dX11_meets_0 : decode cX11_meets 0 = .ok (.aload_n 0, 1) := by decide +kernel
theorem dX11_meets_1 : decode cX11_meets 1 = .ok (.iload_n 1, 1) := by decide +kernel
theorem dX11_meets_2 : decode cX11_meets 2 = .ok (.invokevirtual 121, 3) := by decide +kernel
theorem dX11_meets_5 : decode cX11_meets 5 = .ok (.ifCond .eq 23, 3) := by decide +kernel
theorem dX11_meets_8 : decode cX11_meets 8 = .ok (.aload_n 0, 1) := by decide +kernel
theorem dX11_meets_9 : decode cX11_meets 9 = .ok (.iload_n 2, 1) := by decide +kernel
theorem dX11_meets_10 : decode cX11_meets 10 = .ok (.invokevirtual 121, 3) := by decide +kernel
theorem dX11_meets_13 : decode cX11_meets 13 = .ok (.ifCond .eq 15, 3) := by decide +kernel
theorem dX11_meets_16 : decode cX11_meets 16 = .ok (.aload_n 0, 1) := by decide +kernel
theorem dX11_meets_17 : decode cX11_meets 17 = .ok (.getfield 42, 3) := by decide +kernel
theorem dX11_meets_20 : decode cX11_meets 20 = .ok (.iload_n 1, 1) := by decide +kernel
theorem dX11_meets_21 : decode cX11_meets 21 = .ok (.iload_n 2, 1) := by decide +kernel
theorem dX11_meets_22 : decode cX11_meets 22 = .ok (.invokevirtual 152, 3) := by decide +kernel
theorem dX11_meets_25 : decode cX11_meets 25 = .ok (.goto 4, 3) := by decide +kernel
theorem dX11_meets_28 : decode cX11_meets 28 = .ok (.iconst (-1), 1) := by decide +kernel
theorem dX11_meets_29 : decode cX11_meets 29 = .ok (.ireturn, 1) := by decide +kernel
theorem dX11_round_0 : decode cX11_round 0 = .ok (.iload_n 1, 1) := by decide +kernel
theorem dX11_round_1 : decode cX11_round 1 = .ok (.tableswitch 101 0 4 #[35, 47, 58, 69, 80], 35) := by decide +kernel
theorem dX11_round_36 : decode cX11_round 36 = .ok (.aload_n 0, 1) := by decide +kernel
theorem dX11_round_37 : decode cX11_round 37 = .ok (.getfield 42, 3) := by decide +kernel
theorem dX11_round_40 : decode cX11_round 40 = .ok (.getfield 135, 3) := by decide +kernel
theorem dX11_round_43 : decode cX11_round 43 = .ok (.getfield 156, 3) := by decide +kernel
theorem dX11_round_46 : decode cX11_round 46 = .ok (.l2i, 1) := by decide +kernel
theorem dX11_round_47 : decode cX11_round 47 = .ok (.ireturn, 1) := by decide +kernel
theorem dX11_round_48 : decode cX11_round 48 = .ok (.aload_n 0, 1) := by decide +kernel
theorem dX11_round_49 : decode cX11_round 49 = .ok (.getfield 42, 3) := by decide +kernel
theorem dX11_round_52 : decode cX11_round 52 = .ok (.getfield 135, 3) := by decide +kernel
theorem dX11_round_55 : decode cX11_round 55 = .ok (.getfield 160, 3) := by decide +kernel
theorem dX11_round_58 : decode cX11_round 58 = .ok (.ireturn, 1) := by decide +kernel
theorem dX11_round_59 : decode cX11_round 59 = .ok (.aload_n 0, 1) := by decide +kernel
theorem dX11_round_60 : decode cX11_round 60 = .ok (.getfield 42, 3) := by decide +kernel
theorem dX11_round_63 : decode cX11_round 63 = .ok (.getfield 135, 3) := by decide +kernel
theorem dX11_round_66 : decode cX11_round 66 = .ok (.getfield 163, 3) := by decide +kernel
theorem dX11_round_69 : decode cX11_round 69 = .ok (.ireturn, 1) := by decide +kernel
theorem dX11_round_70 : decode cX11_round 70 = .ok (.aload_n 0, 1) := by decide +kernel
theorem dX11_round_71 : decode cX11_round 71 = .ok (.getfield 42, 3) := by decide +kernel
theorem dX11_round_74 : decode cX11_round 74 = .ok (.getfield 135, 3) := by decide +kernel
theorem dX11_round_77 : decode cX11_round 77 = .ok (.getfield 166, 3) := by decide +kernel
theorem dX11_round_80 : decode cX11_round 80 = .ok (.ireturn, 1) := by decide +kernel
theorem dX11_round_81 : decode cX11_round 81 = .ok (.aload_n 0, 1) := by decide +kernel
theorem dX11_round_82 : decode cX11_round 82 = .ok (.getfield 28, 3) := by decide +kernel
theorem dX11_round_85 : decode cX11_round 85 = .ok (.getfield 169, 3) := by decide +kernel
theorem dX11_round_88 : decode cX11_round 88 = .ok (.aload_n 0, 1) := by decide +kernel
theorem dX11_round_89 : decode cX11_round 89 = .ok (.getfield 42, 3) := by decide +kernel
theorem dX11_round_92 : decode cX11_round 92 = .ok (.getfield 135, 3) := by decide +kernel
theorem dX11_round_95 : decode cX11_round 95 = .ok (.getfield 160, 3) := by decide +kernel
theorem dX11_round_98 : decode cX11_round 98 = .ok (.isub, 1) := by decide +kernel
theorem dX11_round_99 : decode cX11_round 99 = .ok (.iconst 1, 1) := by decide +kernel
theorem dX11_round_100 : decode cX11_round 100 = .ok (.iand, 1) := by decide +kernel
theorem dX11_round_101 : decode cX11_round 101 = .ok (.ireturn, 1) := by decide +kernel
theorem dX11_round_102 : decode cX11_round 102 = .ok (.iconst (-1), 1) := by decide +kernel
theorem dX11_round_103 : decode cX11_round 103 = .ok (.ireturn, 1) := by decide +kernel
theorem dX11_roots_0 : decode cX11_roots 0 = .ok (.lconst 1, 1) := by decide +kernel
theorem dX11_roots_1 : decode cX11_roots 1 = .ok (.lstore_n 1, 1) := by decide +kernel
theorem dX11_roots_2 : decode cX11_roots 2 = .ok (.iconst 1, 1) := by decide +kernel
theorem dX11_roots_3 : decode cX11_roots 3 = .ok (.istore_n 3, 1) := by decide +kernel
theorem dX11_roots_4 : decode cX11_roots 4 = .ok (.iload_n 3, 1) := by decide +kernel
theorem dX11_roots_5 : decode cX11_roots 5 = .ok (.aload_n 0, 1) := by decide +kernel
theorem dX11_roots_6 : decode cX11_roots 6 = .ok (.getfield 28, 3) := by decide +kernel
theorem dX11_roots_9 : decode cX11_roots 9 = .ok (.getfield 169, 3) := by decide +kernel
theorem dX11_roots_12 : decode cX11_roots 12 = .ok (.if_icmp .gt 27, 3) := by decide +kernel
theorem dX11_roots_15 : decode cX11_roots 15 = .ok (.lload_n 1, 1) := by decide +kernel
theorem dX11_roots_16 : decode cX11_roots 16 = .ok (.iload_n 3, 1) := by decide +kernel
theorem dX11_roots_17 : decode cX11_roots 17 = .ok (.aload_n 0, 1) := by decide +kernel
theorem dX11_roots_18 : decode cX11_roots 18 = .ok (.getfield 42, 3) := by decide +kernel
theorem dX11_roots_21 : decode cX11_roots 21 = .ok (.getfield 135, 3) := by decide +kernel
theorem dX11_roots_24 : decode cX11_roots 24 = .ok (.iload_n 3, 1) := by decide +kernel
theorem dX11_roots_25 : decode cX11_roots 25 = .ok (.invokevirtual 172, 3) := by decide +kernel
theorem dX11_roots_28 : decode cX11_roots 28 = .ok (.invokestatic 176, 3) := by decide +kernel
theorem dX11_roots_31 : decode cX11_roots 31 = .ok (.lmul, 1) := by decide +kernel
theorem dX11_roots_32 : decode cX11_roots 32 = .ok (.lstore_n 1, 1) := by decide +kernel
theorem dX11_roots_33 : decode cX11_roots 33 = .ok (.iinc 3 1, 3) := by decide +kernel
theorem dX11_roots_36 : decode cX11_roots 36 = .ok (.goto (-32), 3) := by decide +kernel
theorem dX11_roots_39 : decode cX11_roots 39 = .ok (.lload_n 1, 1) := by decide +kernel
theorem dX11_roots_40 : decode cX11_roots 40 = .ok (.lreturn, 1) := by decide +kernel
theorem dX11_spiral_0 : decode cX11_spiral 0 = .ok (.iload_n 1, 1) := by decide +kernel
theorem dX11_spiral_1 : decode cX11_spiral 1 = .ok (.iconst 1, 1) := by decide +kernel
theorem dX11_spiral_2 : decode cX11_spiral 2 = .ok (.if_icmp .lt 10, 3) := by decide +kernel
theorem dX11_spiral_5 : decode cX11_spiral 5 = .ok (.iload_n 1, 1) := by decide +kernel
theorem dX11_spiral_6 : decode cX11_spiral 6 = .ok (.sipush 200, 3) := by decide +kernel
theorem dX11_spiral_9 : decode cX11_spiral 9 = .ok (.if_icmp .le 5, 3) := by decide +kernel
theorem dX11_spiral_12 : decode cX11_spiral 12 = .ok (.iconst (-1), 1) := by decide +kernel
theorem dX11_spiral_13 : decode cX11_spiral 13 = .ok (.ireturn, 1) := by decide +kernel
theorem dX11_spiral_14 : decode cX11_spiral 14 = .ok (.iconst 0, 1) := by decide +kernel
theorem dX11_spiral_15 : decode cX11_spiral 15 = .ok (.istore_n 3, 1) := by decide +kernel
theorem dX11_spiral_16 : decode cX11_spiral 16 = .ok (.iload_n 3, 1) := by decide +kernel
theorem dX11_spiral_17 : decode cX11_spiral 17 = .ok (.iload_n 1, 1) := by decide +kernel
theorem dX11_spiral_18 : decode cX11_spiral 18 = .ok (.if_icmp .ge 22, 3) := by decide +kernel
theorem dX11_spiral_21 : decode cX11_spiral 21 = .ok (.aload_n 0, 1) := by decide +kernel
theorem dX11_spiral_22 : decode cX11_spiral 22 = .ok (.getfield 89, 3) := by decide +kernel
theorem dX11_spiral_25 : decode cX11_spiral 25 = .ok (.iload_n 3, 1) := by decide +kernel
theorem dX11_spiral_26 : decode cX11_spiral 26 = .ok (.iload_n 1, 1) := by decide +kernel
theorem dX11_spiral_27 : decode cX11_spiral 27 = .ok (.iload_n 3, 1) := by decide +kernel
theorem dX11_spiral_28 : decode cX11_spiral 28 = .ok (.invokestatic 180, 3) := by decide +kernel
theorem dX11_spiral_31 : decode cX11_spiral 31 = .ok (.invokestatic 183, 3) := by decide +kernel
theorem dX11_spiral_34 : decode cX11_spiral 34 = .ok (.iinc 3 1, 3) := by decide +kernel
theorem dX11_spiral_37 : decode cX11_spiral 37 = .ok (.goto (-21), 3) := by decide +kernel
theorem dX11_spiral_40 : decode cX11_spiral 40 = .ok (.aload_n 0, 1) := by decide +kernel
theorem dX11_spiral_41 : decode cX11_spiral 41 = .ok (.getfield 85, 3) := by decide +kernel
theorem dX11_spiral_44 : decode cX11_spiral 44 = .ok (.aload_n 0, 1) := by decide +kernel
theorem dX11_spiral_45 : decode cX11_spiral 45 = .ok (.getfield 89, 3) := by decide +kernel
theorem dX11_spiral_48 : decode cX11_spiral 48 = .ok (.iload_n 1, 1) := by decide +kernel
theorem dX11_spiral_49 : decode cX11_spiral 49 = .ok (.invokevirtual 187, 3) := by decide +kernel
theorem dX11_spiral_52 : decode cX11_spiral 52 = .ok (.iload_n 2, 1) := by decide +kernel
theorem dX11_spiral_53 : decode cX11_spiral 53 = .ok (.tableswitch 56 0 2 #[27, 35, 43], 27) := by decide +kernel
theorem dX11_spiral_80 : decode cX11_spiral 80 = .ok (.aload_n 0, 1) := by decide +kernel
theorem dX11_spiral_81 : decode cX11_spiral 81 = .ok (.getfield 85, 3) := by decide +kernel
theorem dX11_spiral_84 : decode cX11_spiral 84 = .ok (.getfield 160, 3) := by decide +kernel
theorem dX11_spiral_87 : decode cX11_spiral 87 = .ok (.ireturn, 1) := by decide +kernel
theorem dX11_spiral_88 : decode cX11_spiral 88 = .ok (.aload_n 0, 1) := by decide +kernel
theorem dX11_spiral_89 : decode cX11_spiral 89 = .ok (.getfield 85, 3) := by decide +kernel
theorem dX11_spiral_92 : decode cX11_spiral 92 = .ok (.getfield 163, 3) := by decide +kernel
theorem dX11_spiral_95 : decode cX11_spiral 95 = .ok (.ireturn, 1) := by decide +kernel
theorem dX11_spiral_96 : decode cX11_spiral 96 = .ok (.aload_n 0, 1) := by decide +kernel
theorem dX11_spiral_97 : decode cX11_spiral 97 = .ok (.getfield 85, 3) := by decide +kernel
theorem dX11_spiral_100 : decode cX11_spiral 100 = .ok (.getfield 156, 3) := by decide +kernel
theorem dX11_spiral_103 : decode cX11_spiral 103 = .ok (.ldc2_w 190, 3) := by decide +kernel
theorem dX11_spiral_106 : decode cX11_spiral 106 = .ok (.lrem, 1) := by decide +kernel
theorem dX11_spiral_107 : decode cX11_spiral 107 = .ok (.l2i, 1) := by decide +kernel
theorem dX11_spiral_108 : decode cX11_spiral 108 = .ok (.ireturn, 1) := by decide +kernel
theorem dX11_spiral_109 : decode cX11_spiral 109 = .ok (.iconst (-1), 1) := by decide +kernel
theorem dX11_spiral_110 : decode cX11_spiral 110 = .ok (.ireturn, 1) := by decide +kernel
theorem dX11_rhymes_0 : decode cX11_rhymes 0 = .ok (.aload_n 0, 1) := by decide +kernel
theorem dX11_rhymes_1 : decode cX11_rhymes 1 = .ok (.iload_n 1, 1) := by decide +kernel
theorem dX11_rhymes_2 : decode cX11_rhymes 2 = .ok (.invokevirtual 121, 3) := by decide +kernel
theorem dX11_rhymes_5 : decode cX11_rhymes 5 = .ok (.ifCond .eq 17, 3) := by decide +kernel
theorem dX11_rhymes_8 : decode cX11_rhymes 8 = .ok (.aload_n 0, 1) := by decide +kernel
theorem dX11_rhymes_9 : decode cX11_rhymes 9 = .ok (.getfield 42, 3) := by decide +kernel
theorem dX11_rhymes_12 : decode cX11_rhymes 12 = .ok (.getfield 192, 3) := by decide +kernel
theorem dX11_rhymes_15 : decode cX11_rhymes 15 = .ok (.iload_n 1, 1) := by decide +kernel
theorem dX11_rhymes_16 : decode cX11_rhymes 16 = .ok (.invokestatic 128, 3) := by decide +kernel
theorem dX11_rhymes_19 : decode cX11_rhymes 19 = .ok (.goto 4, 3) := by decide +kernel
theorem dX11_rhymes_22 : decode cX11_rhymes 22 = .ok (.iconst (-1), 1) := by decide +kernel
theorem dX11_rhymes_23 : decode cX11_rhymes 23 = .ok (.ireturn, 1) := by decide +kernel
theorem dX11_beside_0 : decode cX11_beside 0 = .ok (.aload_n 0, 1) := by decide +kernel
theorem dX11_beside_1 : decode cX11_beside 1 = .ok (.iload_n 1, 1) := by decide +kernel
theorem dX11_beside_2 : decode cX11_beside 2 = .ok (.invokevirtual 121, 3) := by decide +kernel
theorem dX11_beside_5 : decode cX11_beside 5 = .ok (.ifCond .eq 16, 3) := by decide +kernel
theorem dX11_beside_8 : decode cX11_beside 8 = .ok (.aload_n 0, 1) := by decide +kernel
theorem dX11_beside_9 : decode cX11_beside 9 = .ok (.iload_n 2, 1) := by decide +kernel
theorem dX11_beside_10 : decode cX11_beside 10 = .ok (.invokevirtual 121, 3) := by decide +kernel
theorem dX11_beside_13 : decode cX11_beside 13 = .ok (.ifCond .eq 8, 3) := by decide +kernel
theorem dX11_beside_16 : decode cX11_beside 16 = .ok (.iload_n 1, 1) := by decide +kernel
theorem dX11_beside_17 : decode cX11_beside 17 = .ok (.iload_n 2, 1) := by decide +kernel
theorem dX11_beside_18 : decode cX11_beside 18 = .ok (.if_icmp .ne 5, 3) := by decide +kernel
theorem dX11_beside_21 : decode cX11_beside 21 = .ok (.iconst (-1), 1) := by decide +kernel
theorem dX11_beside_22 : decode cX11_beside 22 = .ok (.ireturn, 1) := by decide +kernel
theorem dX11_beside_23 : decode cX11_beside 23 = .ok (.aload_n 0, 1) := by decide +kernel
theorem dX11_beside_24 : decode cX11_beside 24 = .ok (.getfield 42, 3) := by decide +kernel
theorem dX11_beside_27 : decode cX11_beside 27 = .ok (.iload_n 1, 1) := by decide +kernel
theorem dX11_beside_28 : decode cX11_beside 28 = .ok (.iload_n 2, 1) := by decide +kernel
theorem dX11_beside_29 : decode cX11_beside 29 = .ok (.invokevirtual 195, 3) := by decide +kernel
theorem dX11_beside_32 : decode cX11_beside 32 = .ok (.aload_n 0, 1) := by decide +kernel
theorem dX11_beside_33 : decode cX11_beside 33 = .ok (.getfield 42, 3) := by decide +kernel
theorem dX11_beside_36 : decode cX11_beside 36 = .ok (.iload_n 2, 1) := by decide +kernel
theorem dX11_beside_37 : decode cX11_beside 37 = .ok (.iload_n 1, 1) := by decide +kernel
theorem dX11_beside_38 : decode cX11_beside 38 = .ok (.invokevirtual 195, 3) := by decide +kernel
theorem dX11_beside_41 : decode cX11_beside 41 = .ok (.iadd, 1) := by decide +kernel
theorem dX11_beside_42 : decode cX11_beside 42 = .ok (.ireturn, 1) := by decide +kernel
theorem dX11_word_0 : decode cX11_word 0 = .ok (.aload_n 0, 1) := by decide +kernel
theorem dX11_word_1 : decode cX11_word 1 = .ok (.iload_n 1, 1) := by decide +kernel
theorem dX11_word_2 : decode cX11_word 2 = .ok (.invokevirtual 198, 3) := by decide +kernel
theorem dX11_word_5 : decode cX11_word 5 = .ok (.ifCond .ne 5, 3) := by decide +kernel
theorem dX11_word_8 : decode cX11_word 8 = .ok (.iconst (-1), 1) := by decide +kernel
theorem dX11_word_9 : decode cX11_word 9 = .ok (.ireturn, 1) := by decide +kernel
theorem dX11_word_10 : decode cX11_word 10 = .ok (.iload_n 2, 1) := by decide +kernel
theorem dX11_word_11 : decode cX11_word 11 = .ok (.tableswitch 61 0 2 #[25, 37, 49], 25) := by decide +kernel
theorem dX11_word_36 : decode cX11_word 36 = .ok (.aload_n 0, 1) := by decide +kernel
theorem dX11_word_37 : decode cX11_word 37 = .ok (.getfield 28, 3) := by decide +kernel
theorem dX11_word_40 : decode cX11_word 40 = .ok (.getfield 201, 3) := by decide +kernel
theorem dX11_word_43 : decode cX11_word 43 = .ok (.iload_n 1, 1) := by decide +kernel
theorem dX11_word_44 : decode cX11_word 44 = .ok (.invokestatic 128, 3) := by decide +kernel
theorem dX11_word_47 : decode cX11_word 47 = .ok (.ireturn, 1) := by decide +kernel
theorem dX11_word_48 : decode cX11_word 48 = .ok (.aload_n 0, 1) := by decide +kernel
theorem dX11_word_49 : decode cX11_word 49 = .ok (.getfield 28, 3) := by decide +kernel
theorem dX11_word_52 : decode cX11_word 52 = .ok (.getfield 204, 3) := by decide +kernel
theorem dX11_word_55 : decode cX11_word 55 = .ok (.iload_n 1, 1) := by decide +kernel
theorem dX11_word_56 : decode cX11_word 56 = .ok (.invokestatic 128, 3) := by decide +kernel
theorem dX11_word_59 : decode cX11_word 59 = .ok (.ireturn, 1) := by decide +kernel
theorem dX11_word_60 : decode cX11_word 60 = .ok (.aload_n 0, 1) := by decide +kernel
theorem dX11_word_61 : decode cX11_word 61 = .ok (.getfield 28, 3) := by decide +kernel
theorem dX11_word_64 : decode cX11_word 64 = .ok (.getfield 207, 3) := by decide +kernel
theorem dX11_word_67 : decode cX11_word 67 = .ok (.iload_n 1, 1) := by decide +kernel
theorem dX11_word_68 : decode cX11_word 68 = .ok (.invokestatic 128, 3) := by decide +kernel
theorem dX11_word_71 : decode cX11_word 71 = .ok (.ireturn, 1) := by decide +kernel
theorem dX11_word_72 : decode cX11_word 72 = .ok (.iconst (-1), 1) := by decide +kernel
theorem dX11_word_73 : decode cX11_word 73 = .ok (.ireturn, 1) := by decide +kernel
theorem dX11_barred_0 : decode cX11_barred 0 = .ok (.aload_n 0, 1) := by decide +kernel
theorem dX11_barred_1 : decode cX11_barred 1 = .ok (.iload_n 1, 1) := by decide +kernel
theorem dX11_barred_2 : decode cX11_barred 2 = .ok (.invokevirtual 198, 3) := by decide +kernel
theorem dX11_barred_5 : decode cX11_barred 5 = .ok (.ifCond .eq 11, 3) := by decide +kernel
theorem dX11_barred_8 : decode cX11_barred 8 = .ok (.aload_n 0, 1) := by decide +kernel
theorem dX11_barred_9 : decode cX11_barred 9 = .ok (.iload_n 2, 1) := by decide +kernel
theorem dX11_barred_10 : decode cX11_barred 10 = .ok (.invokevirtual 198, 3) := by decide +kernel
theorem dX11_barred_13 : decode cX11_barred 13 = .ok (.ifCond .ne 5, 3) := by decide +kernel
theorem dX11_barred_16 : decode cX11_barred 16 = .ok (.iconst (-1), 1) := by decide +kernel
theorem dX11_barred_17 : decode cX11_barred 17 = .ok (.ireturn, 1) := by decide +kernel
theorem dX11_barred_18 : decode cX11_barred 18 = .ok (.aload_n 0, 1) := by decide +kernel
theorem dX11_barred_19 : decode cX11_barred 19 = .ok (.getfield 28, 3) := by decide +kernel
theorem dX11_barred_22 : decode cX11_barred 22 = .ok (.iload_n 1, 1) := by decide +kernel
theorem dX11_barred_23 : decode cX11_barred 23 = .ok (.iload_n 2, 1) := by decide +kernel
theorem dX11_barred_24 : decode cX11_barred 24 = .ok (.invokevirtual 210, 3) := by decide +kernel
theorem dX11_barred_27 : decode cX11_barred 27 = .ok (.ifCond .eq 7, 3) := by decide +kernel
theorem dX11_barred_30 : decode cX11_barred 30 = .ok (.iconst 1, 1) := by decide +kernel
theorem dX11_barred_31 : decode cX11_barred 31 = .ok (.goto 4, 3) := by decide +kernel
theorem dX11_barred_34 : decode cX11_barred 34 = .ok (.iconst 0, 1) := by decide +kernel
theorem dX11_barred_35 : decode cX11_barred 35 = .ok (.ireturn, 1) := by decide +kernel
theorem dX11_fills_0 : decode cX11_fills 0 = .ok (.aload_n 0, 1) := by decide +kernel
theorem dX11_fills_1 : decode cX11_fills 1 = .ok (.getfield 28, 3) := by decide +kernel
theorem dX11_fills_4 : decode cX11_fills 4 = .ok (.getfield 169, 3) := by decide +kernel
theorem dX11_fills_7 : decode cX11_fills 7 = .ok (.bipush 7, 2) := by decide +kernel
theorem dX11_fills_9 : decode cX11_fills 9 = .ok (.if_icmp .le 9, 3) := by decide +kernel
theorem dX11_fills_12 : decode cX11_fills 12 = .ok (.ldc2_w 214, 3) := by decide +kernel
theorem dX11_fills_15 : decode cX11_fills 15 = .ok (.goto 10, 3) := by decide +kernel
theorem dX11_fills_18 : decode cX11_fills 18 = .ok (.aload_n 0, 1) := by decide +kernel
theorem dX11_fills_19 : decode cX11_fills 19 = .ok (.getfield 51, 3) := by decide +kernel
theorem dX11_fills_22 : decode cX11_fills 22 = .ok (.invokevirtual 216, 3) := by decide +kernel
theorem dX11_fills_25 : decode cX11_fills 25 = .ok (.lreturn, 1) := by decide +kernel
theorem dX11_fill_0 : decode cX11_fill 0 = .ok (.aload_n 0, 1) := by decide +kernel
theorem dX11_fill_1 : decode cX11_fill 1 = .ok (.getfield 28, 3) := by decide +kernel
theorem dX11_fill_4 : decode cX11_fill 4 = .ok (.getfield 169, 3) := by decide +kernel
theorem dX11_fill_7 : decode cX11_fill 7 = .ok (.bipush 7, 2) := by decide +kernel
theorem dX11_fill_9 : decode cX11_fill 9 = .ok (.if_icmp .gt 21, 3) := by decide +kernel
theorem dX11_fill_12 : decode cX11_fill 12 = .ok (.aload_n 0, 1) := by decide +kernel
theorem dX11_fill_13 : decode cX11_fill 13 = .ok (.iload_n 1, 1) := by decide +kernel
theorem dX11_fill_14 : decode cX11_fill 14 = .ok (.invokevirtual 121, 3) := by decide +kernel
theorem dX11_fill_17 : decode cX11_fill 17 = .ok (.ifCond .eq 13, 3) := by decide +kernel
theorem dX11_fill_20 : decode cX11_fill 20 = .ok (.aload_n 0, 1) := by decide +kernel
theorem dX11_fill_21 : decode cX11_fill 21 = .ok (.getfield 51, 3) := by decide +kernel
theorem dX11_fill_24 : decode cX11_fill 24 = .ok (.invokevirtual 220, 3) := by decide +kernel
theorem dX11_fill_27 : decode cX11_fill 27 = .ok (.ifCond .ne 5, 3) := by decide +kernel
theorem dX11_fill_30 : decode cX11_fill 30 = .ok (.iconst (-1), 1) := by decide +kernel
theorem dX11_fill_31 : decode cX11_fill 31 = .ok (.ireturn, 1) := by decide +kernel
theorem dX11_fill_32 : decode cX11_fill 32 = .ok (.aload_n 0, 1) := by decide +kernel
theorem dX11_fill_33 : decode cX11_fill 33 = .ok (.getfield 51, 3) := by decide +kernel
theorem dX11_fill_36 : decode cX11_fill 36 = .ok (.getfield 224, 3) := by decide +kernel
theorem dX11_fill_39 : decode cX11_fill 39 = .ok (.iload_n 1, 1) := by decide +kernel
theorem dX11_fill_40 : decode cX11_fill 40 = .ok (.invokestatic 128, 3) := by decide +kernel
theorem dX11_fill_43 : decode cX11_fill 43 = .ok (.ireturn, 1) := by decide +kernel
theorem dX11_stuck_0 : decode cX11_stuck 0 = .ok (.iload_n 1, 1) := by decide +kernel
theorem dX11_stuck_1 : decode cX11_stuck 1 = .ok (.ifCond .lt 30, 3) := by decide +kernel
theorem dX11_stuck_4 : decode cX11_stuck 4 = .ok (.iload_n 1, 1) := by decide +kernel
theorem dX11_stuck_5 : decode cX11_stuck 5 = .ok (.iconst 1, 1) := by decide +kernel
theorem dX11_stuck_6 : decode cX11_stuck 6 = .ok (.if_icmp .gt 25, 3) := by decide +kernel
theorem dX11_stuck_9 : decode cX11_stuck 9 = .ok (.aload_n 0, 1) := by decide +kernel
theorem dX11_stuck_10 : decode cX11_stuck 10 = .ok (.getfield 28, 3) := by decide +kernel
theorem dX11_stuck_13 : decode cX11_stuck 13 = .ok (.getfield 169, 3) := by decide +kernel
theorem dX11_stuck_16 : decode cX11_stuck 16 = .ok (.bipush 7, 2) := by decide +kernel
theorem dX11_stuck_18 : decode cX11_stuck 18 = .ok (.if_icmp .gt 13, 3) := by decide +kernel
theorem dX11_stuck_21 : decode cX11_stuck 21 = .ok (.aload_n 0, 1) := by decide +kernel
theorem dX11_stuck_22 : decode cX11_stuck 22 = .ok (.getfield 51, 3) := by decide +kernel
theorem dX11_stuck_25 : decode cX11_stuck 25 = .ok (.invokevirtual 220, 3) := by decide +kernel
theorem dX11_stuck_28 : decode cX11_stuck 28 = .ok (.ifCond .eq 5, 3) := by decide +kernel
theorem dX11_stuck_31 : decode cX11_stuck 31 = .ok (.iconst (-1), 1) := by decide +kernel
theorem dX11_stuck_32 : decode cX11_stuck 32 = .ok (.ireturn, 1) := by decide +kernel
theorem dX11_stuck_33 : decode cX11_stuck 33 = .ok (.aload_n 0, 1) := by decide +kernel
theorem dX11_stuck_34 : decode cX11_stuck 34 = .ok (.getfield 51, 3) := by decide +kernel
theorem dX11_stuck_37 : decode cX11_stuck 37 = .ok (.invokevirtual 227, 3) := by decide +kernel
theorem dX11_stuck_40 : decode cX11_stuck 40 = .ok (.istore_n 2, 1) := by decide +kernel
theorem dX11_stuck_41 : decode cX11_stuck 41 = .ok (.iload_n 1, 1) := by decide +kernel
theorem dX11_stuck_42 : decode cX11_stuck 42 = .ok (.ifCond .ne 10, 3) := by decide +kernel
theorem dX11_stuck_45 : decode cX11_stuck 45 = .ok (.iload_n 2, 1) := by decide +kernel
theorem dX11_stuck_46 : decode cX11_stuck 46 = .ok (.invokestatic 230, 3) := by decide +kernel
theorem dX11_stuck_49 : decode cX11_stuck 49 = .ok (.goto 4, 3) := by decide +kernel
theorem dX11_stuck_52 : decode cX11_stuck 52 = .ok (.iload_n 2, 1) := by decide +kernel
theorem dX11_stuck_53 : decode cX11_stuck 53 = .ok (.ireturn, 1) := by decide +kernel
theorem dX11_line_0 : decode cX11_line 0 = .ok (.aload_n 0, 1) := by decide +kernel
theorem dX11_line_1 : decode cX11_line 1 = .ok (.iload_n 1, 1) := by decide +kernel
theorem dX11_line_2 : decode cX11_line 2 = .ok (.invokevirtual 198, 3) := by decide +kernel
theorem dX11_line_5 : decode cX11_line 5 = .ok (.ifCond .eq 36, 3) := by decide +kernel
theorem dX11_line_8 : decode cX11_line 8 = .ok (.iload_n 2, 1) := by decide +kernel
theorem dX11_line_9 : decode cX11_line 9 = .ok (.ifCond .lt 32, 3) := by decide +kernel
theorem dX11_line_12 : decode cX11_line 12 = .ok (.iload_n 2, 1) := by decide +kernel
theorem dX11_line_13 : decode cX11_line 13 = .ok (.sipush 999, 3) := by decide +kernel
theorem dX11_line_16 : decode cX11_line 16 = .ok (.if_icmp .gt 25, 3) := by decide +kernel
theorem dX11_line_19 : decode cX11_line 19 = .ok (.iload_n 3, 1) := by decide +kernel
theorem dX11_line_20 : decode cX11_line 20 = .ok (.ifCond .lt 21, 3) := by decide +kernel
theorem dX11_line_23 : decode cX11_line 23 = .ok (.iload_n 3, 1) := by decide +kernel
theorem dX11_line_24 : decode cX11_line 24 = .ok (.bipush 99, 2) := by decide +kernel
theorem dX11_line_26 : decode cX11_line 26 = .ok (.if_icmp .gt 15, 3) := by decide +kernel
theorem dX11_line_29 : decode cX11_line 29 = .ok (.aload_n 0, 1) := by decide +kernel
theorem dX11_line_30 : decode cX11_line 30 = .ok (.getfield 35, 3) := by decide +kernel
theorem dX11_line_33 : decode cX11_line 33 = .ok (.getfield 117, 3) := by decide +kernel
theorem dX11_line_36 : decode cX11_line 36 = .ok (.bipush 60, 2) := by decide +kernel
theorem dX11_line_38 : decode cX11_line 38 = .ok (.if_icmp .lt 5, 3) := by decide +kernel
theorem dX11_line_41 : decode cX11_line 41 = .ok (.iconst (-1), 1) := by decide +kernel
theorem dX11_line_42 : decode cX11_line 42 = .ok (.ireturn, 1) := by decide +kernel
theorem dX11_line_43 : decode cX11_line 43 = .ok (.aload_n 0, 1) := by decide +kernel
theorem dX11_line_44 : decode cX11_line 44 = .ok (.getfield 35, 3) := by decide +kernel
theorem dX11_line_47 : decode cX11_line 47 = .ok (.iload_n 1, 1) := by decide +kernel
theorem dX11_line_48 : decode cX11_line 48 = .ok (.iload_n 2, 1) := by decide +kernel
theorem dX11_line_49 : decode cX11_line 49 = .ok (.iload_n 3, 1) := by decide +kernel
theorem dX11_line_50 : decode cX11_line 50 = .ok (.invokevirtual 235, 3) := by decide +kernel
theorem dX11_line_53 : decode cX11_line 53 = .ok (.aload_n 0, 1) := by decide +kernel
theorem dX11_line_54 : decode cX11_line 54 = .ok (.getfield 60, 3) := by decide +kernel
theorem dX11_line_57 : decode cX11_line 57 = .ok (.invokevirtual 239, 3) := by decide +kernel
theorem dX11_line_60 : decode cX11_line 60 = .ok (.aload_n 0, 1) := by decide +kernel
theorem dX11_line_61 : decode cX11_line 61 = .ok (.getfield 35, 3) := by decide +kernel
theorem dX11_line_64 : decode cX11_line 64 = .ok (.getfield 117, 3) := by decide +kernel
theorem dX11_line_67 : decode cX11_line 67 = .ok (.ireturn, 1) := by decide +kernel
theorem dX11_clear_0 : decode cX11_clear 0 = .ok (.aload_n 0, 1) := by decide +kernel
theorem dX11_clear_1 : decode cX11_clear 1 = .ok (.getfield 35, 3) := by decide +kernel
theorem dX11_clear_4 : decode cX11_clear 4 = .ok (.iconst 0, 1) := by decide +kernel
theorem dX11_clear_5 : decode cX11_clear 5 = .ok (.putfield 117, 3) := by decide +kernel
theorem dX11_clear_8 : decode cX11_clear 8 = .ok (.aload_n 0, 1) := by decide +kernel
theorem dX11_clear_9 : decode cX11_clear 9 = .ok (.getfield 60, 3) := by decide +kernel
theorem dX11_clear_12 : decode cX11_clear 12 = .ok (.invokevirtual 239, 3) := by decide +kernel
theorem dX11_clear_15 : decode cX11_clear 15 = .ok (.iconst 1, 1) := by decide +kernel
theorem dX11_clear_16 : decode cX11_clear 16 = .ok (.ireturn, 1) := by decide +kernel
theorem dX11_judged_0 : decode cX11_judged 0 = .ok (.iload_n 1, 1) := by decide +kernel
theorem dX11_judged_1 : decode cX11_judged 1 = .ok (.ifCond .lt 8, 3) := by decide +kernel
theorem dX11_judged_4 : decode cX11_judged 4 = .ok (.iload_n 1, 1) := by decide +kernel
theorem dX11_judged_5 : decode cX11_judged 5 = .ok (.iconst 1, 1) := by decide +kernel
theorem dX11_judged_6 : decode cX11_judged 6 = .ok (.if_icmp .le 13, 3) := by decide +kernel
theorem dX11_judged_9 : decode cX11_judged 9 = .ok (.new 242, 3) := by decide +kernel
theorem dX11_judged_12 : decode cX11_judged 12 = .ok (.dup, 1) := by decide +kernel
theorem dX11_judged_13 : decode cX11_judged 13 = .ok (.ldc 244, 2) := by decide +kernel
theorem dX11_judged_15 : decode cX11_judged 15 = .ok (.invokespecial 246, 3) := by decide +kernel
theorem dX11_judged_18 : decode cX11_judged 18 = .ok (.athrow, 1) := by decide +kernel
theorem dX11_judged_19 : decode cX11_judged 19 = .ok (.iconst 0, 1) := by decide +kernel
theorem dX11_judged_20 : decode cX11_judged 20 = .ok (.istore_n 2, 1) := by decide +kernel
theorem dX11_judged_21 : decode cX11_judged 21 = .ok (.iload_n 2, 1) := by decide +kernel
theorem dX11_judged_22 : decode cX11_judged 22 = .ok (.aload_n 0, 1) := by decide +kernel
theorem dX11_judged_23 : decode cX11_judged 23 = .ok (.getfield 35, 3) := by decide +kernel
theorem dX11_judged_26 : decode cX11_judged 26 = .ok (.getfield 117, 3) := by decide +kernel
theorem dX11_judged_29 : decode cX11_judged 29 = .ok (.if_icmp .ge 29, 3) := by decide +kernel
theorem dX11_judged_32 : decode cX11_judged 32 = .ok (.aload_n 0, 1) := by decide +kernel
theorem dX11_judged_33 : decode cX11_judged 33 = .ok (.iload_n 2, 1) := by decide +kernel
theorem dX11_judged_34 : decode cX11_judged 34 = .ok (.invokevirtual 249, 3) := by decide +kernel
theorem dX11_judged_37 : decode cX11_judged 37 = .ok (.istore_n 3, 1) := by decide +kernel
theorem dX11_judged_38 : decode cX11_judged 38 = .ok (.iload_n 3, 1) := by decide +kernel
theorem dX11_judged_39 : decode cX11_judged 39 = .ok (.ifCond .eq 13, 3) := by decide +kernel
theorem dX11_judged_42 : decode cX11_judged 42 = .ok (.iload_n 1, 1) := by decide +kernel
theorem dX11_judged_43 : decode cX11_judged 43 = .ok (.ifCond .ne 7, 3) := by decide +kernel
theorem dX11_judged_46 : decode cX11_judged 46 = .ok (.iload_n 2, 1) := by decide +kernel
theorem dX11_judged_47 : decode cX11_judged 47 = .ok (.goto 4, 3) := by decide +kernel
theorem dX11_judged_50 : decode cX11_judged 50 = .ok (.iload_n 3, 1) := by decide +kernel
theorem dX11_judged_51 : decode cX11_judged 51 = .ok (.ireturn, 1) := by decide +kernel
theorem dX11_judged_52 : decode cX11_judged 52 = .ok (.iinc 2 1, 3) := by decide +kernel
theorem dX11_judged_55 : decode cX11_judged 55 = .ok (.goto (-34), 3) := by decide +kernel
theorem dX11_judged_58 : decode cX11_judged 58 = .ok (.iload_n 1, 1) := by decide +kernel
theorem dX11_judged_59 : decode cX11_judged 59 = .ok (.ifCond .ne 7, 3) := by decide +kernel
theorem dX11_judged_62 : decode cX11_judged 62 = .ok (.iconst (-1), 1) := by decide +kernel
theorem dX11_judged_63 : decode cX11_judged 63 = .ok (.goto 4, 3) := by decide +kernel
theorem dX11_judged_66 : decode cX11_judged 66 = .ok (.iconst 0, 1) := by decide +kernel
theorem dX11_judged_67 : decode cX11_judged 67 = .ok (.ireturn, 1) := by decide +kernel
theorem dX11_mend_0 : decode cX11_mend 0 = .ok (.aload_n 0, 1) := by decide +kernel
theorem dX11_mend_1 : decode cX11_mend 1 = .ok (.getfield 60, 3) := by decide +kernel
theorem dX11_mend_4 : decode cX11_mend 4 = .ok (.invokevirtual 252, 3) := by decide +kernel
theorem dX11_mend_7 : decode cX11_mend 7 = .ok (.ireturn, 1) := by decide +kernel
theorem dX11_mended_0 : decode cX11_mended 0 = .ok (.aload_n 0, 1) := by decide +kernel
theorem dX11_mended_1 : decode cX11_mended 1 = .ok (.iload_n 1, 1) := by decide +kernel
theorem dX11_mended_2 : decode cX11_mended 2 = .ok (.invokevirtual 121, 3) := by decide +kernel
theorem dX11_mended_5 : decode cX11_mended 5 = .ok (.ifCond .eq 28, 3) := by decide +kernel
theorem dX11_mended_8 : decode cX11_mended 8 = .ok (.aload_n 0, 1) := by decide +kernel
theorem dX11_mended_9 : decode cX11_mended 9 = .ok (.getfield 60, 3) := by decide +kernel
theorem dX11_mended_12 : decode cX11_mended 12 = .ok (.invokevirtual 252, 3) := by decide +kernel
theorem dX11_mended_15 : decode cX11_mended 15 = .ok (.iconst (-1), 1) := by decide +kernel
theorem dX11_mended_16 : decode cX11_mended 16 = .ok (.if_icmp .eq 17, 3) := by decide +kernel
theorem dX11_mended_19 : decode cX11_mended 19 = .ok (.aload_n 0, 1) := by decide +kernel
theorem dX11_mended_20 : decode cX11_mended 20 = .ok (.getfield 60, 3) := by decide +kernel
theorem dX11_mended_23 : decode cX11_mended 23 = .ok (.getfield 254, 3) := by decide +kernel
theorem dX11_mended_26 : decode cX11_mended 26 = .ok (.iload_n 1, 1) := by decide +kernel
theorem dX11_mended_27 : decode cX11_mended 27 = .ok (.invokestatic 128, 3) := by decide +kernel
theorem dX11_mended_30 : decode cX11_mended 30 = .ok (.goto 4, 3) := by decide +kernel
theorem dX11_mended_33 : decode cX11_mended 33 = .ok (.iconst (-1), 1) := by decide +kernel
theorem dX11_mended_34 : decode cX11_mended 34 = .ok (.ireturn, 1) := by decide +kernel
theorem dX11_same_0 : decode cX11_same 0 = .ok (.aload_n 0, 1) := by decide +kernel
theorem dX11_same_1 : decode cX11_same 1 = .ok (.iload_n 1, 1) := by decide +kernel
theorem dX11_same_2 : decode cX11_same 2 = .ok (.invokevirtual 257, 3) := by decide +kernel
theorem dX11_same_5 : decode cX11_same 5 = .ok (.astore_n 2, 1) := by decide +kernel
theorem dX11_same_6 : decode cX11_same 6 = .ok (.aload_n 2, 1) := by decide +kernel
theorem dX11_same_7 : decode cX11_same 7 = .ok (.ifnull 10, 3) := by decide +kernel
theorem dX11_same_10 : decode cX11_same 10 = .ok (.aload_n 2, 1) := by decide +kernel
theorem dX11_same_11 : decode cX11_same 11 = .ok (.getfield 261, 3) := by decide +kernel
theorem dX11_same_14 : decode cX11_same 14 = .ok (.ifCond .ne 5, 3) := by decide +kernel
theorem dX11_same_17 : decode cX11_same 17 = .ok (.iconst (-1), 1) := by decide +kernel
theorem dX11_same_18 : decode cX11_same 18 = .ok (.ireturn, 1) := by decide +kernel
theorem dX11_same_19 : decode cX11_same 19 = .ok (.aload_n 0, 1) := by decide +kernel
theorem dX11_same_20 : decode cX11_same 20 = .ok (.getfield 69, 3) := by decide +kernel
theorem dX11_same_23 : decode cX11_same 23 = .ok (.aload_n 2, 1) := by decide +kernel
theorem dX11_same_24 : decode cX11_same 24 = .ok (.getfield 265, 3) := by decide +kernel
theorem dX11_same_27 : decode cX11_same 27 = .ok (.invokevirtual 268, 3) := by decide +kernel
theorem dX11_same_30 : decode cX11_same 30 = .ok (.ifCond .eq 7, 3) := by decide +kernel
theorem dX11_same_33 : decode cX11_same 33 = .ok (.iconst 1, 1) := by decide +kernel
theorem dX11_same_34 : decode cX11_same 34 = .ok (.goto 4, 3) := by decide +kernel
theorem dX11_same_37 : decode cX11_same 37 = .ok (.iconst 0, 1) := by decide +kernel
theorem dX11_same_38 : decode cX11_same 38 = .ok (.ireturn, 1) := by decide +kernel
theorem dX11_renamed_0 : decode cX11_renamed 0 = .ok (.aload_n 0, 1) := by decide +kernel
theorem dX11_renamed_1 : decode cX11_renamed 1 = .ok (.iload_n 2, 1) := by decide +kernel
theorem dX11_renamed_2 : decode cX11_renamed 2 = .ok (.invokevirtual 121, 3) := by decide +kernel
theorem dX11_renamed_5 : decode cX11_renamed 5 = .ok (.ifCond .eq 26, 3) := by decide +kernel
theorem dX11_renamed_8 : decode cX11_renamed 8 = .ok (.aload_n 0, 1) := by decide +kernel
theorem dX11_renamed_9 : decode cX11_renamed 9 = .ok (.iload_n 1, 1) := by decide +kernel
theorem dX11_renamed_10 : decode cX11_renamed 10 = .ok (.invokevirtual 272, 3) := by decide +kernel
theorem dX11_renamed_13 : decode cX11_renamed 13 = .ok (.iconst 1, 1) := by decide +kernel
theorem dX11_renamed_14 : decode cX11_renamed 14 = .ok (.if_icmp .ne 17, 3) := by decide +kernel
theorem dX11_renamed_17 : decode cX11_renamed 17 = .ok (.aload_n 0, 1) := by decide +kernel
theorem dX11_renamed_18 : decode cX11_renamed 18 = .ok (.getfield 69, 3) := by decide +kernel
theorem dX11_renamed_21 : decode cX11_renamed 21 = .ok (.getfield 275, 3) := by decide +kernel
theorem dX11_renamed_24 : decode cX11_renamed 24 = .ok (.iload_n 2, 1) := by decide +kernel
theorem dX11_renamed_25 : decode cX11_renamed 25 = .ok (.invokestatic 128, 3) := by decide +kernel
theorem dX11_renamed_28 : decode cX11_renamed 28 = .ok (.goto 4, 3) := by decide +kernel
theorem dX11_renamed_31 : decode cX11_renamed 31 = .ok (.iconst (-1), 1) := by decide +kernel
theorem dX11_renamed_32 : decode cX11_renamed 32 = .ok (.ireturn, 1) := by decide +kernel
theorem dX11_mark_0 : decode cX11_mark 0 = .ok (.aload_n 0, 1) := by decide +kernel
theorem dX11_mark_1 : decode cX11_mark 1 = .ok (.iload_n 1, 1) := by decide +kernel
theorem dX11_mark_2 : decode cX11_mark 2 = .ok (.invokevirtual 257, 3) := by decide +kernel
theorem dX11_mark_5 : decode cX11_mark 5 = .ok (.astore_n 3, 1) := by decide +kernel
theorem dX11_mark_6 : decode cX11_mark 6 = .ok (.aload_n 3, 1) := by decide +kernel
theorem dX11_mark_7 : decode cX11_mark 7 = .ok (.ifnull 14, 3) := by decide +kernel
theorem dX11_mark_10 : decode cX11_mark 10 = .ok (.iload_n 2, 1) := by decide +kernel
theorem dX11_mark_11 : decode cX11_mark 11 = .ok (.ifCond .eq 12, 3) := by decide +kernel
theorem dX11_mark_14 : decode cX11_mark 14 = .ok (.aload_n 3, 1) := by decide +kernel
theorem dX11_mark_15 : decode cX11_mark 15 = .ok (.getfield 261, 3) := by decide +kernel
theorem dX11_mark_18 : decode cX11_mark 18 = .ok (.ifCond .ne 5, 3) := by decide +kernel
theorem dX11_mark_21 : decode cX11_mark 21 = .ok (.iconst 0, 1) := by decide +kernel
theorem dX11_mark_22 : decode cX11_mark 22 = .ok (.ireturn, 1) := by decide +kernel
theorem dX11_mark_23 : decode cX11_mark 23 = .ok (.iload_n 2, 1) := by decide +kernel
theorem dX11_mark_24 : decode cX11_mark 24 = .ok (.ifCond .eq 32, 3) := by decide +kernel
theorem dX11_mark_27 : decode cX11_mark 27 = .ok (.aload_n 0, 1) := by decide +kernel
theorem dX11_mark_28 : decode cX11_mark 28 = .ok (.getfield 28, 3) := by decide +kernel
theorem dX11_mark_31 : decode cX11_mark 31 = .ok (.aload_n 3, 1) := by decide +kernel
theorem dX11_mark_32 : decode cX11_mark 32 = .ok (.getfield 265, 3) := by decide +kernel
theorem dX11_mark_35 : decode cX11_mark 35 = .ok (.invokevirtual 114, 3) := by decide +kernel
theorem dX11_mark_38 : decode cX11_mark 38 = .ok (.aload_n 0, 1) := by decide +kernel
theorem dX11_mark_39 : decode cX11_mark 39 = .ok (.getfield 35, 3) := by decide +kernel
theorem dX11_mark_42 : decode cX11_mark 42 = .ok (.aload_n 3, 1) := by decide +kernel
theorem dX11_mark_43 : decode cX11_mark 43 = .ok (.getfield 278, 3) := by decide +kernel
theorem dX11_mark_46 : decode cX11_mark 46 = .ok (.invokevirtual 279, 3) := by decide +kernel
theorem dX11_mark_49 : decode cX11_mark 49 = .ok (.aload_n 0, 1) := by decide +kernel
theorem dX11_mark_50 : decode cX11_mark 50 = .ok (.invokevirtual 118, 3) := by decide +kernel
theorem dX11_mark_53 : decode cX11_mark 53 = .ok (.goto 15, 3) := by decide +kernel
theorem dX11_mark_56 : decode cX11_mark 56 = .ok (.aload_n 3, 1) := by decide +kernel
theorem dX11_mark_57 : decode cX11_mark 57 = .ok (.aload_n 0, 1) := by decide +kernel
theorem dX11_mark_58 : decode cX11_mark 58 = .ok (.getfield 28, 3) := by decide +kernel
theorem dX11_mark_61 : decode cX11_mark 61 = .ok (.aload_n 0, 1) := by decide +kernel
theorem dX11_mark_62 : decode cX11_mark 62 = .ok (.getfield 35, 3) := by decide +kernel
theorem dX11_mark_65 : decode cX11_mark 65 = .ok (.invokevirtual 282, 3) := by decide +kernel
theorem dX11_mark_68 : decode cX11_mark 68 = .ok (.iconst 1, 1) := by decide +kernel
theorem dX11_mark_69 : decode cX11_mark 69 = .ok (.ireturn, 1) := by decide +kernel
theorem dX11_count_0 : decode cX11_count 0 = .ok (.iload_n 1, 1) := by decide +kernel
theorem dX11_count_1 : decode cX11_count 1 = .ok (.tableswitch 123 0 8 #[51, 59, 67, 75, 83, 91, 99, 107, 115], 51) := by decide +kernel
theorem dX11_count_52 : decode cX11_count 52 = .ok (.aload_n 0, 1) := by decide +kernel
theorem dX11_count_53 : decode cX11_count 53 = .ok (.getfield 28, 3) := by decide +kernel
theorem dX11_count_56 : decode cX11_count 56 = .ok (.getfield 169, 3) := by decide +kernel
theorem dX11_count_59 : decode cX11_count 59 = .ok (.ireturn, 1) := by decide +kernel
theorem dX11_count_60 : decode cX11_count 60 = .ok (.aload_n 0, 1) := by decide +kernel
theorem dX11_count_61 : decode cX11_count 61 = .ok (.getfield 28, 3) := by decide +kernel
theorem dX11_count_64 : decode cX11_count 64 = .ok (.getfield 286, 3) := by decide +kernel
theorem dX11_count_67 : decode cX11_count 67 = .ok (.ireturn, 1) := by decide +kernel
theorem dX11_count_68 : decode cX11_count 68 = .ok (.aload_n 0, 1) := by decide +kernel
theorem dX11_count_69 : decode cX11_count 69 = .ok (.getfield 28, 3) := by decide +kernel
theorem dX11_count_72 : decode cX11_count 72 = .ok (.getfield 289, 3) := by decide +kernel
theorem dX11_count_75 : decode cX11_count 75 = .ok (.ireturn, 1) := by decide +kernel
theorem dX11_count_76 : decode cX11_count 76 = .ok (.aload_n 0, 1) := by decide +kernel
theorem dX11_count_77 : decode cX11_count 77 = .ok (.getfield 28, 3) := by decide +kernel
theorem dX11_count_80 : decode cX11_count 80 = .ok (.getfield 292, 3) := by decide +kernel
theorem dX11_count_83 : decode cX11_count 83 = .ok (.ireturn, 1) := by decide +kernel
theorem dX11_count_84 : decode cX11_count 84 = .ok (.aload_n 0, 1) := by decide +kernel
theorem dX11_count_85 : decode cX11_count 85 = .ok (.getfield 28, 3) := by decide +kernel
theorem dX11_count_88 : decode cX11_count 88 = .ok (.getfield 295, 3) := by decide +kernel
theorem dX11_count_91 : decode cX11_count 91 = .ok (.ireturn, 1) := by decide +kernel
theorem dX11_count_92 : decode cX11_count 92 = .ok (.aload_n 0, 1) := by decide +kernel
theorem dX11_count_93 : decode cX11_count 93 = .ok (.getfield 28, 3) := by decide +kernel
theorem dX11_count_96 : decode cX11_count 96 = .ok (.getfield 298, 3) := by decide +kernel
theorem dX11_count_99 : decode cX11_count 99 = .ok (.ireturn, 1) := by decide +kernel
theorem dX11_count_100 : decode cX11_count 100 = .ok (.aload_n 0, 1) := by decide +kernel
theorem dX11_count_101 : decode cX11_count 101 = .ok (.getfield 28, 3) := by decide +kernel
theorem dX11_count_104 : decode cX11_count 104 = .ok (.getfield 301, 3) := by decide +kernel
theorem dX11_count_107 : decode cX11_count 107 = .ok (.ireturn, 1) := by decide +kernel
theorem dX11_count_108 : decode cX11_count 108 = .ok (.aload_n 0, 1) := by decide +kernel
theorem dX11_count_109 : decode cX11_count 109 = .ok (.getfield 35, 3) := by decide +kernel
theorem dX11_count_112 : decode cX11_count 112 = .ok (.getfield 117, 3) := by decide +kernel
theorem dX11_count_115 : decode cX11_count 115 = .ok (.ireturn, 1) := by decide +kernel
theorem dX11_count_116 : decode cX11_count 116 = .ok (.aload_n 0, 1) := by decide +kernel
theorem dX11_count_117 : decode cX11_count 117 = .ok (.getfield 10, 3) := by decide +kernel
theorem dX11_count_120 : decode cX11_count 120 = .ok (.getfield 103, 3) := by decide +kernel
theorem dX11_count_123 : decode cX11_count 123 = .ok (.ireturn, 1) := by decide +kernel
theorem dX11_count_124 : decode cX11_count 124 = .ok (.iconst (-1), 1) := by decide +kernel
theorem dX11_count_125 : decode cX11_count 125 = .ok (.ireturn, 1) := by decide +kernel
theorem dX11_formChanged_0 : decode cX11_formChanged 0 = .ok (.aload_n 0, 1) := by decide +kernel
theorem dX11_formChanged_1 : decode cX11_formChanged 1 = .ok (.getfield 42, 3) := by decide +kernel
theorem dX11_formChanged_4 : decode cX11_formChanged 4 = .ok (.aload_n 0, 1) := by decide +kernel
theorem dX11_formChanged_5 : decode cX11_formChanged 5 = .ok (.getfield 28, 3) := by decide +kernel
theorem dX11_formChanged_8 : decode cX11_formChanged 8 = .ok (.invokevirtual 96, 3) := by decide +kernel
theorem dX11_formChanged_11 : decode cX11_formChanged 11 = .ok (.aload_n 0, 1) := by decide +kernel
theorem dX11_formChanged_12 : decode cX11_formChanged 12 = .ok (.getfield 51, 3) := by decide +kernel
theorem dX11_formChanged_15 : decode cX11_formChanged 15 = .ok (.invokevirtual 304, 3) := by decide +kernel
theorem dX11_formChanged_18 : decode cX11_formChanged 18 = .ok (.aload_n 0, 1) := by decide +kernel
theorem dX11_formChanged_19 : decode cX11_formChanged 19 = .ok (.getfield 60, 3) := by decide +kernel
theorem dX11_formChanged_22 : decode cX11_formChanged 22 = .ok (.invokevirtual 239, 3) := by decide +kernel
theorem dX11_formChanged_25 : decode cX11_formChanged 25 = .ok (.return_, 1) := by decide +kernel
theorem dX11_isEnd_0 : decode cX11_isEnd 0 = .ok (.iload_n 1, 1) := by decide +kernel
theorem dX11_isEnd_1 : decode cX11_isEnd 1 = .ok (.ifCond .lt 18, 3) := by decide +kernel
theorem dX11_isEnd_4 : decode cX11_isEnd 4 = .ok (.iload_n 1, 1) := by decide +kernel
theorem dX11_isEnd_5 : decode cX11_isEnd 5 = .ok (.aload_n 0, 1) := by decide +kernel
theorem dX11_isEnd_6 : decode cX11_isEnd 6 = .ok (.getfield 28, 3) := by decide +kernel
theorem dX11_isEnd_9 : decode cX11_isEnd 9 = .ok (.getfield 169, 3) := by decide +kernel
theorem dX11_isEnd_12 : decode cX11_isEnd 12 = .ok (.if_icmp .ge 7, 3) := by decide +kernel
theorem dX11_isEnd_15 : decode cX11_isEnd 15 = .ok (.iconst 1, 1) := by decide +kernel
theorem dX11_isEnd_16 : decode cX11_isEnd 16 = .ok (.goto 4, 3) := by decide +kernel
theorem dX11_isEnd_19 : decode cX11_isEnd 19 = .ok (.iconst 0, 1) := by decide +kernel
theorem dX11_isEnd_20 : decode cX11_isEnd 20 = .ok (.ireturn, 1) := by decide +kernel
theorem dX11_isWord_0 : decode cX11_isWord 0 = .ok (.iload_n 1, 1) := by decide +kernel
theorem dX11_isWord_1 : decode cX11_isWord 1 = .ok (.ifCond .lt 18, 3) := by decide +kernel
theorem dX11_isWord_4 : decode cX11_isWord 4 = .ok (.iload_n 1, 1) := by decide +kernel
theorem dX11_isWord_5 : decode cX11_isWord 5 = .ok (.aload_n 0, 1) := by decide +kernel
theorem dX11_isWord_6 : decode cX11_isWord 6 = .ok (.getfield 28, 3) := by decide +kernel
theorem dX11_isWord_9 : decode cX11_isWord 9 = .ok (.getfield 298, 3) := by decide +kernel
theorem dX11_isWord_12 : decode cX11_isWord 12 = .ok (.if_icmp .ge 7, 3) := by decide +kernel
theorem dX11_isWord_15 : decode cX11_isWord 15 = .ok (.iconst 1, 1) := by decide +kernel
theorem dX11_isWord_16 : decode cX11_isWord 16 = .ok (.goto 4, 3) := by decide +kernel
theorem dX11_isWord_19 : decode cX11_isWord 19 = .ok (.iconst 0, 1) := by decide +kernel
theorem dX11_isWord_20 : decode cX11_isWord 20 = .ok (.ireturn, 1) := by decide +kernel
theorem dX11_markAt_0 : decode cX11_markAt 0 = .ok (.iload_n 1, 1) := by decide +kernel
theorem dX11_markAt_1 : decode cX11_markAt 1 = .ok (.ifCond .lt 21, 3) := by decide +kernel
theorem dX11_markAt_4 : decode cX11_markAt 4 = .ok (.iload_n 1, 1) := by decide +kernel
theorem dX11_markAt_5 : decode cX11_markAt 5 = .ok (.aload_n 0, 1) := by decide +kernel
theorem dX11_markAt_6 : decode cX11_markAt 6 = .ok (.getfield 75, 3) := by decide +kernel
theorem dX11_markAt_9 : decode cX11_markAt 9 = .ok (.arraylength, 1) := by decide +kernel
theorem dX11_markAt_10 : decode cX11_markAt 10 = .ok (.if_icmp .ge 12, 3) := by decide +kernel
theorem dX11_markAt_13 : decode cX11_markAt 13 = .ok (.aload_n 0, 1) := by decide +kernel
theorem dX11_markAt_14 : decode cX11_markAt 14 = .ok (.getfield 75, 3) := by decide +kernel
theorem dX11_markAt_17 : decode cX11_markAt 17 = .ok (.iload_n 1, 1) := by decide +kernel
theorem dX11_markAt_18 : decode cX11_markAt 18 = .ok (.aaload, 1) := by decide +kernel
theorem dX11_markAt_19 : decode cX11_markAt 19 = .ok (.goto 4, 3) := by decide +kernel
theorem dX11_markAt_22 : decode cX11_markAt 22 = .ok (.aconst_null, 1) := by decide +kernel
theorem dX11_markAt_23 : decode cX11_markAt 23 = .ok (.areturn, 1) := by decide +kernel
theorem dX11_isStanza_0 : decode cX11_isStanza 0 = .ok (.lload_n 0, 1) := by decide +kernel
theorem dX11_isStanza_1 : decode cX11_isStanza 1 = .ok (.lconst 0, 1) := by decide +kernel
theorem dX11_isStanza_2 : decode cX11_isStanza 2 = .ok (.lcmp, 1) := by decide +kernel
theorem dX11_isStanza_3 : decode cX11_isStanza 3 = .ok (.ifCond .lt 15, 3) := by decide +kernel
theorem dX11_isStanza_6 : decode cX11_isStanza 6 = .ok (.lload_n 0, 1) := by decide +kernel
theorem dX11_isStanza_7 : decode cX11_isStanza 7 = .ok (.ldc2_w 305, 3) := by decide +kernel
theorem dX11_isStanza_10 : decode cX11_isStanza 10 = .ok (.lcmp, 1) := by decide +kernel
theorem dX11_isStanza_11 : decode cX11_isStanza 11 = .ok (.ifCond .gt 7, 3) := by decide +kernel
theorem dX11_isStanza_14 : decode cX11_isStanza 14 = .ok (.iconst 1, 1) := by decide +kernel
theorem dX11_isStanza_15 : decode cX11_isStanza 15 = .ok (.goto 4, 3) := by decide +kernel
theorem dX11_isStanza_18 : decode cX11_isStanza 18 = .ok (.iconst 0, 1) := by decide +kernel
theorem dX11_isStanza_19 : decode cX11_isStanza 19 = .ok (.ireturn, 1) := by decide +kernel
theorem dX11_whyWrong_0 : decode cX11_whyWrong 0 = .ok (.aload_n 0, 1) := by decide +kernel
theorem dX11_whyWrong_1 : decode cX11_whyWrong 1 = .ok (.getfield 28, 3) := by decide +kernel
theorem dX11_whyWrong_4 : decode cX11_whyWrong 4 = .ok (.getfield 169, 3) := by decide +kernel
theorem dX11_whyWrong_7 : decode cX11_whyWrong 7 = .ok (.istore_n 2, 1) := by decide +kernel
theorem dX11_whyWrong_8 : decode cX11_whyWrong 8 = .ok (.iload_n 2, 1) := by decide +kernel
theorem dX11_whyWrong_9 : decode cX11_whyWrong 9 = .ok (.iconst 1, 1) := by decide +kernel
theorem dX11_whyWrong_10 : decode cX11_whyWrong 10 = .ok (.if_icmp .ge 5, 3) := by decide +kernel
theorem dX11_whyWrong_13 : decode cX11_whyWrong 13 = .ok (.iconst 0, 1) := by decide +kernel
theorem dX11_whyWrong_14 : decode cX11_whyWrong 14 = .ok (.ireturn, 1) := by decide +kernel
theorem dX11_whyWrong_15 : decode cX11_whyWrong 15 = .ok (.iload_n 1, 1) := by decide +kernel
theorem dX11_whyWrong_16 : decode cX11_whyWrong 16 = .ok (.iload_n 2, 1) := by decide +kernel
theorem dX11_whyWrong_17 : decode cX11_whyWrong 17 = .ok (.idiv, 1) := by decide +kernel
theorem dX11_whyWrong_18 : decode cX11_whyWrong 18 = .ok (.istore_n 3, 1) := by decide +kernel
theorem dX11_whyWrong_19 : decode cX11_whyWrong 19 = .ok (.iload_n 1, 1) := by decide +kernel
theorem dX11_whyWrong_20 : decode cX11_whyWrong 20 = .ok (.iload_n 2, 1) := by decide +kernel
theorem dX11_whyWrong_21 : decode cX11_whyWrong 21 = .ok (.irem, 1) := by decide +kernel
theorem dX11_whyWrong_22 : decode cX11_whyWrong 22 = .ok (.istore 4, 2) := by decide +kernel
theorem dX11_whyWrong_24 : decode cX11_whyWrong 24 = .ok (.aload_n 0, 1) := by decide +kernel
theorem dX11_whyWrong_25 : decode cX11_whyWrong 25 = .ok (.getfield 35, 3) := by decide +kernel
theorem dX11_whyWrong_28 : decode cX11_whyWrong 28 = .ok (.getfield 307, 3) := by decide +kernel
theorem dX11_whyWrong_31 : decode cX11_whyWrong 31 = .ok (.iload_n 1, 1) := by decide +kernel
theorem dX11_whyWrong_32 : decode cX11_whyWrong 32 = .ok (.invokestatic 128, 3) := by decide +kernel
theorem dX11_whyWrong_35 : decode cX11_whyWrong 35 = .ok (.istore 5, 2) := by decide +kernel
theorem dX11_whyWrong_37 : decode cX11_whyWrong 37 = .ok (.iload_n 3, 1) := by decide +kernel
theorem dX11_whyWrong_38 : decode cX11_whyWrong 38 = .ok (.ifCond .ne 17, 3) := by decide +kernel
theorem dX11_whyWrong_41 : decode cX11_whyWrong 41 = .ok (.aload_n 0, 1) := by decide +kernel
theorem dX11_whyWrong_42 : decode cX11_whyWrong 42 = .ok (.iload 4, 2) := by decide +kernel
theorem dX11_whyWrong_44 : decode cX11_whyWrong 44 = .ok (.iload 5, 2) := by decide +kernel
theorem dX11_whyWrong_46 : decode cX11_whyWrong 46 = .ok (.invokevirtual 309, 3) := by decide +kernel
theorem dX11_whyWrong_49 : decode cX11_whyWrong 49 = .ok (.ifCond .eq 34, 3) := by decide +kernel
theorem dX11_whyWrong_52 : decode cX11_whyWrong 52 = .ok (.goto 29, 3) := by decide +kernel
theorem dX11_whyWrong_55 : decode cX11_whyWrong 55 = .ok (.iload 5, 2) := by decide +kernel
theorem dX11_whyWrong_57 : decode cX11_whyWrong 57 = .ok (.aload_n 0, 1) := by decide +kernel
theorem dX11_whyWrong_58 : decode cX11_whyWrong 58 = .ok (.getfield 35, 3) := by decide +kernel
theorem dX11_whyWrong_61 : decode cX11_whyWrong 61 = .ok (.getfield 307, 3) := by decide +kernel
theorem dX11_whyWrong_64 : decode cX11_whyWrong 64 = .ok (.aload_n 0, 1) := by decide +kernel
theorem dX11_whyWrong_65 : decode cX11_whyWrong 65 = .ok (.getfield 42, 3) := by decide +kernel
theorem dX11_whyWrong_68 : decode cX11_whyWrong 68 = .ok (.iload_n 3, 1) := by decide +kernel
theorem dX11_whyWrong_69 : decode cX11_whyWrong 69 = .ok (.i2l, 1) := by decide +kernel
theorem dX11_whyWrong_70 : decode cX11_whyWrong 70 = .ok (.iload 4, 2) := by decide +kernel
theorem dX11_whyWrong_72 : decode cX11_whyWrong 72 = .ok (.invokevirtual 145, 3) := by decide +kernel
theorem dX11_whyWrong_75 : decode cX11_whyWrong 75 = .ok (.invokestatic 128, 3) := by decide +kernel
theorem dX11_whyWrong_78 : decode cX11_whyWrong 78 = .ok (.if_icmp .eq 5, 3) := by decide +kernel
theorem dX11_whyWrong_81 : decode cX11_whyWrong 81 = .ok (.iconst 1, 1) := by decide +kernel
theorem dX11_whyWrong_82 : decode cX11_whyWrong 82 = .ok (.ireturn, 1) := by decide +kernel
theorem dX11_whyWrong_83 : decode cX11_whyWrong 83 = .ok (.iload_n 3, 1) := by decide +kernel
theorem dX11_whyWrong_84 : decode cX11_whyWrong 84 = .ok (.ifCond .ne 16, 3) := by decide +kernel
theorem dX11_whyWrong_87 : decode cX11_whyWrong 87 = .ok (.aload_n 0, 1) := by decide +kernel
theorem dX11_whyWrong_88 : decode cX11_whyWrong 88 = .ok (.iload 4, 2) := by decide +kernel
theorem dX11_whyWrong_90 : decode cX11_whyWrong 90 = .ok (.iload 5, 2) := by decide +kernel
theorem dX11_whyWrong_92 : decode cX11_whyWrong 92 = .ok (.invokevirtual 312, 3) := by decide +kernel
theorem dX11_whyWrong_95 : decode cX11_whyWrong 95 = .ok (.ifCond .eq 5, 3) := by decide +kernel
theorem dX11_whyWrong_98 : decode cX11_whyWrong 98 = .ok (.iconst 2, 1) := by decide +kernel
theorem dX11_whyWrong_99 : decode cX11_whyWrong 99 = .ok (.ireturn, 1) := by decide +kernel
theorem dX11_whyWrong_100 : decode cX11_whyWrong 100 = .ok (.aload_n 0, 1) := by decide +kernel
theorem dX11_whyWrong_101 : decode cX11_whyWrong 101 = .ok (.getfield 28, 3) := by decide +kernel
theorem dX11_whyWrong_104 : decode cX11_whyWrong 104 = .ok (.getfield 315, 3) := by decide +kernel
theorem dX11_whyWrong_107 : decode cX11_whyWrong 107 = .ok (.iload 4, 2) := by decide +kernel
theorem dX11_whyWrong_109 : decode cX11_whyWrong 109 = .ok (.invokestatic 128, 3) := by decide +kernel
theorem dX11_whyWrong_112 : decode cX11_whyWrong 112 = .ok (.istore 6, 2) := by decide +kernel
theorem dX11_whyWrong_114 : decode cX11_whyWrong 114 = .ok (.iload 6, 2) := by decide +kernel
theorem dX11_whyWrong_116 : decode cX11_whyWrong 116 = .ok (.ifCond .le 38, 3) := by decide +kernel
theorem dX11_whyWrong_119 : decode cX11_whyWrong 119 = .ok (.iload_n 3, 1) := by decide +kernel
theorem dX11_whyWrong_120 : decode cX11_whyWrong 120 = .ok (.iload 6, 2) := by decide +kernel
theorem dX11_whyWrong_122 : decode cX11_whyWrong 122 = .ok (.irem, 1) := by decide +kernel
theorem dX11_whyWrong_123 : decode cX11_whyWrong 123 = .ok (.ifCond .ne 31, 3) := by decide +kernel
theorem dX11_whyWrong_126 : decode cX11_whyWrong 126 = .ok (.aload_n 0, 1) := by decide +kernel
theorem dX11_whyWrong_127 : decode cX11_whyWrong 127 = .ok (.getfield 35, 3) := by decide +kernel
theorem dX11_whyWrong_130 : decode cX11_whyWrong 130 = .ok (.getfield 318, 3) := by decide +kernel
theorem dX11_whyWrong_133 : decode cX11_whyWrong 133 = .ok (.iload_n 1, 1) := by decide +kernel
theorem dX11_whyWrong_134 : decode cX11_whyWrong 134 = .ok (.invokestatic 128, 3) := by decide +kernel
theorem dX11_whyWrong_137 : decode cX11_whyWrong 137 = .ok (.aload_n 0, 1) := by decide +kernel
theorem dX11_whyWrong_138 : decode cX11_whyWrong 138 = .ok (.getfield 35, 3) := by decide +kernel
theorem dX11_whyWrong_141 : decode cX11_whyWrong 141 = .ok (.getfield 318, 3) := by decide +kernel
theorem dX11_whyWrong_144 : decode cX11_whyWrong 144 = .ok (.iload 4, 2) := by decide +kernel
theorem dX11_whyWrong_146 : decode cX11_whyWrong 146 = .ok (.invokestatic 128, 3) := by decide +kernel
theorem dX11_whyWrong_149 : decode cX11_whyWrong 149 = .ok (.if_icmp .eq 5, 3) := by decide +kernel
theorem dX11_whyWrong_152 : decode cX11_whyWrong 152 = .ok (.iconst 3, 1) := by decide +kernel
theorem dX11_whyWrong_153 : decode cX11_whyWrong 153 = .ok (.ireturn, 1) := by decide +kernel
theorem dX11_whyWrong_154 : decode cX11_whyWrong 154 = .ok (.aload_n 0, 1) := by decide +kernel
theorem dX11_whyWrong_155 : decode cX11_whyWrong 155 = .ok (.getfield 28, 3) := by decide +kernel
theorem dX11_whyWrong_158 : decode cX11_whyWrong 158 = .ok (.getfield 295, 3) := by decide +kernel
theorem dX11_whyWrong_161 : decode cX11_whyWrong 161 = .ok (.ifCond .le 26, 3) := by decide +kernel
theorem dX11_whyWrong_164 : decode cX11_whyWrong 164 = .ok (.aload_n 0, 1) := by decide +kernel
theorem dX11_whyWrong_165 : decode cX11_whyWrong 165 = .ok (.getfield 35, 3) := by decide +kernel
theorem dX11_whyWrong_168 : decode cX11_whyWrong 168 = .ok (.getfield 321, 3) := by decide +kernel
theorem dX11_whyWrong_171 : decode cX11_whyWrong 171 = .ok (.iload_n 1, 1) := by decide +kernel
theorem dX11_whyWrong_172 : decode cX11_whyWrong 172 = .ok (.invokestatic 128, 3) := by decide +kernel
theorem dX11_whyWrong_175 : decode cX11_whyWrong 175 = .ok (.aload_n 0, 1) := by decide +kernel
theorem dX11_whyWrong_176 : decode cX11_whyWrong 176 = .ok (.getfield 28, 3) := by decide +kernel
theorem dX11_whyWrong_179 : decode cX11_whyWrong 179 = .ok (.getfield 295, 3) := by decide +kernel
theorem dX11_whyWrong_182 : decode cX11_whyWrong 182 = .ok (.if_icmp .eq 5, 3) := by decide +kernel
theorem dX11_whyWrong_185 : decode cX11_whyWrong 185 = .ok (.iconst 4, 1) := by decide +kernel
theorem dX11_whyWrong_186 : decode cX11_whyWrong 186 = .ok (.ireturn, 1) := by decide +kernel
theorem dX11_whyWrong_187 : decode cX11_whyWrong 187 = .ok (.iload 4, 2) := by decide +kernel
theorem dX11_whyWrong_189 : decode cX11_whyWrong 189 = .ok (.ifCond .le 32, 3) := by decide +kernel
theorem dX11_whyWrong_192 : decode cX11_whyWrong 192 = .ok (.aload_n 0, 1) := by decide +kernel
theorem dX11_whyWrong_193 : decode cX11_whyWrong 193 = .ok (.getfield 28, 3) := by decide +kernel
theorem dX11_whyWrong_196 : decode cX11_whyWrong 196 = .ok (.aload_n 0, 1) := by decide +kernel
theorem dX11_whyWrong_197 : decode cX11_whyWrong 197 = .ok (.getfield 35, 3) := by decide +kernel
theorem dX11_whyWrong_200 : decode cX11_whyWrong 200 = .ok (.getfield 307, 3) := by decide +kernel
theorem dX11_whyWrong_203 : decode cX11_whyWrong 203 = .ok (.iload_n 1, 1) := by decide +kernel
theorem dX11_whyWrong_204 : decode cX11_whyWrong 204 = .ok (.iconst 1, 1) := by decide +kernel
theorem dX11_whyWrong_205 : decode cX11_whyWrong 205 = .ok (.isub, 1) := by decide +kernel
theorem dX11_whyWrong_206 : decode cX11_whyWrong 206 = .ok (.invokestatic 128, 3) := by decide +kernel
theorem dX11_whyWrong_209 : decode cX11_whyWrong 209 = .ok (.iload 5, 2) := by decide +kernel
theorem dX11_whyWrong_211 : decode cX11_whyWrong 211 = .ok (.invokevirtual 210, 3) := by decide +kernel
theorem dX11_whyWrong_214 : decode cX11_whyWrong 214 = .ok (.ifCond .eq 7, 3) := by decide +kernel
theorem dX11_whyWrong_217 : decode cX11_whyWrong 217 = .ok (.iconst 5, 1) := by decide +kernel
theorem dX11_whyWrong_218 : decode cX11_whyWrong 218 = .ok (.goto 4, 3) := by decide +kernel
theorem dX11_whyWrong_221 : decode cX11_whyWrong 221 = .ok (.iconst 0, 1) := by decide +kernel
theorem dX11_whyWrong_222 : decode cX11_whyWrong 222 = .ok (.ireturn, 1) := by decide +kernel
theorem dX11_isRepeated_0 : decode cX11_isRepeated 0 = .ok (.iconst 0, 1) := by decide +kernel
theorem dX11_isRepeated_1 : decode cX11_isRepeated 1 = .ok (.istore_n 3, 1) := by decide +kernel
theorem dX11_isRepeated_2 : decode cX11_isRepeated 2 = .ok (.iload_n 3, 1) := by decide +kernel
theorem dX11_isRepeated_3 : decode cX11_isRepeated 3 = .ok (.iload_n 1, 1) := by decide +kernel
theorem dX11_isRepeated_4 : decode cX11_isRepeated 4 = .ok (.if_icmp .ge 26, 3) := by decide +kernel
theorem dX11_isRepeated_7 : decode cX11_isRepeated 7 = .ok (.aload_n 0, 1) := by decide +kernel
theorem dX11_isRepeated_8 : decode cX11_isRepeated 8 = .ok (.getfield 35, 3) := by decide +kernel
theorem dX11_isRepeated_11 : decode cX11_isRepeated 11 = .ok (.getfield 307, 3) := by decide +kernel
theorem dX11_isRepeated_14 : decode cX11_isRepeated 14 = .ok (.iload_n 3, 1) := by decide +kernel
theorem dX11_isRepeated_15 : decode cX11_isRepeated 15 = .ok (.invokestatic 128, 3) := by decide +kernel
theorem dX11_isRepeated_18 : decode cX11_isRepeated 18 = .ok (.iload_n 2, 1) := by decide +kernel
theorem dX11_isRepeated_19 : decode cX11_isRepeated 19 = .ok (.if_icmp .ne 5, 3) := by decide +kernel
theorem dX11_isRepeated_22 : decode cX11_isRepeated 22 = .ok (.iconst 1, 1) := by decide +kernel
theorem dX11_isRepeated_23 : decode cX11_isRepeated 23 = .ok (.ireturn, 1) := by decide +kernel
theorem dX11_isRepeated_24 : decode cX11_isRepeated 24 = .ok (.iinc 3 1, 3) := by decide +kernel
theorem dX11_isRepeated_27 : decode cX11_isRepeated 27 = .ok (.goto (-25), 3) := by decide +kernel
theorem dX11_isRepeated_30 : decode cX11_isRepeated 30 = .ok (.iconst 0, 1) := by decide +kernel
theorem dX11_isRepeated_31 : decode cX11_isRepeated 31 = .ok (.ireturn, 1) := by decide +kernel
theorem dX11_jars_0 : decode cX11_jars 0 = .ok (.aload_n 0, 1) := by decide +kernel
theorem dX11_jars_1 : decode cX11_jars 1 = .ok (.getfield 28, 3) := by decide +kernel
theorem dX11_jars_4 : decode cX11_jars 4 = .ok (.getfield 201, 3) := by decide +kernel
theorem dX11_jars_7 : decode cX11_jars 7 = .ok (.iload_n 2, 1) := by decide +kernel
theorem dX11_jars_8 : decode cX11_jars 8 = .ok (.invokestatic 128, 3) := by decide +kernel
theorem dX11_jars_11 : decode cX11_jars 11 = .ok (.istore_n 3, 1) := by decide +kernel
theorem dX11_jars_12 : decode cX11_jars 12 = .ok (.iconst 0, 1) := by decide +kernel
theorem dX11_jars_13 : decode cX11_jars 13 = .ok (.istore 4, 2) := by decide +kernel
theorem dX11_jars_15 : decode cX11_jars 15 = .ok (.iload 4, 2) := by decide +kernel
theorem dX11_jars_17 : decode cX11_jars 17 = .ok (.iload_n 1, 1) := by decide +kernel
theorem dX11_jars_18 : decode cX11_jars 18 = .ok (.if_icmp .ge 50, 3) := by decide +kernel
theorem dX11_jars_21 : decode cX11_jars 21 = .ok (.aload_n 0, 1) := by decide +kernel
theorem dX11_jars_22 : decode cX11_jars 22 = .ok (.getfield 42, 3) := by decide +kernel
theorem dX11_jars_25 : decode cX11_jars 25 = .ok (.iload 4, 2) := by decide +kernel
theorem dX11_jars_27 : decode cX11_jars 27 = .ok (.iload_n 1, 1) := by decide +kernel
theorem dX11_jars_28 : decode cX11_jars 28 = .ok (.invokevirtual 324, 3) := by decide +kernel
theorem dX11_jars_31 : decode cX11_jars 31 = .ok (.ifCond .eq 31, 3) := by decide +kernel
theorem dX11_jars_34 : decode cX11_jars 34 = .ok (.aload_n 0, 1) := by decide +kernel
theorem dX11_jars_35 : decode cX11_jars 35 = .ok (.getfield 28, 3) := by decide +kernel
theorem dX11_jars_38 : decode cX11_jars 38 = .ok (.getfield 201, 3) := by decide +kernel
theorem dX11_jars_41 : decode cX11_jars 41 = .ok (.aload_n 0, 1) := by decide +kernel
theorem dX11_jars_42 : decode cX11_jars 42 = .ok (.getfield 35, 3) := by decide +kernel
theorem dX11_jars_45 : decode cX11_jars 45 = .ok (.getfield 307, 3) := by decide +kernel
theorem dX11_jars_48 : decode cX11_jars 48 = .ok (.iload 4, 2) := by decide +kernel
theorem dX11_jars_50 : decode cX11_jars 50 = .ok (.invokestatic 128, 3) := by decide +kernel
theorem dX11_jars_53 : decode cX11_jars 53 = .ok (.invokestatic 128, 3) := by decide +kernel
theorem dX11_jars_56 : decode cX11_jars 56 = .ok (.iload_n 3, 1) := by decide +kernel
theorem dX11_jars_57 : decode cX11_jars 57 = .ok (.if_icmp .eq 5, 3) := by decide +kernel
theorem dX11_jars_60 : decode cX11_jars 60 = .ok (.iconst 1, 1) := by decide +kernel
theorem dX11_jars_61 : decode cX11_jars 61 = .ok (.ireturn, 1) := by decide +kernel
theorem dX11_jars_62 : decode cX11_jars 62 = .ok (.iinc 4 1, 3) := by decide +kernel
theorem dX11_jars_65 : decode cX11_jars 65 = .ok (.goto (-50), 3) := by decide +kernel
theorem dX11_jars_68 : decode cX11_jars 68 = .ok (.iconst 0, 1) := by decide +kernel
theorem dX11_jars_69 : decode cX11_jars 69 = .ok (.ireturn, 1) := by decide +kernel
theorem dX11_rootsOfAlike_0 : decode cX11_rootsOfAlike 0 = .ok (.iload_n 0, 1) := by decide +kernel
theorem dX11_rootsOfAlike_1 : decode cX11_rootsOfAlike 1 = .ok (.iconst 1, 1) := by decide +kernel
theorem dX11_rootsOfAlike_2 : decode cX11_rootsOfAlike 2 = .ok (.iand, 1) := by decide +kernel
theorem dX11_rootsOfAlike_3 : decode cX11_rootsOfAlike 3 = .ok (.i2l, 1) := by decide +kernel
theorem dX11_rootsOfAlike_4 : decode cX11_rootsOfAlike 4 = .ok (.lstore_n 2, 1) := by decide +kernel
theorem dX11_rootsOfAlike_5 : decode cX11_rootsOfAlike 5 = .ok (.lconst 0, 1) := by decide +kernel
theorem dX11_rootsOfAlike_6 : decode cX11_rootsOfAlike 6 = .ok (.lstore 4, 2) := by decide +kernel
theorem dX11_rootsOfAlike_8 : decode cX11_rootsOfAlike 8 = .ok (.lconst 1, 1) := by decide +kernel
theorem dX11_rootsOfAlike_9 : decode cX11_rootsOfAlike 9 = .ok (.lstore 6, 2) := by decide +kernel
theorem dX11_rootsOfAlike_11 : decode cX11_rootsOfAlike 11 = .ok (.iconst 1, 1) := by decide +kernel
theorem dX11_rootsOfAlike_12 : decode cX11_rootsOfAlike 12 = .ok (.istore 8, 2) := by decide +kernel
theorem dX11_rootsOfAlike_14 : decode cX11_rootsOfAlike 14 = .ok (.iload 8, 2) := by decide +kernel
theorem dX11_rootsOfAlike_16 : decode cX11_rootsOfAlike 16 = .ok (.iload_n 1, 1) := by decide +kernel
theorem dX11_rootsOfAlike_17 : decode cX11_rootsOfAlike 17 = .ok (.if_icmp .gt 35, 3) := by decide +kernel
theorem dX11_rootsOfAlike_20 : decode cX11_rootsOfAlike 20 = .ok (.lload 6, 2) := by decide +kernel
theorem dX11_rootsOfAlike_22 : decode cX11_rootsOfAlike 22 = .ok (.lload_n 2, 1) := by decide +kernel
theorem dX11_rootsOfAlike_23 : decode cX11_rootsOfAlike 23 = .ok (.lmul, 1) := by decide +kernel
theorem dX11_rootsOfAlike_24 : decode cX11_rootsOfAlike 24 = .ok (.lload 4, 2) := by decide +kernel
theorem dX11_rootsOfAlike_26 : decode cX11_rootsOfAlike 26 = .ok (.iload 8, 2) := by decide +kernel
theorem dX11_rootsOfAlike_28 : decode cX11_rootsOfAlike 28 = .ok (.iconst 1, 1) := by decide +kernel
theorem dX11_rootsOfAlike_29 : decode cX11_rootsOfAlike 29 = .ok (.isub, 1) := by decide +kernel
theorem dX11_rootsOfAlike_30 : decode cX11_rootsOfAlike 30 = .ok (.i2l, 1) := by decide +kernel
theorem dX11_rootsOfAlike_31 : decode cX11_rootsOfAlike 31 = .ok (.lmul, 1) := by decide +kernel
theorem dX11_rootsOfAlike_32 : decode cX11_rootsOfAlike 32 = .ok (.iload_n 0, 1) := by decide +kernel
theorem dX11_rootsOfAlike_33 : decode cX11_rootsOfAlike 33 = .ok (.i2l, 1) := by decide +kernel
theorem dX11_rootsOfAlike_34 : decode cX11_rootsOfAlike 34 = .ok (.lmul, 1) := by decide +kernel
theorem dX11_rootsOfAlike_35 : decode cX11_rootsOfAlike 35 = .ok (.ladd, 1) := by decide +kernel
theorem dX11_rootsOfAlike_36 : decode cX11_rootsOfAlike 36 = .ok (.lstore 9, 2) := by decide +kernel
theorem dX11_rootsOfAlike_38 : decode cX11_rootsOfAlike 38 = .ok (.lload 6, 2) := by decide +kernel
theorem dX11_rootsOfAlike_40 : decode cX11_rootsOfAlike 40 = .ok (.lstore 4, 2) := by decide +kernel
theorem dX11_rootsOfAlike_42 : decode cX11_rootsOfAlike 42 = .ok (.lload 9, 2) := by decide +kernel
theorem dX11_rootsOfAlike_44 : decode cX11_rootsOfAlike 44 = .ok (.lstore 6, 2) := by decide +kernel
theorem dX11_rootsOfAlike_46 : decode cX11_rootsOfAlike 46 = .ok (.iinc 8 1, 3) := by decide +kernel
theorem dX11_rootsOfAlike_49 : decode cX11_rootsOfAlike 49 = .ok (.goto (-35), 3) := by decide +kernel
theorem dX11_rootsOfAlike_52 : decode cX11_rootsOfAlike 52 = .ok (.lload 6, 2) := by decide +kernel
theorem dX11_rootsOfAlike_54 : decode cX11_rootsOfAlike 54 = .ok (.lreturn, 1) := by decide +kernel
theorem dX11_spiralSource_0 : decode cX11_spiralSource 0 = .ok (.iload_n 1, 1) := by decide +kernel
theorem dX11_spiralSource_1 : decode cX11_spiralSource 1 = .ok (.iconst 1, 1) := by decide +kernel
theorem dX11_spiralSource_2 : decode cX11_spiralSource 2 = .ok (.iand, 1) := by decide +kernel
theorem dX11_spiralSource_3 : decode cX11_spiralSource 3 = .ok (.ifCond .ne 13, 3) := by decide +kernel
theorem dX11_spiralSource_6 : decode cX11_spiralSource 6 = .ok (.iload_n 0, 1) := by decide +kernel
theorem dX11_spiralSource_7 : decode cX11_spiralSource 7 = .ok (.iconst 1, 1) := by decide +kernel
theorem dX11_spiralSource_8 : decode cX11_spiralSource 8 = .ok (.isub, 1) := by decide +kernel
theorem dX11_spiralSource_9 : decode cX11_spiralSource 9 = .ok (.iload_n 1, 1) := by decide +kernel
theorem dX11_spiralSource_10 : decode cX11_spiralSource 10 = .ok (.iconst 2, 1) := by decide +kernel
theorem dX11_spiralSource_11 : decode cX11_spiralSource 11 = .ok (.idiv, 1) := by decide +kernel
theorem dX11_spiralSource_12 : decode cX11_spiralSource 12 = .ok (.isub, 1) := by decide +kernel
theorem dX11_spiralSource_13 : decode cX11_spiralSource 13 = .ok (.goto 6, 3) := by decide +kernel
theorem dX11_spiralSource_16 : decode cX11_spiralSource 16 = .ok (.iload_n 1, 1) := by decide +kernel
theorem dX11_spiralSource_17 : decode cX11_spiralSource 17 = .ok (.iconst 2, 1) := by decide +kernel
theorem dX11_spiralSource_18 : decode cX11_spiralSource 18 = .ok (.idiv, 1) := by decide +kernel
theorem dX11_spiralSource_19 : decode cX11_spiralSource 19 = .ok (.ireturn, 1) := by decide +kernel
theorem dX11_cell_0 : decode cX11_cell 0 = .ok (.iload_n 1, 1) := by decide +kernel
theorem dX11_cell_1 : decode cX11_cell 1 = .ok (.ifCond .lt 15, 3) := by decide +kernel
theorem dX11_cell_4 : decode cX11_cell 4 = .ok (.iload_n 1, 1) := by decide +kernel
theorem dX11_cell_5 : decode cX11_cell 5 = .ok (.aload_n 0, 1) := by decide +kernel
theorem dX11_cell_6 : decode cX11_cell 6 = .ok (.arraylength, 1) := by decide +kernel
theorem dX11_cell_7 : decode cX11_cell 7 = .ok (.if_icmp .ge 9, 3) := by decide +kernel
theorem dX11_cell_10 : decode cX11_cell 10 = .ok (.aload_n 0, 1) := by decide +kernel
theorem dX11_cell_11 : decode cX11_cell 11 = .ok (.iload_n 1, 1) := by decide +kernel
theorem dX11_cell_12 : decode cX11_cell 12 = .ok (.iaload, 1) := by decide +kernel
theorem dX11_cell_13 : decode cX11_cell 13 = .ok (.goto 4, 3) := by decide +kernel
theorem dX11_cell_16 : decode cX11_cell 16 = .ok (.iconst (-1), 1) := by decide +kernel
theorem dX11_cell_17 : decode cX11_cell 17 = .ok (.ireturn, 1) := by decide +kernel
theorem dX11_put_0 : decode cX11_put 0 = .ok (.iload_n 1, 1) := by decide +kernel
theorem dX11_put_1 : decode cX11_put 1 = .ok (.ifCond .lt 13, 3) := by decide +kernel
theorem dX11_put_4 : decode cX11_put 4 = .ok (.iload_n 1, 1) := by decide +kernel
theorem dX11_put_5 : decode cX11_put 5 = .ok (.aload_n 0, 1) := by decide +kernel
theorem dX11_put_6 : decode cX11_put 6 = .ok (.arraylength, 1) := by decide +kernel
theorem dX11_put_7 : decode cX11_put 7 = .ok (.if_icmp .ge 7, 3) := by decide +kernel
theorem dX11_put_10 : decode cX11_put 10 = .ok (.aload_n 0, 1) := by decide +kernel
theorem dX11_put_11 : decode cX11_put 11 = .ok (.iload_n 1, 1) := by decide +kernel
theorem dX11_put_12 : decode cX11_put 12 = .ok (.iload_n 2, 1) := by decide +kernel
theorem dX11_put_13 : decode cX11_put 13 = .ok (.iastore, 1) := by decide +kernel
theorem dX11_put_14 : decode cX11_put 14 = .ok (.return_, 1) := by decide +kernel
theorem dX11_copyRow_0 : decode cX11_copyRow 0 = .ok (.iconst 0, 1) := by decide +kernel
theorem dX11_copyRow_1 : decode cX11_copyRow 1 = .ok (.istore_n 2, 1) := by decide +kernel
theorem dX11_copyRow_2 : decode cX11_copyRow 2 = .ok (.iload_n 2, 1) := by decide +kernel
theorem dX11_copyRow_3 : decode cX11_copyRow 3 = .ok (.aload_n 0, 1) := by decide +kernel
theorem dX11_copyRow_4 : decode cX11_copyRow 4 = .ok (.arraylength, 1) := by decide +kernel
theorem dX11_copyRow_5 : decode cX11_copyRow 5 = .ok (.if_icmp .ge 21, 3) := by decide +kernel
theorem dX11_copyRow_8 : decode cX11_copyRow 8 = .ok (.iload_n 2, 1) := by decide +kernel
theorem dX11_copyRow_9 : decode cX11_copyRow 9 = .ok (.aload_n 1, 1) := by decide +kernel
theorem dX11_copyRow_10 : decode cX11_copyRow 10 = .ok (.arraylength, 1) := by decide +kernel
theorem dX11_copyRow_11 : decode cX11_copyRow 11 = .ok (.if_icmp .ge 15, 3) := by decide +kernel
theorem dX11_copyRow_14 : decode cX11_copyRow 14 = .ok (.aload_n 1, 1) := by decide +kernel
theorem dX11_copyRow_15 : decode cX11_copyRow 15 = .ok (.iload_n 2, 1) := by decide +kernel
theorem dX11_copyRow_16 : decode cX11_copyRow 16 = .ok (.aload_n 0, 1) := by decide +kernel
theorem dX11_copyRow_17 : decode cX11_copyRow 17 = .ok (.iload_n 2, 1) := by decide +kernel
theorem dX11_copyRow_18 : decode cX11_copyRow 18 = .ok (.iaload, 1) := by decide +kernel
theorem dX11_copyRow_19 : decode cX11_copyRow 19 = .ok (.iastore, 1) := by decide +kernel
theorem dX11_copyRow_20 : decode cX11_copyRow 20 = .ok (.iinc 2 1, 3) := by decide +kernel
theorem dX11_copyRow_23 : decode cX11_copyRow 23 = .ok (.goto (-21), 3) := by decide +kernel
theorem dX11_copyRow_26 : decode cX11_copyRow 26 = .ok (.return_, 1) := by decide +kernel
theorem dX11_blank_0 : decode cX11_blank 0 = .ok (.iconst 0, 1) := by decide +kernel
theorem dX11_blank_1 : decode cX11_blank 1 = .ok (.istore_n 2, 1) := by decide +kernel
theorem dX11_blank_2 : decode cX11_blank 2 = .ok (.iload_n 2, 1) := by decide +kernel
theorem dX11_blank_3 : decode cX11_blank 3 = .ok (.aload_n 0, 1) := by decide +kernel
theorem dX11_blank_4 : decode cX11_blank 4 = .ok (.arraylength, 1) := by decide +kernel
theorem dX11_blank_5 : decode cX11_blank 5 = .ok (.if_icmp .ge 13, 3) := by decide +kernel
theorem dX11_blank_8 : decode cX11_blank 8 = .ok (.aload_n 0, 1) := by decide +kernel
theorem dX11_blank_9 : decode cX11_blank 9 = .ok (.iload_n 2, 1) := by decide +kernel
theorem dX11_blank_10 : decode cX11_blank 10 = .ok (.iload_n 1, 1) := by decide +kernel
theorem dX11_blank_11 : decode cX11_blank 11 = .ok (.iastore, 1) := by decide +kernel
theorem dX11_blank_12 : decode cX11_blank 12 = .ok (.iinc 2 1, 3) := by decide +kernel
theorem dX11_blank_15 : decode cX11_blank 15 = .ok (.goto (-13), 3) := by decide +kernel
theorem dX11_blank_18 : decode cX11_blank 18 = .ok (.return_, 1) := by decide +kernel
