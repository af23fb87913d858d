theorem dX0_init_0 : decode cX0_init 0 = .ok (.aload_n 0, 1) := by decide +kernel
theorem dX0_init_1 : decode cX0_init 1 = .ok (.invokespecial 3, 3) := by decide +kernel
theorem dX0_init_4 : decode cX0_init 4 = .ok (.aload_n 0, 1) := by decide +kernel
theorem dX0_init_5 : decode cX0_init 5 = .ok (.sipush 1000, 3) := by decide +kernel
theorem dX0_init_8 : decode cX0_init 8 = .ok (.newarray .int, 2) := by decide +kernel
theorem dX0_init_10 : decode cX0_init 10 = .ok (.putfield 9, 3) := by decide +kernel
theorem dX0_init_13 : decode cX0_init 13 = .ok (.aload_n 0, 1) := by decide +kernel
theorem dX0_init_14 : decode cX0_init 14 = .ok (.bipush 32, 2) := by decide +kernel
theorem dX0_init_16 : decode cX0_init 16 = .ok (.newarray .int, 2) := by decide +kernel
theorem dX0_init_18 : decode cX0_init 18 = .ok (.putfield 15, 3) := by decide +kernel
theorem dX0_init_21 : decode cX0_init 21 = .ok (.return_, 1) := by decide +kernel
theorem dX0_add_0 : decode cX0_add 0 = .ok (.aload_n 0, 1) := by decide +kernel
theorem dX0_add_1 : decode cX0_add 1 = .ok (.getfield 9, 3) := by decide +kernel
theorem dX0_add_4 : decode cX0_add 4 = .ok (.aload_n 0, 1) := by decide +kernel
theorem dX0_add_5 : decode cX0_add 5 = .ok (.getfield 18, 3) := by decide +kernel
theorem dX0_add_8 : decode cX0_add 8 = .ok (.iload_n 1, 1) := by decide +kernel
theorem dX0_add_9 : decode cX0_add 9 = .ok (.invokestatic 22, 3) := by decide +kernel
theorem dX0_add_12 : decode cX0_add 12 = .ok (.aload_n 0, 1) := by decide +kernel
theorem dX0_add_13 : decode cX0_add 13 = .ok (.dup, 1) := by decide +kernel
theorem dX0_add_14 : decode cX0_add 14 = .ok (.getfield 18, 3) := by decide +kernel
theorem dX0_add_17 : decode cX0_add 17 = .ok (.iconst 1, 1) := by decide +kernel
theorem dX0_add_18 : decode cX0_add 18 = .ok (.iadd, 1) := by decide +kernel
theorem dX0_add_19 : decode cX0_add 19 = .ok (.putfield 18, 3) := by decide +kernel
theorem dX0_add_22 : decode cX0_add 22 = .ok (.return_, 1) := by decide +kernel
theorem dX0_weigh_0 : decode cX0_weigh 0 = .ok (.iconst 0, 1) := by decide +kernel
theorem dX0_weigh_1 : decode cX0_weigh 1 = .ok (.istore_n 2, 1) := by decide +kernel
theorem dX0_weigh_2 : decode cX0_weigh 2 = .ok (.iload_n 2, 1) := by decide +kernel
theorem dX0_weigh_3 : decode cX0_weigh 3 = .ok (.aload_n 1, 1) := by decide +kernel
theorem dX0_weigh_4 : decode cX0_weigh 4 = .ok (.getfield 26, 3) := by decide +kernel
theorem dX0_weigh_7 : decode cX0_weigh 7 = .ok (.if_icmp .ge 60, 3) := by decide +kernel
theorem dX0_weigh_10 : decode cX0_weigh 10 = .ok (.iconst 0, 1) := by decide +kernel
theorem dX0_weigh_11 : decode cX0_weigh 11 = .ok (.istore_n 3, 1) := by decide +kernel
theorem dX0_weigh_12 : decode cX0_weigh 12 = .ok (.iconst 0, 1) := by decide +kernel
theorem dX0_weigh_13 : decode cX0_weigh 13 = .ok (.istore 4, 2) := by decide +kernel
theorem dX0_weigh_15 : decode cX0_weigh 15 = .ok (.iload 4, 2) := by decide +kernel
theorem dX0_weigh_17 : decode cX0_weigh 17 = .ok (.aload_n 1, 1) := by decide +kernel
theorem dX0_weigh_18 : decode cX0_weigh 18 = .ok (.getfield 26, 3) := by decide +kernel
theorem dX0_weigh_21 : decode cX0_weigh 21 = .ok (.if_icmp .ge 31, 3) := by decide +kernel
theorem dX0_weigh_24 : decode cX0_weigh 24 = .ok (.iload_n 3, 1) := by decide +kernel
theorem dX0_weigh_25 : decode cX0_weigh 25 = .ok (.aload_n 0, 1) := by decide +kernel
theorem dX0_weigh_26 : decode cX0_weigh 26 = .ok (.aload_n 1, 1) := by decide +kernel
theorem dX0_weigh_27 : decode cX0_weigh 27 = .ok (.iload_n 2, 1) := by decide +kernel
theorem dX0_weigh_28 : decode cX0_weigh 28 = .ok (.iload 4, 2) := by decide +kernel
theorem dX0_weigh_30 : decode cX0_weigh 30 = .ok (.invokevirtual 31, 3) := by decide +kernel
theorem dX0_weigh_33 : decode cX0_weigh 33 = .ok (.ifCond .eq 10, 3) := by decide +kernel
theorem dX0_weigh_36 : decode cX0_weigh 36 = .ok (.iconst 1, 1) := by decide +kernel
theorem dX0_weigh_37 : decode cX0_weigh 37 = .ok (.iload 4, 2) := by decide +kernel
theorem dX0_weigh_39 : decode cX0_weigh 39 = .ok (.ishl, 1) := by decide +kernel
theorem dX0_weigh_40 : decode cX0_weigh 40 = .ok (.goto 4, 3) := by decide +kernel
theorem dX0_weigh_43 : decode cX0_weigh 43 = .ok (.iconst 0, 1) := by decide +kernel
theorem dX0_weigh_44 : decode cX0_weigh 44 = .ok (.ior, 1) := by decide +kernel
theorem dX0_weigh_45 : decode cX0_weigh 45 = .ok (.istore_n 3, 1) := by decide +kernel
theorem dX0_weigh_46 : decode cX0_weigh 46 = .ok (.iinc 4 1, 3) := by decide +kernel
theorem dX0_weigh_49 : decode cX0_weigh 49 = .ok (.goto (-34), 3) := by decide +kernel
theorem dX0_weigh_52 : decode cX0_weigh 52 = .ok (.aload_n 1, 1) := by decide +kernel
theorem dX0_weigh_53 : decode cX0_weigh 53 = .ok (.getfield 35, 3) := by decide +kernel
theorem dX0_weigh_56 : decode cX0_weigh 56 = .ok (.iload_n 2, 1) := by decide +kernel
theorem dX0_weigh_57 : decode cX0_weigh 57 = .ok (.iload_n 3, 1) := by decide +kernel
theorem dX0_weigh_58 : decode cX0_weigh 58 = .ok (.invokestatic 22, 3) := by decide +kernel
theorem dX0_weigh_61 : decode cX0_weigh 61 = .ok (.iinc 2 1, 3) := by decide +kernel
theorem dX0_weigh_64 : decode cX0_weigh 64 = .ok (.goto (-62), 3) := by decide +kernel
theorem dX0_weigh_67 : decode cX0_weigh 67 = .ok (.return_, 1) := by decide +kernel
theorem dX0_holds_0 : decode cX0_holds 0 = .ok (.aload_n 0, 1) := by decide +kernel
theorem dX0_holds_1 : decode cX0_holds 1 = .ok (.iconst 0, 1) := by decide +kernel
theorem dX0_holds_2 : decode cX0_holds 2 = .ok (.putfield 38, 3) := by decide +kernel
theorem dX0_holds_5 : decode cX0_holds 5 = .ok (.iconst 0, 1) := by decide +kernel
theorem dX0_holds_6 : decode cX0_holds 6 = .ok (.istore 4, 2) := by decide +kernel
theorem dX0_holds_8 : decode cX0_holds 8 = .ok (.iload 4, 2) := by decide +kernel
theorem dX0_holds_10 : decode cX0_holds 10 = .ok (.aload_n 0, 1) := by decide +kernel
theorem dX0_holds_11 : decode cX0_holds 11 = .ok (.getfield 18, 3) := by decide +kernel
theorem dX0_holds_14 : decode cX0_holds 14 = .ok (.if_icmp .ge 136, 3) := by decide +kernel
theorem dX0_holds_17 : decode cX0_holds 17 = .ok (.aload_n 0, 1) := by decide +kernel
theorem dX0_holds_18 : decode cX0_holds 18 = .ok (.getfield 9, 3) := by decide +kernel
theorem dX0_holds_21 : decode cX0_holds 21 = .ok (.iload 4, 2) := by decide +kernel
theorem dX0_holds_23 : decode cX0_holds 23 = .ok (.invokestatic 41, 3) := by decide +kernel
theorem dX0_holds_26 : decode cX0_holds 26 = .ok (.istore 5, 2) := by decide +kernel
theorem dX0_holds_28 : decode cX0_holds 28 = .ok (.iload 5, 2) := by decide +kernel
theorem dX0_holds_30 : decode cX0_holds 30 = .ok (.sipush 10000, 3) := by decide +kernel
theorem dX0_holds_33 : decode cX0_holds 33 = .ok (.if_icmp .ge 12, 3) := by decide +kernel
theorem dX0_holds_36 : decode cX0_holds 36 = .ok (.aload_n 0, 1) := by decide +kernel
theorem dX0_holds_37 : decode cX0_holds 37 = .ok (.iload 5, 2) := by decide +kernel
theorem dX0_holds_39 : decode cX0_holds 39 = .ok (.invokevirtual 45, 3) := by decide +kernel
theorem dX0_holds_42 : decode cX0_holds 42 = .ok (.goto 102, 3) := by decide +kernel
theorem dX0_holds_45 : decode cX0_holds 45 = .ok (.iload 5, 2) := by decide +kernel
theorem dX0_holds_47 : decode cX0_holds 47 = .ok (.sipush 10147, 3) := by decide +kernel
theorem dX0_holds_50 : decode cX0_holds 50 = .ok (.if_icmp .lt 22, 3) := by decide +kernel
theorem dX0_holds_53 : decode cX0_holds 53 = .ok (.aload_n 0, 1) := by decide +kernel
theorem dX0_holds_54 : decode cX0_holds 54 = .ok (.iload 5, 2) := by decide +kernel
theorem dX0_holds_56 : decode cX0_holds 56 = .ok (.sipush 10000, 3) := by decide +kernel
theorem dX0_holds_59 : decode cX0_holds 59 = .ok (.isub, 1) := by decide +kernel
theorem dX0_holds_60 : decode cX0_holds 60 = .ok (.aload_n 1, 1) := by decide +kernel
theorem dX0_holds_61 : decode cX0_holds 61 = .ok (.iload_n 2, 1) := by decide +kernel
theorem dX0_holds_62 : decode cX0_holds 62 = .ok (.iload_n 3, 1) := by decide +kernel
theorem dX0_holds_63 : decode cX0_holds 63 = .ok (.invokestatic 49, 3) := by decide +kernel
theorem dX0_holds_66 : decode cX0_holds 66 = .ok (.invokevirtual 45, 3) := by decide +kernel
theorem dX0_holds_69 : decode cX0_holds 69 = .ok (.goto 75, 3) := by decide +kernel
theorem dX0_holds_72 : decode cX0_holds 72 = .ok (.iload 5, 2) := by decide +kernel
theorem dX0_holds_74 : decode cX0_holds 74 = .ok (.sipush 10144, 3) := by decide +kernel
theorem dX0_holds_77 : decode cX0_holds 77 = .ok (.if_icmp .ne 22, 3) := by decide +kernel
theorem dX0_holds_80 : decode cX0_holds 80 = .ok (.aload_n 0, 1) := by decide +kernel
theorem dX0_holds_81 : decode cX0_holds 81 = .ok (.aload_n 0, 1) := by decide +kernel
theorem dX0_holds_82 : decode cX0_holds 82 = .ok (.invokevirtual 53, 3) := by decide +kernel
theorem dX0_holds_85 : decode cX0_holds 85 = .ok (.ifCond .ne 7, 3) := by decide +kernel
theorem dX0_holds_88 : decode cX0_holds 88 = .ok (.iconst 1, 1) := by decide +kernel
theorem dX0_holds_89 : decode cX0_holds 89 = .ok (.goto 4, 3) := by decide +kernel
theorem dX0_holds_92 : decode cX0_holds 92 = .ok (.iconst 0, 1) := by decide +kernel
theorem dX0_holds_93 : decode cX0_holds 93 = .ok (.invokevirtual 45, 3) := by decide +kernel
theorem dX0_holds_96 : decode cX0_holds 96 = .ok (.goto 48, 3) := by decide +kernel
theorem dX0_holds_99 : decode cX0_holds 99 = .ok (.iload 5, 2) := by decide +kernel
theorem dX0_holds_101 : decode cX0_holds 101 = .ok (.sipush 10059, 3) := by decide +kernel
theorem dX0_holds_104 : decode cX0_holds 104 = .ok (.if_icmp .eq 31, 3) := by decide +kernel
theorem dX0_holds_107 : decode cX0_holds 107 = .ok (.aload_n 0, 1) := by decide +kernel
theorem dX0_holds_108 : decode cX0_holds 108 = .ok (.invokevirtual 53, 3) := by decide +kernel
theorem dX0_holds_111 : decode cX0_holds 111 = .ok (.istore 6, 2) := by decide +kernel
theorem dX0_holds_113 : decode cX0_holds 113 = .ok (.aload_n 0, 1) := by decide +kernel
theorem dX0_holds_114 : decode cX0_holds 114 = .ok (.iload 5, 2) := by decide +kernel
theorem dX0_holds_116 : decode cX0_holds 116 = .ok (.sipush 10000, 3) := by decide +kernel
theorem dX0_holds_119 : decode cX0_holds 119 = .ok (.isub, 1) := by decide +kernel
theorem dX0_holds_120 : decode cX0_holds 120 = .ok (.aload_n 0, 1) := by decide +kernel
theorem dX0_holds_121 : decode cX0_holds 121 = .ok (.invokevirtual 53, 3) := by decide +kernel
theorem dX0_holds_124 : decode cX0_holds 124 = .ok (.iload 6, 2) := by decide +kernel
theorem dX0_holds_126 : decode cX0_holds 126 = .ok (.invokestatic 57, 3) := by decide +kernel
theorem dX0_holds_129 : decode cX0_holds 129 = .ok (.invokevirtual 45, 3) := by decide +kernel
theorem dX0_holds_132 : decode cX0_holds 132 = .ok (.goto 12, 3) := by decide +kernel
theorem dX0_holds_135 : decode cX0_holds 135 = .ok (.aload_n 0, 1) := by decide +kernel
theorem dX0_holds_136 : decode cX0_holds 136 = .ok (.invokevirtual 53, 3) := by decide +kernel
theorem dX0_holds_139 : decode cX0_holds 139 = .ok (.ifCond .eq 5, 3) := by decide +kernel
theorem dX0_holds_142 : decode cX0_holds 142 = .ok (.iconst 1, 1) := by decide +kernel
theorem dX0_holds_143 : decode cX0_holds 143 = .ok (.ireturn, 1) := by decide +kernel
theorem dX0_holds_144 : decode cX0_holds 144 = .ok (.iinc 4 1, 3) := by decide +kernel
theorem dX0_holds_147 : decode cX0_holds 147 = .ok (.goto (-139), 3) := by decide +kernel
theorem dX0_holds_150 : decode cX0_holds 150 = .ok (.iconst 0, 1) := by decide +kernel
theorem dX0_holds_151 : decode cX0_holds 151 = .ok (.ireturn, 1) := by decide +kernel
theorem dX0_factOf_0 : decode cX0_factOf 0 = .ok (.iload_n 0, 1) := by decide +kernel
theorem dX0_factOf_1 : decode cX0_factOf 1 = .ok (.tableswitch 67 147 150 #[31, 40, 49, 58], 31) := by decide +kernel
theorem dX0_factOf_32 : decode cX0_factOf 32 = .ok (.aload_n 1, 1) := by decide +kernel
theorem dX0_factOf_33 : decode cX0_factOf 33 = .ok (.getfield 61, 3) := by decide +kernel
theorem dX0_factOf_36 : decode cX0_factOf 36 = .ok (.iload_n 2, 1) := by decide +kernel
theorem dX0_factOf_37 : decode cX0_factOf 37 = .ok (.invokestatic 41, 3) := by decide +kernel
theorem dX0_factOf_40 : decode cX0_factOf 40 = .ok (.ireturn, 1) := by decide +kernel
theorem dX0_factOf_41 : decode cX0_factOf 41 = .ok (.aload_n 1, 1) := by decide +kernel
theorem dX0_factOf_42 : decode cX0_factOf 42 = .ok (.getfield 61, 3) := by decide +kernel
theorem dX0_factOf_45 : decode cX0_factOf 45 = .ok (.iload_n 3, 1) := by decide +kernel
theorem dX0_factOf_46 : decode cX0_factOf 46 = .ok (.invokestatic 41, 3) := by decide +kernel
theorem dX0_factOf_49 : decode cX0_factOf 49 = .ok (.ireturn, 1) := by decide +kernel
theorem dX0_factOf_50 : decode cX0_factOf 50 = .ok (.aload_n 1, 1) := by decide +kernel
theorem dX0_factOf_51 : decode cX0_factOf 51 = .ok (.getfield 64, 3) := by decide +kernel
theorem dX0_factOf_54 : decode cX0_factOf 54 = .ok (.iload_n 2, 1) := by decide +kernel
theorem dX0_factOf_55 : decode cX0_factOf 55 = .ok (.invokestatic 41, 3) := by decide +kernel
theorem dX0_factOf_58 : decode cX0_factOf 58 = .ok (.ireturn, 1) := by decide +kernel
theorem dX0_factOf_59 : decode cX0_factOf 59 = .ok (.aload_n 1, 1) := by decide +kernel
theorem dX0_factOf_60 : decode cX0_factOf 60 = .ok (.getfield 64, 3) := by decide +kernel
theorem dX0_factOf_63 : decode cX0_factOf 63 = .ok (.iload_n 3, 1) := by decide +kernel
theorem dX0_factOf_64 : decode cX0_factOf 64 = .ok (.invokestatic 41, 3) := by decide +kernel
theorem dX0_factOf_67 : decode cX0_factOf 67 = .ok (.ireturn, 1) := by decide +kernel
theorem dX0_factOf_68 : decode cX0_factOf 68 = .ok (.aload_n 1, 1) := by decide +kernel
theorem dX0_factOf_69 : decode cX0_factOf 69 = .ok (.iload_n 2, 1) := by decide +kernel
theorem dX0_factOf_70 : decode cX0_factOf 70 = .ok (.iload_n 3, 1) := by decide +kernel
theorem dX0_factOf_71 : decode cX0_factOf 71 = .ok (.invokevirtual 67, 3) := by decide +kernel
theorem dX0_factOf_74 : decode cX0_factOf 74 = .ok (.ifCond .eq 7, 3) := by decide +kernel
theorem dX0_factOf_77 : decode cX0_factOf 77 = .ok (.iconst 1, 1) := by decide +kernel
theorem dX0_factOf_78 : decode cX0_factOf 78 = .ok (.goto 4, 3) := by decide +kernel
theorem dX0_factOf_81 : decode cX0_factOf 81 = .ok (.iconst 0, 1) := by decide +kernel
theorem dX0_factOf_82 : decode cX0_factOf 82 = .ok (.ireturn, 1) := by decide +kernel
theorem dX0_joined_0 : decode cX0_joined 0 = .ok (.iload_n 0, 1) := by decide +kernel
theorem dX0_joined_1 : decode cX0_joined 1 = .ok (.lookupswitch 107 #[(42, 67), (43, 59), (45, 63), (60, 71), (61, 82), (145, 93)], 59) := by decide +kernel
theorem dX0_joined_60 : decode cX0_joined 60 = .ok (.iload_n 1, 1) := by decide +kernel
theorem dX0_joined_61 : decode cX0_joined 61 = .ok (.iload_n 2, 1) := by decide +kernel
theorem dX0_joined_62 : decode cX0_joined 62 = .ok (.iadd, 1) := by decide +kernel
theorem dX0_joined_63 : decode cX0_joined 63 = .ok (.ireturn, 1) := by decide +kernel
theorem dX0_joined_64 : decode cX0_joined 64 = .ok (.iload_n 1, 1) := by decide +kernel
theorem dX0_joined_65 : decode cX0_joined 65 = .ok (.iload_n 2, 1) := by decide +kernel
theorem dX0_joined_66 : decode cX0_joined 66 = .ok (.isub, 1) := by decide +kernel
theorem dX0_joined_67 : decode cX0_joined 67 = .ok (.ireturn, 1) := by decide +kernel
theorem dX0_joined_68 : decode cX0_joined 68 = .ok (.iload_n 1, 1) := by decide +kernel
theorem dX0_joined_69 : decode cX0_joined 69 = .ok (.iload_n 2, 1) := by decide +kernel
theorem dX0_joined_70 : decode cX0_joined 70 = .ok (.imul, 1) := by decide +kernel
theorem dX0_joined_71 : decode cX0_joined 71 = .ok (.ireturn, 1) := by decide +kernel
theorem dX0_joined_72 : decode cX0_joined 72 = .ok (.iload_n 1, 1) := by decide +kernel
theorem dX0_joined_73 : decode cX0_joined 73 = .ok (.iload_n 2, 1) := by decide +kernel
theorem dX0_joined_74 : decode cX0_joined 74 = .ok (.if_icmp .ge 7, 3) := by decide +kernel
theorem dX0_joined_77 : decode cX0_joined 77 = .ok (.iconst 1, 1) := by decide +kernel
theorem dX0_joined_78 : decode cX0_joined 78 = .ok (.goto 4, 3) := by decide +kernel
theorem dX0_joined_81 : decode cX0_joined 81 = .ok (.iconst 0, 1) := by decide +kernel
theorem dX0_joined_82 : decode cX0_joined 82 = .ok (.ireturn, 1) := by decide +kernel
theorem dX0_joined_83 : decode cX0_joined 83 = .ok (.iload_n 1, 1) := by decide +kernel
theorem dX0_joined_84 : decode cX0_joined 84 = .ok (.iload_n 2, 1) := by decide +kernel
theorem dX0_joined_85 : decode cX0_joined 85 = .ok (.if_icmp .ne 7, 3) := by decide +kernel
theorem dX0_joined_88 : decode cX0_joined 88 = .ok (.iconst 1, 1) := by decide +kernel
theorem dX0_joined_89 : decode cX0_joined 89 = .ok (.goto 4, 3) := by decide +kernel
theorem dX0_joined_92 : decode cX0_joined 92 = .ok (.iconst 0, 1) := by decide +kernel
theorem dX0_joined_93 : decode cX0_joined 93 = .ok (.ireturn, 1) := by decide +kernel
theorem dX0_joined_94 : decode cX0_joined 94 = .ok (.iload_n 1, 1) := by decide +kernel
theorem dX0_joined_95 : decode cX0_joined 95 = .ok (.ifCond .eq 11, 3) := by decide +kernel
theorem dX0_joined_98 : decode cX0_joined 98 = .ok (.iload_n 2, 1) := by decide +kernel
theorem dX0_joined_99 : decode cX0_joined 99 = .ok (.ifCond .eq 7, 3) := by decide +kernel
theorem dX0_joined_102 : decode cX0_joined 102 = .ok (.iconst 1, 1) := by decide +kernel
theorem dX0_joined_103 : decode cX0_joined 103 = .ok (.goto 4, 3) := by decide +kernel
theorem dX0_joined_106 : decode cX0_joined 106 = .ok (.iconst 0, 1) := by decide +kernel
theorem dX0_joined_107 : decode cX0_joined 107 = .ok (.ireturn, 1) := by decide +kernel
theorem dX0_joined_108 : decode cX0_joined 108 = .ok (.iload_n 1, 1) := by decide +kernel
theorem dX0_joined_109 : decode cX0_joined 109 = .ok (.ifCond .ne 7, 3) := by decide +kernel
theorem dX0_joined_112 : decode cX0_joined 112 = .ok (.iload_n 2, 1) := by decide +kernel
theorem dX0_joined_113 : decode cX0_joined 113 = .ok (.ifCond .eq 7, 3) := by decide +kernel
theorem dX0_joined_116 : decode cX0_joined 116 = .ok (.iconst 1, 1) := by decide +kernel
theorem dX0_joined_117 : decode cX0_joined 117 = .ok (.goto 4, 3) := by decide +kernel
theorem dX0_joined_120 : decode cX0_joined 120 = .ok (.iconst 0, 1) := by decide +kernel
theorem dX0_joined_121 : decode cX0_joined 121 = .ok (.ireturn, 1) := by decide +kernel
theorem dX0_push_0 : decode cX0_push 0 = .ok (.aload_n 0, 1) := by decide +kernel
theorem dX0_push_1 : decode cX0_push 1 = .ok (.getfield 15, 3) := by decide +kernel
theorem dX0_push_4 : decode cX0_push 4 = .ok (.aload_n 0, 1) := by decide +kernel
theorem dX0_push_5 : decode cX0_push 5 = .ok (.getfield 38, 3) := by decide +kernel
theorem dX0_push_8 : decode cX0_push 8 = .ok (.iload_n 1, 1) := by decide +kernel
theorem dX0_push_9 : decode cX0_push 9 = .ok (.invokestatic 22, 3) := by decide +kernel
theorem dX0_push_12 : decode cX0_push 12 = .ok (.aload_n 0, 1) := by decide +kernel
theorem dX0_push_13 : decode cX0_push 13 = .ok (.dup, 1) := by decide +kernel
theorem dX0_push_14 : decode cX0_push 14 = .ok (.getfield 38, 3) := by decide +kernel
theorem dX0_push_17 : decode cX0_push 17 = .ok (.iconst 1, 1) := by decide +kernel
theorem dX0_push_18 : decode cX0_push 18 = .ok (.iadd, 1) := by decide +kernel
theorem dX0_push_19 : decode cX0_push 19 = .ok (.putfield 38, 3) := by decide +kernel
theorem dX0_push_22 : decode cX0_push 22 = .ok (.return_, 1) := by decide +kernel
theorem dX0_pop_0 : decode cX0_pop 0 = .ok (.aload_n 0, 1) := by decide +kernel
theorem dX0_pop_1 : decode cX0_pop 1 = .ok (.dup, 1) := by decide +kernel
theorem dX0_pop_2 : decode cX0_pop 2 = .ok (.getfield 38, 3) := by decide +kernel
theorem dX0_pop_5 : decode cX0_pop 5 = .ok (.iconst 1, 1) := by decide +kernel
theorem dX0_pop_6 : decode cX0_pop 6 = .ok (.isub, 1) := by decide +kernel
theorem dX0_pop_7 : decode cX0_pop 7 = .ok (.putfield 38, 3) := by decide +kernel
theorem dX0_pop_10 : decode cX0_pop 10 = .ok (.aload_n 0, 1) := by decide +kernel
theorem dX0_pop_11 : decode cX0_pop 11 = .ok (.getfield 15, 3) := by decide +kernel
theorem dX0_pop_14 : decode cX0_pop 14 = .ok (.aload_n 0, 1) := by decide +kernel
theorem dX0_pop_15 : decode cX0_pop 15 = .ok (.getfield 38, 3) := by decide +kernel
theorem dX0_pop_18 : decode cX0_pop 18 = .ok (.invokestatic 41, 3) := by decide +kernel
theorem dX0_pop_21 : decode cX0_pop 21 = .ok (.ireturn, 1) := by decide +kernel
theorem dX1_init_0 : decode cX1_init 0 = .ok (.aload_n 0, 1) := by decide +kernel
theorem dX1_init_1 : decode cX1_init 1 = .ok (.invokespecial 1, 3) := by decide +kernel
theorem dX1_init_4 : decode cX1_init 4 = .ok (.aload_n 0, 1) := by decide +kernel
theorem dX1_init_5 : decode cX1_init 5 = .ok (.iload_n 1, 1) := by decide +kernel
theorem dX1_init_6 : decode cX1_init 6 = .ok (.iconst 1, 1) := by decide +kernel
theorem dX1_init_7 : decode cX1_init 7 = .ok (.if_icmp .ge 7, 3) := by decide +kernel
theorem dX1_init_10 : decode cX1_init 10 = .ok (.iconst 1, 1) := by decide +kernel
theorem dX1_init_11 : decode cX1_init 11 = .ok (.goto 4, 3) := by decide +kernel
theorem dX1_init_14 : decode cX1_init 14 = .ok (.iload_n 1, 1) := by decide +kernel
theorem dX1_init_15 : decode cX1_init 15 = .ok (.newarray .int, 2) := by decide +kernel
theorem dX1_init_17 : decode cX1_init 17 = .ok (.putfield 7, 3) := by decide +kernel
theorem dX1_init_20 : decode cX1_init 20 = .ok (.return_, 1) := by decide +kernel
theorem dX1_follow_0 : decode cX1_follow 0 = .ok (.aload_n 0, 1) := by decide +kernel
theorem dX1_follow_1 : decode cX1_follow 1 = .ok (.iload_n 2, 1) := by decide +kernel
theorem dX1_follow_2 : decode cX1_follow 2 = .ok (.putfield 13, 3) := by decide +kernel
theorem dX1_follow_5 : decode cX1_follow 5 = .ok (.aload_n 0, 1) := by decide +kernel
theorem dX1_follow_6 : decode cX1_follow 6 = .ok (.iconst 0, 1) := by decide +kernel
theorem dX1_follow_7 : decode cX1_follow 7 = .ok (.putfield 17, 3) := by decide +kernel
theorem dX1_follow_10 : decode cX1_follow 10 = .ok (.aload_n 0, 1) := by decide +kernel
theorem dX1_follow_11 : decode cX1_follow 11 = .ok (.iconst 0, 1) := by decide +kernel
theorem dX1_follow_12 : decode cX1_follow 12 = .ok (.putfield 20, 3) := by decide +kernel
theorem dX1_follow_15 : decode cX1_follow 15 = .ok (.aload_n 0, 1) := by decide +kernel
theorem dX1_follow_16 : decode cX1_follow 16 = .ok (.iconst 0, 1) := by decide +kernel
theorem dX1_follow_17 : decode cX1_follow 17 = .ok (.putfield 23, 3) := by decide +kernel
theorem dX1_follow_20 : decode cX1_follow 20 = .ok (.aload_n 0, 1) := by decide +kernel
theorem dX1_follow_21 : decode cX1_follow 21 = .ok (.lconst 1, 1) := by decide +kernel
theorem dX1_follow_22 : decode cX1_follow 22 = .ok (.putfield 26, 3) := by decide +kernel
theorem dX1_follow_25 : decode cX1_follow 25 = .ok (.aload_n 0, 1) := by decide +kernel
theorem dX1_follow_26 : decode cX1_follow 26 = .ok (.getfield 7, 3) := by decide +kernel
theorem dX1_follow_29 : decode cX1_follow 29 = .ok (.iconst 0, 1) := by decide +kernel
theorem dX1_follow_30 : decode cX1_follow 30 = .ok (.invokestatic 30, 3) := by decide +kernel
theorem dX1_follow_33 : decode cX1_follow 33 = .ok (.iconst 0, 1) := by decide +kernel
theorem dX1_follow_34 : decode cX1_follow 34 = .ok (.istore_n 3, 1) := by decide +kernel
theorem dX1_follow_35 : decode cX1_follow 35 = .ok (.iload_n 3, 1) := by decide +kernel
theorem dX1_follow_36 : decode cX1_follow 36 = .ok (.aload_n 0, 1) := by decide +kernel
theorem dX1_follow_37 : decode cX1_follow 37 = .ok (.getfield 13, 3) := by decide +kernel
theorem dX1_follow_40 : decode cX1_follow 40 = .ok (.if_icmp .ge 26, 3) := by decide +kernel
theorem dX1_follow_43 : decode cX1_follow 43 = .ok (.aload_n 0, 1) := by decide +kernel
theorem dX1_follow_44 : decode cX1_follow 44 = .ok (.getfield 7, 3) := by decide +kernel
theorem dX1_follow_47 : decode cX1_follow 47 = .ok (.iload_n 3, 1) := by decide +kernel
theorem dX1_follow_48 : decode cX1_follow 48 = .ok (.invokestatic 36, 3) := by decide +kernel
theorem dX1_follow_51 : decode cX1_follow 51 = .ok (.ifCond .ne 9, 3) := by decide +kernel
theorem dX1_follow_54 : decode cX1_follow 54 = .ok (.aload_n 0, 1) := by decide +kernel
theorem dX1_follow_55 : decode cX1_follow 55 = .ok (.aload_n 1, 1) := by decide +kernel
theorem dX1_follow_56 : decode cX1_follow 56 = .ok (.iload_n 3, 1) := by decide +kernel
theorem dX1_follow_57 : decode cX1_follow 57 = .ok (.invokevirtual 40, 3) := by decide +kernel
theorem dX1_follow_60 : decode cX1_follow 60 = .ok (.iinc 3 1, 3) := by decide +kernel
theorem dX1_follow_63 : decode cX1_follow 63 = .ok (.goto (-28), 3) := by decide +kernel
theorem dX1_follow_66 : decode cX1_follow 66 = .ok (.return_, 1) := by decide +kernel
theorem dX1_addCycle_0 : decode cX1_addCycle 0 = .ok (.iconst 1, 1) := by decide +kernel
theorem dX1_addCycle_1 : decode cX1_addCycle 1 = .ok (.istore_n 3, 1) := by decide +kernel
theorem dX1_addCycle_2 : decode cX1_addCycle 2 = .ok (.aload_n 1, 1) := by decide +kernel
theorem dX1_addCycle_3 : decode cX1_addCycle 3 = .ok (.iload_n 2, 1) := by decide +kernel
theorem dX1_addCycle_4 : decode cX1_addCycle 4 = .ok (.invokestatic 36, 3) := by decide +kernel
theorem dX1_addCycle_7 : decode cX1_addCycle 7 = .ok (.istore 4, 2) := by decide +kernel
theorem dX1_addCycle_9 : decode cX1_addCycle 9 = .ok (.iconst 1, 1) := by decide +kernel
theorem dX1_addCycle_10 : decode cX1_addCycle 10 = .ok (.istore 5, 2) := by decide +kernel
theorem dX1_addCycle_12 : decode cX1_addCycle 12 = .ok (.iload 5, 2) := by decide +kernel
theorem dX1_addCycle_14 : decode cX1_addCycle 14 = .ok (.aload_n 0, 1) := by decide +kernel
theorem dX1_addCycle_15 : decode cX1_addCycle 15 = .ok (.getfield 13, 3) := by decide +kernel
theorem dX1_addCycle_18 : decode cX1_addCycle 18 = .ok (.if_icmp .ge 26, 3) := by decide +kernel
theorem dX1_addCycle_21 : decode cX1_addCycle 21 = .ok (.iload 4, 2) := by decide +kernel
theorem dX1_addCycle_23 : decode cX1_addCycle 23 = .ok (.iload_n 2, 1) := by decide +kernel
theorem dX1_addCycle_24 : decode cX1_addCycle 24 = .ok (.if_icmp .eq 20, 3) := by decide +kernel
theorem dX1_addCycle_27 : decode cX1_addCycle 27 = .ok (.iinc 3 1, 3) := by decide +kernel
theorem dX1_addCycle_30 : decode cX1_addCycle 30 = .ok (.aload_n 1, 1) := by decide +kernel
theorem dX1_addCycle_31 : decode cX1_addCycle 31 = .ok (.iload 4, 2) := by decide +kernel
theorem dX1_addCycle_33 : decode cX1_addCycle 33 = .ok (.invokestatic 36, 3) := by decide +kernel
theorem dX1_addCycle_36 : decode cX1_addCycle 36 = .ok (.istore 4, 2) := by decide +kernel
theorem dX1_addCycle_38 : decode cX1_addCycle 38 = .ok (.iinc 5 1, 3) := by decide +kernel
theorem dX1_addCycle_41 : decode cX1_addCycle 41 = .ok (.goto (-29), 3) := by decide +kernel
theorem dX1_addCycle_44 : decode cX1_addCycle 44 = .ok (.iconst 0, 1) := by decide +kernel
theorem dX1_addCycle_45 : decode cX1_addCycle 45 = .ok (.istore 5, 2) := by decide +kernel
theorem dX1_addCycle_47 : decode cX1_addCycle 47 = .ok (.iload 5, 2) := by decide +kernel
theorem dX1_addCycle_49 : decode cX1_addCycle 49 = .ok (.iload_n 3, 1) := by decide +kernel
theorem dX1_addCycle_50 : decode cX1_addCycle 50 = .ok (.if_icmp .ge 27, 3) := by decide +kernel
theorem dX1_addCycle_53 : decode cX1_addCycle 53 = .ok (.aload_n 0, 1) := by decide +kernel
theorem dX1_addCycle_54 : decode cX1_addCycle 54 = .ok (.getfield 7, 3) := by decide +kernel
theorem dX1_addCycle_57 : decode cX1_addCycle 57 = .ok (.iload 4, 2) := by decide +kernel
theorem dX1_addCycle_59 : decode cX1_addCycle 59 = .ok (.iload_n 3, 1) := by decide +kernel
theorem dX1_addCycle_60 : decode cX1_addCycle 60 = .ok (.invokestatic 43, 3) := by decide +kernel
theorem dX1_addCycle_63 : decode cX1_addCycle 63 = .ok (.aload_n 1, 1) := by decide +kernel
theorem dX1_addCycle_64 : decode cX1_addCycle 64 = .ok (.iload 4, 2) := by decide +kernel
theorem dX1_addCycle_66 : decode cX1_addCycle 66 = .ok (.invokestatic 36, 3) := by decide +kernel
theorem dX1_addCycle_69 : decode cX1_addCycle 69 = .ok (.istore 4, 2) := by decide +kernel
theorem dX1_addCycle_71 : decode cX1_addCycle 71 = .ok (.iinc 5 1, 3) := by decide +kernel
theorem dX1_addCycle_74 : decode cX1_addCycle 74 = .ok (.goto (-27), 3) := by decide +kernel
theorem dX1_addCycle_77 : decode cX1_addCycle 77 = .ok (.aload_n 0, 1) := by decide +kernel
theorem dX1_addCycle_78 : decode cX1_addCycle 78 = .ok (.dup, 1) := by decide +kernel
theorem dX1_addCycle_79 : decode cX1_addCycle 79 = .ok (.getfield 17, 3) := by decide +kernel
theorem dX1_addCycle_82 : decode cX1_addCycle 82 = .ok (.iconst 1, 1) := by decide +kernel
theorem dX1_addCycle_83 : decode cX1_addCycle 83 = .ok (.iadd, 1) := by decide +kernel
theorem dX1_addCycle_84 : decode cX1_addCycle 84 = .ok (.putfield 17, 3) := by decide +kernel
theorem dX1_addCycle_87 : decode cX1_addCycle 87 = .ok (.aload_n 0, 1) := by decide +kernel
theorem dX1_addCycle_88 : decode cX1_addCycle 88 = .ok (.aload_n 0, 1) := by decide +kernel
theorem dX1_addCycle_89 : decode cX1_addCycle 89 = .ok (.getfield 20, 3) := by decide +kernel
theorem dX1_addCycle_92 : decode cX1_addCycle 92 = .ok (.iload_n 3, 1) := by decide +kernel
theorem dX1_addCycle_93 : decode cX1_addCycle 93 = .ok (.invokestatic 47, 3) := by decide +kernel
theorem dX1_addCycle_96 : decode cX1_addCycle 96 = .ok (.putfield 20, 3) := by decide +kernel
theorem dX1_addCycle_99 : decode cX1_addCycle 99 = .ok (.aload_n 0, 1) := by decide +kernel
theorem dX1_addCycle_100 : decode cX1_addCycle 100 = .ok (.dup, 1) := by decide +kernel
theorem dX1_addCycle_101 : decode cX1_addCycle 101 = .ok (.getfield 23, 3) := by decide +kernel
theorem dX1_addCycle_104 : decode cX1_addCycle 104 = .ok (.iload_n 3, 1) := by decide +kernel
theorem dX1_addCycle_105 : decode cX1_addCycle 105 = .ok (.iconst 1, 1) := by decide +kernel
theorem dX1_addCycle_106 : decode cX1_addCycle 106 = .ok (.if_icmp .ne 7, 3) := by decide +kernel
theorem dX1_addCycle_109 : decode cX1_addCycle 109 = .ok (.iconst 1, 1) := by decide +kernel
theorem dX1_addCycle_110 : decode cX1_addCycle 110 = .ok (.goto 4, 3) := by decide +kernel
theorem dX1_addCycle_113 : decode cX1_addCycle 113 = .ok (.iconst 0, 1) := by decide +kernel
theorem dX1_addCycle_114 : decode cX1_addCycle 114 = .ok (.iadd, 1) := by decide +kernel
theorem dX1_addCycle_115 : decode cX1_addCycle 115 = .ok (.putfield 23, 3) := by decide +kernel
theorem dX1_addCycle_118 : decode cX1_addCycle 118 = .ok (.aload_n 0, 1) := by decide +kernel
theorem dX1_addCycle_119 : decode cX1_addCycle 119 = .ok (.aload_n 0, 1) := by decide +kernel
theorem dX1_addCycle_120 : decode cX1_addCycle 120 = .ok (.getfield 26, 3) := by decide +kernel
theorem dX1_addCycle_123 : decode cX1_addCycle 123 = .ok (.iload_n 3, 1) := by decide +kernel
theorem dX1_addCycle_124 : decode cX1_addCycle 124 = .ok (.i2l, 1) := by decide +kernel
theorem dX1_addCycle_125 : decode cX1_addCycle 125 = .ok (.invokestatic 53, 3) := by decide +kernel
theorem dX1_addCycle_128 : decode cX1_addCycle 128 = .ok (.putfield 26, 3) := by decide +kernel
theorem dX1_addCycle_131 : decode cX1_addCycle 131 = .ok (.return_, 1) := by decide +kernel
theorem dX1_ofLength_0 : decode cX1_ofLength 0 = .ok (.iconst 0, 1) := by decide +kernel
theorem dX1_ofLength_1 : decode cX1_ofLength 1 = .ok (.istore_n 2, 1) := by decide +kernel
theorem dX1_ofLength_2 : decode cX1_ofLength 2 = .ok (.iconst 0, 1) := by decide +kernel
theorem dX1_ofLength_3 : decode cX1_ofLength 3 = .ok (.istore_n 3, 1) := by decide +kernel
theorem dX1_ofLength_4 : decode cX1_ofLength 4 = .ok (.iload_n 3, 1) := by decide +kernel
theorem dX1_ofLength_5 : decode cX1_ofLength 5 = .ok (.aload_n 0, 1) := by decide +kernel
theorem dX1_ofLength_6 : decode cX1_ofLength 6 = .ok (.getfield 13, 3) := by decide +kernel
theorem dX1_ofLength_9 : decode cX1_ofLength 9 = .ok (.if_icmp .ge 29, 3) := by decide +kernel
theorem dX1_ofLength_12 : decode cX1_ofLength 12 = .ok (.iload_n 2, 1) := by decide +kernel
theorem dX1_ofLength_13 : decode cX1_ofLength 13 = .ok (.aload_n 0, 1) := by decide +kernel
theorem dX1_ofLength_14 : decode cX1_ofLength 14 = .ok (.getfield 7, 3) := by decide +kernel
theorem dX1_ofLength_17 : decode cX1_ofLength 17 = .ok (.iload_n 3, 1) := by decide +kernel
theorem dX1_ofLength_18 : decode cX1_ofLength 18 = .ok (.invokestatic 36, 3) := by decide +kernel
theorem dX1_ofLength_21 : decode cX1_ofLength 21 = .ok (.iload_n 1, 1) := by decide +kernel
theorem dX1_ofLength_22 : decode cX1_ofLength 22 = .ok (.if_icmp .ne 7, 3) := by decide +kernel
theorem dX1_ofLength_25 : decode cX1_ofLength 25 = .ok (.iconst 1, 1) := by decide +kernel
theorem dX1_ofLength_26 : decode cX1_ofLength 26 = .ok (.goto 4, 3) := by decide +kernel
theorem dX1_ofLength_29 : decode cX1_ofLength 29 = .ok (.iconst 0, 1) := by decide +kernel
theorem dX1_ofLength_30 : decode cX1_ofLength 30 = .ok (.iadd, 1) := by decide +kernel
theorem dX1_ofLength_31 : decode cX1_ofLength 31 = .ok (.istore_n 2, 1) := by decide +kernel
theorem dX1_ofLength_32 : decode cX1_ofLength 32 = .ok (.iinc 3 1, 3) := by decide +kernel
theorem dX1_ofLength_35 : decode cX1_ofLength 35 = .ok (.goto (-31), 3) := by decide +kernel
theorem dX1_ofLength_38 : decode cX1_ofLength 38 = .ok (.iload_n 1, 1) := by decide +kernel
theorem dX1_ofLength_39 : decode cX1_ofLength 39 = .ok (.iconst 1, 1) := by decide +kernel
theorem dX1_ofLength_40 : decode cX1_ofLength 40 = .ok (.if_icmp .ge 7, 3) := by decide +kernel
theorem dX1_ofLength_43 : decode cX1_ofLength 43 = .ok (.iconst 0, 1) := by decide +kernel
theorem dX1_ofLength_44 : decode cX1_ofLength 44 = .ok (.goto 6, 3) := by decide +kernel
theorem dX1_ofLength_47 : decode cX1_ofLength 47 = .ok (.iload_n 2, 1) := by decide +kernel
theorem dX1_ofLength_48 : decode cX1_ofLength 48 = .ok (.iload_n 1, 1) := by decide +kernel
theorem dX1_ofLength_49 : decode cX1_ofLength 49 = .ok (.idiv, 1) := by decide +kernel
theorem dX1_ofLength_50 : decode cX1_ofLength 50 = .ok (.ireturn, 1) := by decide +kernel
theorem dX1_leastMultiple_0 : decode cX1_leastMultiple 0 = .ok (.lload_n 0, 1) := by decide +kernel
theorem dX1_leastMultiple_1 : decode cX1_leastMultiple 1 = .ok (.lstore 4, 2) := by decide +kernel
theorem dX1_leastMultiple_3 : decode cX1_leastMultiple 3 = .ok (.lload_n 2, 1) := by decide +kernel
theorem dX1_leastMultiple_4 : decode cX1_leastMultiple 4 = .ok (.lstore 6, 2) := by decide +kernel
theorem dX1_leastMultiple_6 : decode cX1_leastMultiple 6 = .ok (.iconst 0, 1) := by decide +kernel
theorem dX1_leastMultiple_7 : decode cX1_leastMultiple 7 = .ok (.istore 8, 2) := by decide +kernel
theorem dX1_leastMultiple_9 : decode cX1_leastMultiple 9 = .ok (.iload 8, 2) := by decide +kernel
theorem dX1_leastMultiple_11 : decode cX1_leastMultiple 11 = .ok (.bipush 100, 2) := by decide +kernel
theorem dX1_leastMultiple_13 : decode cX1_leastMultiple 13 = .ok (.if_icmp .ge 31, 3) := by decide +kernel
theorem dX1_leastMultiple_16 : decode cX1_leastMultiple 16 = .ok (.lload 6, 2) := by decide +kernel
theorem dX1_leastMultiple_18 : decode cX1_leastMultiple 18 = .ok (.lconst 0, 1) := by decide +kernel
theorem dX1_leastMultiple_19 : decode cX1_leastMultiple 19 = .ok (.lcmp, 1) := by decide +kernel
theorem dX1_leastMultiple_20 : decode cX1_leastMultiple 20 = .ok (.ifCond .eq 24, 3) := by decide +kernel
theorem dX1_leastMultiple_23 : decode cX1_leastMultiple 23 = .ok (.lload 4, 2) := by decide +kernel
theorem dX1_leastMultiple_25 : decode cX1_leastMultiple 25 = .ok (.lload 6, 2) := by decide +kernel
theorem dX1_leastMultiple_27 : decode cX1_leastMultiple 27 = .ok (.lrem, 1) := by decide +kernel
theorem dX1_leastMultiple_28 : decode cX1_leastMultiple 28 = .ok (.lstore 9, 2) := by decide +kernel
theorem dX1_leastMultiple_30 : decode cX1_leastMultiple 30 = .ok (.lload 6, 2) := by decide +kernel
theorem dX1_leastMultiple_32 : decode cX1_leastMultiple 32 = .ok (.lstore 4, 2) := by decide +kernel
theorem dX1_leastMultiple_34 : decode cX1_leastMultiple 34 = .ok (.lload 9, 2) := by decide +kernel
theorem dX1_leastMultiple_36 : decode cX1_leastMultiple 36 = .ok (.lstore 6, 2) := by decide +kernel
theorem dX1_leastMultiple_38 : decode cX1_leastMultiple 38 = .ok (.iinc 8 1, 3) := by decide +kernel
theorem dX1_leastMultiple_41 : decode cX1_leastMultiple 41 = .ok (.goto (-32), 3) := by decide +kernel
theorem dX1_leastMultiple_44 : decode cX1_leastMultiple 44 = .ok (.lload 4, 2) := by decide +kernel
theorem dX1_leastMultiple_46 : decode cX1_leastMultiple 46 = .ok (.lconst 0, 1) := by decide +kernel
theorem dX1_leastMultiple_47 : decode cX1_leastMultiple 47 = .ok (.lcmp, 1) := by decide +kernel
theorem dX1_leastMultiple_48 : decode cX1_leastMultiple 48 = .ok (.ifCond .ne 7, 3) := by decide +kernel
theorem dX1_leastMultiple_51 : decode cX1_leastMultiple 51 = .ok (.lconst 0, 1) := by decide +kernel
theorem dX1_leastMultiple_52 : decode cX1_leastMultiple 52 = .ok (.goto 9, 3) := by decide +kernel
theorem dX1_leastMultiple_55 : decode cX1_leastMultiple 55 = .ok (.lload_n 0, 1) := by decide +kernel
theorem dX1_leastMultiple_56 : decode cX1_leastMultiple 56 = .ok (.lload 4, 2) := by decide +kernel
theorem dX1_leastMultiple_58 : decode cX1_leastMultiple 58 = .ok (.ldiv, 1) := by decide +kernel
theorem dX1_leastMultiple_59 : decode cX1_leastMultiple 59 = .ok (.lload_n 2, 1) := by decide +kernel
theorem dX1_leastMultiple_60 : decode cX1_leastMultiple 60 = .ok (.lmul, 1) := by decide +kernel
theorem dX1_leastMultiple_61 : decode cX1_leastMultiple 61 = .ok (.lreturn, 1) := by decide +kernel
theorem dX2_init_0 : decode cX2_init 0 = .ok (.aload_n 0, 1) := by decide +kernel
theorem dX2_init_1 : decode cX2_init 1 = .ok (.invokespecial 3, 3) := by decide +kernel
theorem dX2_init_4 : decode cX2_init 4 = .ok (.aload_n 0, 1) := by decide +kernel
theorem dX2_init_5 : decode cX2_init 5 = .ok (.bipush 60, 2) := by decide +kernel
theorem dX2_init_7 : decode cX2_init 7 = .ok (.newarray .int, 2) := by decide +kernel
theorem dX2_init_9 : decode cX2_init 9 = .ok (.putfield 9, 3) := by decide +kernel
theorem dX2_init_12 : decode cX2_init 12 = .ok (.aload_n 0, 1) := by decide +kernel
theorem dX2_init_13 : decode cX2_init 13 = .ok (.bipush 60, 2) := by decide +kernel
theorem dX2_init_15 : decode cX2_init 15 = .ok (.newarray .int, 2) := by decide +kernel
theorem dX2_init_17 : decode cX2_init 17 = .ok (.putfield 15, 3) := by decide +kernel
theorem dX2_init_20 : decode cX2_init 20 = .ok (.aload_n 0, 1) := by decide +kernel
theorem dX2_init_21 : decode cX2_init 21 = .ok (.bipush 60, 2) := by decide +kernel
theorem dX2_init_23 : decode cX2_init 23 = .ok (.newarray .int, 2) := by decide +kernel
theorem dX2_init_25 : decode cX2_init 25 = .ok (.putfield 18, 3) := by decide +kernel
theorem dX2_init_28 : decode cX2_init 28 = .ok (.return_, 1) := by decide +kernel
theorem dX2_add_0 : decode cX2_add 0 = .ok (.aload_n 0, 1) := by decide +kernel
theorem dX2_add_1 : decode cX2_add 1 = .ok (.getfield 9, 3) := by decide +kernel
theorem dX2_add_4 : decode cX2_add 4 = .ok (.aload_n 0, 1) := by decide +kernel
theorem dX2_add_5 : decode cX2_add 5 = .ok (.getfield 21, 3) := by decide +kernel
theorem dX2_add_8 : decode cX2_add 8 = .ok (.iload_n 1, 1) := by decide +kernel
theorem dX2_add_9 : decode cX2_add 9 = .ok (.invokestatic 25, 3) := by decide +kernel
theorem dX2_add_12 : decode cX2_add 12 = .ok (.aload_n 0, 1) := by decide +kernel
theorem dX2_add_13 : decode cX2_add 13 = .ok (.getfield 15, 3) := by decide +kernel
theorem dX2_add_16 : decode cX2_add 16 = .ok (.aload_n 0, 1) := by decide +kernel
theorem dX2_add_17 : decode cX2_add 17 = .ok (.getfield 21, 3) := by decide +kernel
theorem dX2_add_20 : decode cX2_add 20 = .ok (.iload_n 2, 1) := by decide +kernel
theorem dX2_add_21 : decode cX2_add 21 = .ok (.invokestatic 25, 3) := by decide +kernel
theorem dX2_add_24 : decode cX2_add 24 = .ok (.aload_n 0, 1) := by decide +kernel
theorem dX2_add_25 : decode cX2_add 25 = .ok (.getfield 18, 3) := by decide +kernel
theorem dX2_add_28 : decode cX2_add 28 = .ok (.aload_n 0, 1) := by decide +kernel
theorem dX2_add_29 : decode cX2_add 29 = .ok (.getfield 21, 3) := by decide +kernel
theorem dX2_add_32 : decode cX2_add 32 = .ok (.iload_n 3, 1) := by decide +kernel
theorem dX2_add_33 : decode cX2_add 33 = .ok (.invokestatic 25, 3) := by decide +kernel
theorem dX2_add_36 : decode cX2_add 36 = .ok (.aload_n 0, 1) := by decide +kernel
theorem dX2_add_37 : decode cX2_add 37 = .ok (.dup, 1) := by decide +kernel
theorem dX2_add_38 : decode cX2_add 38 = .ok (.getfield 21, 3) := by decide +kernel
theorem dX2_add_41 : decode cX2_add 41 = .ok (.iconst 1, 1) := by decide +kernel
theorem dX2_add_42 : decode cX2_add 42 = .ok (.iadd, 1) := by decide +kernel
theorem dX2_add_43 : decode cX2_add 43 = .ok (.putfield 21, 3) := by decide +kernel
theorem dX2_add_46 : decode cX2_add 46 = .ok (.return_, 1) := by decide +kernel
theorem dX2_copy_0 : decode cX2_copy 0 = .ok (.aload_n 0, 1) := by decide +kernel
theorem dX2_copy_1 : decode cX2_copy 1 = .ok (.aload_n 1, 1) := by decide +kernel
theorem dX2_copy_2 : decode cX2_copy 2 = .ok (.getfield 21, 3) := by decide +kernel
theorem dX2_copy_5 : decode cX2_copy 5 = .ok (.putfield 21, 3) := by decide +kernel
theorem dX2_copy_8 : decode cX2_copy 8 = .ok (.aload_n 1, 1) := by decide +kernel
theorem dX2_copy_9 : decode cX2_copy 9 = .ok (.getfield 9, 3) := by decide +kernel
theorem dX2_copy_12 : decode cX2_copy 12 = .ok (.aload_n 0, 1) := by decide +kernel
theorem dX2_copy_13 : decode cX2_copy 13 = .ok (.getfield 9, 3) := by decide +kernel
theorem dX2_copy_16 : decode cX2_copy 16 = .ok (.invokestatic 29, 3) := by decide +kernel
theorem dX2_copy_19 : decode cX2_copy 19 = .ok (.aload_n 1, 1) := by decide +kernel
theorem dX2_copy_20 : decode cX2_copy 20 = .ok (.getfield 15, 3) := by decide +kernel
theorem dX2_copy_23 : decode cX2_copy 23 = .ok (.aload_n 0, 1) := by decide +kernel
theorem dX2_copy_24 : decode cX2_copy 24 = .ok (.getfield 15, 3) := by decide +kernel
theorem dX2_copy_27 : decode cX2_copy 27 = .ok (.invokestatic 29, 3) := by decide +kernel
theorem dX2_copy_30 : decode cX2_copy 30 = .ok (.aload_n 1, 1) := by decide +kernel
theorem dX2_copy_31 : decode cX2_copy 31 = .ok (.getfield 18, 3) := by decide +kernel
theorem dX2_copy_34 : decode cX2_copy 34 = .ok (.aload_n 0, 1) := by decide +kernel
theorem dX2_copy_35 : decode cX2_copy 35 = .ok (.getfield 18, 3) := by decide +kernel
theorem dX2_copy_38 : decode cX2_copy 38 = .ok (.invokestatic 29, 3) := by decide +kernel
theorem dX2_copy_41 : decode cX2_copy 41 = .ok (.return_, 1) := by decide +kernel
theorem dX3_init_0 : decode cX3_init 0 = .ok (.aload_n 0, 1) := by decide +kernel
theorem dX3_init_1 : decode cX3_init 1 = .ok (.invokespecial 3, 3) := by decide +kernel
theorem dX3_init_4 : decode cX3_init 4 = .ok (.aload_n 0, 1) := by decide +kernel
theorem dX3_init_5 : decode cX3_init 5 = .ok (.bipush 7, 2) := by decide +kernel
theorem dX3_init_7 : decode cX3_init 7 = .ok (.newarray .int, 2) := by decide +kernel
theorem dX3_init_9 : decode cX3_init 9 = .ok (.putfield 9, 3) := by decide +kernel
theorem dX3_init_12 : decode cX3_init 12 = .ok (.aload_n 0, 1) := by decide +kernel
theorem dX3_init_13 : decode cX3_init 13 = .ok (.bipush 96, 2) := by decide +kernel
theorem dX3_init_15 : decode cX3_init 15 = .ok (.newarray .int, 2) := by decide +kernel
theorem dX3_init_17 : decode cX3_init 17 = .ok (.putfield 15, 3) := by decide +kernel
theorem dX3_init_20 : decode cX3_init 20 = .ok (.aload_n 0, 1) := by decide +kernel
theorem dX3_init_21 : decode cX3_init 21 = .ok (.bipush 49, 2) := by decide +kernel
theorem dX3_init_23 : decode cX3_init 23 = .ok (.newarray .int, 2) := by decide +kernel
theorem dX3_init_25 : decode cX3_init 25 = .ok (.putfield 18, 3) := by decide +kernel
theorem dX3_init_28 : decode cX3_init 28 = .ok (.aload_n 0, 1) := by decide +kernel
theorem dX3_init_29 : decode cX3_init 29 = .ok (.bipush 7, 2) := by decide +kernel
theorem dX3_init_31 : decode cX3_init 31 = .ok (.newarray .int, 2) := by decide +kernel
theorem dX3_init_33 : decode cX3_init 33 = .ok (.putfield 21, 3) := by decide +kernel
theorem dX3_init_36 : decode cX3_init 36 = .ok (.aload_n 0, 1) := by decide +kernel
theorem dX3_init_37 : decode cX3_init 37 = .ok (.bipush 7, 2) := by decide +kernel
theorem dX3_init_39 : decode cX3_init 39 = .ok (.newarray .int, 2) := by decide +kernel
theorem dX3_init_41 : decode cX3_init 41 = .ok (.putfield 24, 3) := by decide +kernel
theorem dX3_init_44 : decode cX3_init 44 = .ok (.aload_n 0, 1) := by decide +kernel
theorem dX3_init_45 : decode cX3_init 45 = .ok (.bipush 49, 2) := by decide +kernel
theorem dX3_init_47 : decode cX3_init 47 = .ok (.newarray .int, 2) := by decide +kernel
theorem dX3_init_49 : decode cX3_init 49 = .ok (.putfield 27, 3) := by decide +kernel
theorem dX3_init_52 : decode cX3_init 52 = .ok (.aload_n 0, 1) := by decide +kernel
theorem dX3_init_53 : decode cX3_init 53 = .ok (.aload_n 1, 1) := by decide +kernel
theorem dX3_init_54 : decode cX3_init 54 = .ok (.putfield 30, 3) := by decide +kernel
theorem dX3_init_57 : decode cX3_init 57 = .ok (.aload_n 0, 1) := by decide +kernel
theorem dX3_init_58 : decode cX3_init 58 = .ok (.aload_n 2, 1) := by decide +kernel
theorem dX3_init_59 : decode cX3_init 59 = .ok (.putfield 34, 3) := by decide +kernel
theorem dX3_init_62 : decode cX3_init 62 = .ok (.return_, 1) := by decide +kernel
theorem dX3_forget_0 : decode cX3_forget 0 = .ok (.aload_n 0, 1) := by decide +kernel
theorem dX3_forget_1 : decode cX3_forget 1 = .ok (.iconst 0, 1) := by decide +kernel
theorem dX3_forget_2 : decode cX3_forget 2 = .ok (.putfield 38, 3) := by decide +kernel
theorem dX3_forget_5 : decode cX3_forget 5 = .ok (.aload_n 0, 1) := by decide +kernel
theorem dX3_forget_6 : decode cX3_forget 6 = .ok (.iconst 0, 1) := by decide +kernel
theorem dX3_forget_7 : decode cX3_forget 7 = .ok (.putfield 42, 3) := by decide +kernel
theorem dX3_forget_10 : decode cX3_forget 10 = .ok (.aload_n 0, 1) := by decide +kernel
theorem dX3_forget_11 : decode cX3_forget 11 = .ok (.iconst 0, 1) := by decide +kernel
theorem dX3_forget_12 : decode cX3_forget 12 = .ok (.putfield 45, 3) := by decide +kernel
theorem dX3_forget_15 : decode cX3_forget 15 = .ok (.aload_n 0, 1) := by decide +kernel
theorem dX3_forget_16 : decode cX3_forget 16 = .ok (.iconst 0, 1) := by decide +kernel
theorem dX3_forget_17 : decode cX3_forget 17 = .ok (.putfield 48, 3) := by decide +kernel
theorem dX3_forget_20 : decode cX3_forget 20 = .ok (.return_, 1) := by decide +kernel
theorem dX3_howMany_0 : decode cX3_howMany 0 = .ok (.aload_n 0, 1) := by decide +kernel
theorem dX3_howMany_1 : decode cX3_howMany 1 = .ok (.getfield 42, 3) := by decide +kernel
theorem dX3_howMany_4 : decode cX3_howMany 4 = .ok (.ifCond .ne 33, 3) := by decide +kernel
theorem dX3_howMany_7 : decode cX3_howMany 7 = .ok (.aload_n 0, 1) := by decide +kernel
theorem dX3_howMany_8 : decode cX3_howMany 8 = .ok (.iconst 1, 1) := by decide +kernel
theorem dX3_howMany_9 : decode cX3_howMany 9 = .ok (.aload_n 0, 1) := by decide +kernel
theorem dX3_howMany_10 : decode cX3_howMany 10 = .ok (.getfield 30, 3) := by decide +kernel
theorem dX3_howMany_13 : decode cX3_howMany 13 = .ok (.getfield 52, 3) := by decide +kernel
theorem dX3_howMany_16 : decode cX3_howMany 16 = .ok (.ishl, 1) := by decide +kernel
theorem dX3_howMany_17 : decode cX3_howMany 17 = .ok (.iconst 1, 1) := by decide +kernel
theorem dX3_howMany_18 : decode cX3_howMany 18 = .ok (.isub, 1) := by decide +kernel
theorem dX3_howMany_19 : decode cX3_howMany 19 = .ok (.invokevirtual 57, 3) := by decide +kernel
theorem dX3_howMany_22 : decode cX3_howMany 22 = .ok (.aload_n 0, 1) := by decide +kernel
theorem dX3_howMany_23 : decode cX3_howMany 23 = .ok (.aload_n 0, 1) := by decide +kernel
theorem dX3_howMany_24 : decode cX3_howMany 24 = .ok (.iconst 0, 1) := by decide +kernel
theorem dX3_howMany_25 : decode cX3_howMany 25 = .ok (.iconst 0, 1) := by decide +kernel
theorem dX3_howMany_26 : decode cX3_howMany 26 = .ok (.invokevirtual 61, 3) := by decide +kernel
theorem dX3_howMany_29 : decode cX3_howMany 29 = .ok (.putfield 65, 3) := by decide +kernel
theorem dX3_howMany_32 : decode cX3_howMany 32 = .ok (.aload_n 0, 1) := by decide +kernel
theorem dX3_howMany_33 : decode cX3_howMany 33 = .ok (.iconst 1, 1) := by decide +kernel
theorem dX3_howMany_34 : decode cX3_howMany 34 = .ok (.putfield 42, 3) := by decide +kernel
theorem dX3_howMany_37 : decode cX3_howMany 37 = .ok (.aload_n 0, 1) := by decide +kernel
theorem dX3_howMany_38 : decode cX3_howMany 38 = .ok (.getfield 65, 3) := by decide +kernel
theorem dX3_howMany_41 : decode cX3_howMany 41 = .ok (.lreturn, 1) := by decide +kernel
theorem dX3_canAll_0 : decode cX3_canAll 0 = .ok (.aload_n 0, 1) := by decide +kernel
theorem dX3_canAll_1 : decode cX3_canAll 1 = .ok (.getfield 45, 3) := by decide +kernel
theorem dX3_canAll_4 : decode cX3_canAll 4 = .ok (.ifCond .ne 54, 3) := by decide +kernel
theorem dX3_canAll_7 : decode cX3_canAll 7 = .ok (.aload_n 0, 1) := by decide +kernel
theorem dX3_canAll_8 : decode cX3_canAll 8 = .ok (.iconst 1, 1) := by decide +kernel
theorem dX3_canAll_9 : decode cX3_canAll 9 = .ok (.aload_n 0, 1) := by decide +kernel
theorem dX3_canAll_10 : decode cX3_canAll 10 = .ok (.getfield 30, 3) := by decide +kernel
theorem dX3_canAll_13 : decode cX3_canAll 13 = .ok (.getfield 52, 3) := by decide +kernel
theorem dX3_canAll_16 : decode cX3_canAll 16 = .ok (.ishl, 1) := by decide +kernel
theorem dX3_canAll_17 : decode cX3_canAll 17 = .ok (.iconst 1, 1) := by decide +kernel
theorem dX3_canAll_18 : decode cX3_canAll 18 = .ok (.isub, 1) := by decide +kernel
theorem dX3_canAll_19 : decode cX3_canAll 19 = .ok (.invokevirtual 57, 3) := by decide +kernel
theorem dX3_canAll_22 : decode cX3_canAll 22 = .ok (.aload_n 0, 1) := by decide +kernel
theorem dX3_canAll_23 : decode cX3_canAll 23 = .ok (.aload_n 0, 1) := by decide +kernel
theorem dX3_canAll_24 : decode cX3_canAll 24 = .ok (.iconst 0, 1) := by decide +kernel
theorem dX3_canAll_25 : decode cX3_canAll 25 = .ok (.iconst 1, 1) := by decide +kernel
theorem dX3_canAll_26 : decode cX3_canAll 26 = .ok (.invokevirtual 61, 3) := by decide +kernel
theorem dX3_canAll_29 : decode cX3_canAll 29 = .ok (.lconst 0, 1) := by decide +kernel
theorem dX3_canAll_30 : decode cX3_canAll 30 = .ok (.lcmp, 1) := by decide +kernel
theorem dX3_canAll_31 : decode cX3_canAll 31 = .ok (.ifCond .le 7, 3) := by decide +kernel
theorem dX3_canAll_34 : decode cX3_canAll 34 = .ok (.iconst 1, 1) := by decide +kernel
theorem dX3_canAll_35 : decode cX3_canAll 35 = .ok (.goto 4, 3) := by decide +kernel
theorem dX3_canAll_38 : decode cX3_canAll 38 = .ok (.iconst 0, 1) := by decide +kernel
theorem dX3_canAll_39 : decode cX3_canAll 39 = .ok (.putfield 69, 3) := by decide +kernel
theorem dX3_canAll_42 : decode cX3_canAll 42 = .ok (.aload_n 0, 1) := by decide +kernel
theorem dX3_canAll_43 : decode cX3_canAll 43 = .ok (.getfield 24, 3) := by decide +kernel
theorem dX3_canAll_46 : decode cX3_canAll 46 = .ok (.aload_n 0, 1) := by decide +kernel
theorem dX3_canAll_47 : decode cX3_canAll 47 = .ok (.getfield 9, 3) := by decide +kernel
theorem dX3_canAll_50 : decode cX3_canAll 50 = .ok (.invokestatic 72, 3) := by decide +kernel
theorem dX3_canAll_53 : decode cX3_canAll 53 = .ok (.aload_n 0, 1) := by decide +kernel
theorem dX3_canAll_54 : decode cX3_canAll 54 = .ok (.iconst 1, 1) := by decide +kernel
theorem dX3_canAll_55 : decode cX3_canAll 55 = .ok (.putfield 45, 3) := by decide +kernel
theorem dX3_canAll_58 : decode cX3_canAll 58 = .ok (.aload_n 0, 1) := by decide +kernel
theorem dX3_canAll_59 : decode cX3_canAll 59 = .ok (.getfield 69, 3) := by decide +kernel
theorem dX3_canAll_62 : decode cX3_canAll 62 = .ok (.ireturn, 1) := by decide +kernel
theorem dX3_fewestStuck_0 : decode cX3_fewestStuck 0 = .ok (.iconst 1, 1) := by decide +kernel
theorem dX3_fewestStuck_1 : decode cX3_fewestStuck 1 = .ok (.istore_n 1, 1) := by decide +kernel
theorem dX3_fewestStuck_2 : decode cX3_fewestStuck 2 = .ok (.iload_n 1, 1) := by decide +kernel
theorem dX3_fewestStuck_3 : decode cX3_fewestStuck 3 = .ok (.aload_n 0, 1) := by decide +kernel
theorem dX3_fewestStuck_4 : decode cX3_fewestStuck 4 = .ok (.getfield 30, 3) := by decide +kernel
theorem dX3_fewestStuck_7 : decode cX3_fewestStuck 7 = .ok (.getfield 52, 3) := by decide +kernel
theorem dX3_fewestStuck_10 : decode cX3_fewestStuck 10 = .ok (.if_icmp .gt 77, 3) := by decide +kernel
theorem dX3_fewestStuck_13 : decode cX3_fewestStuck 13 = .ok (.aload_n 0, 1) := by decide +kernel
theorem dX3_fewestStuck_14 : decode cX3_fewestStuck 14 = .ok (.getfield 48, 3) := by decide +kernel
theorem dX3_fewestStuck_17 : decode cX3_fewestStuck 17 = .ok (.ifCond .ne 70, 3) := by decide +kernel
theorem dX3_fewestStuck_20 : decode cX3_fewestStuck 20 = .ok (.iconst 1, 1) := by decide +kernel
theorem dX3_fewestStuck_21 : decode cX3_fewestStuck 21 = .ok (.istore_n 2, 1) := by decide +kernel
theorem dX3_fewestStuck_22 : decode cX3_fewestStuck 22 = .ok (.iload_n 2, 1) := by decide +kernel
theorem dX3_fewestStuck_23 : decode cX3_fewestStuck 23 = .ok (.iconst 1, 1) := by decide +kernel
theorem dX3_fewestStuck_24 : decode cX3_fewestStuck 24 = .ok (.aload_n 0, 1) := by decide +kernel
theorem dX3_fewestStuck_25 : decode cX3_fewestStuck 25 = .ok (.getfield 30, 3) := by decide +kernel
theorem dX3_fewestStuck_28 : decode cX3_fewestStuck 28 = .ok (.getfield 52, 3) := by decide +kernel
theorem dX3_fewestStuck_31 : decode cX3_fewestStuck 31 = .ok (.ishl, 1) := by decide +kernel
theorem dX3_fewestStuck_32 : decode cX3_fewestStuck 32 = .ok (.if_icmp .ge 49, 3) := by decide +kernel
theorem dX3_fewestStuck_35 : decode cX3_fewestStuck 35 = .ok (.aload_n 0, 1) := by decide +kernel
theorem dX3_fewestStuck_36 : decode cX3_fewestStuck 36 = .ok (.getfield 48, 3) := by decide +kernel
theorem dX3_fewestStuck_39 : decode cX3_fewestStuck 39 = .ok (.ifCond .ne 42, 3) := by decide +kernel
theorem dX3_fewestStuck_42 : decode cX3_fewestStuck 42 = .ok (.iload_n 2, 1) := by decide +kernel
theorem dX3_fewestStuck_43 : decode cX3_fewestStuck 43 = .ok (.invokestatic 76, 3) := by decide +kernel
theorem dX3_fewestStuck_46 : decode cX3_fewestStuck 46 = .ok (.iload_n 1, 1) := by decide +kernel
theorem dX3_fewestStuck_47 : decode cX3_fewestStuck 47 = .ok (.if_icmp .ne 28, 3) := by decide +kernel
theorem dX3_fewestStuck_50 : decode cX3_fewestStuck 50 = .ok (.aload_n 0, 1) := by decide +kernel
theorem dX3_fewestStuck_51 : decode cX3_fewestStuck 51 = .ok (.iload_n 2, 1) := by decide +kernel
theorem dX3_fewestStuck_52 : decode cX3_fewestStuck 52 = .ok (.invokevirtual 57, 3) := by decide +kernel
theorem dX3_fewestStuck_55 : decode cX3_fewestStuck 55 = .ok (.aload_n 0, 1) := by decide +kernel
theorem dX3_fewestStuck_56 : decode cX3_fewestStuck 56 = .ok (.aload_n 0, 1) := by decide +kernel
theorem dX3_fewestStuck_57 : decode cX3_fewestStuck 57 = .ok (.iconst 0, 1) := by decide +kernel
theorem dX3_fewestStuck_58 : decode cX3_fewestStuck 58 = .ok (.iconst 1, 1) := by decide +kernel
theorem dX3_fewestStuck_59 : decode cX3_fewestStuck 59 = .ok (.invokevirtual 61, 3) := by decide +kernel
theorem dX3_fewestStuck_62 : decode cX3_fewestStuck 62 = .ok (.lconst 0, 1) := by decide +kernel
theorem dX3_fewestStuck_63 : decode cX3_fewestStuck 63 = .ok (.lcmp, 1) := by decide +kernel
theorem dX3_fewestStuck_64 : decode cX3_fewestStuck 64 = .ok (.ifCond .le 7, 3) := by decide +kernel
theorem dX3_fewestStuck_67 : decode cX3_fewestStuck 67 = .ok (.iconst 0, 1) := by decide +kernel
theorem dX3_fewestStuck_68 : decode cX3_fewestStuck 68 = .ok (.goto 4, 3) := by decide +kernel
theorem dX3_fewestStuck_71 : decode cX3_fewestStuck 71 = .ok (.iload_n 2, 1) := by decide +kernel
theorem dX3_fewestStuck_72 : decode cX3_fewestStuck 72 = .ok (.putfield 48, 3) := by decide +kernel
theorem dX3_fewestStuck_75 : decode cX3_fewestStuck 75 = .ok (.iinc 2 1, 3) := by decide +kernel
theorem dX3_fewestStuck_78 : decode cX3_fewestStuck 78 = .ok (.goto (-56), 3) := by decide +kernel
theorem dX3_fewestStuck_81 : decode cX3_fewestStuck 81 = .ok (.iinc 1 1, 3) := by decide +kernel
theorem dX3_fewestStuck_84 : decode cX3_fewestStuck 84 = .ok (.goto (-82), 3) := by decide +kernel
theorem dX3_fewestStuck_87 : decode cX3_fewestStuck 87 = .ok (.aload_n 0, 1) := by decide +kernel
theorem dX3_fewestStuck_88 : decode cX3_fewestStuck 88 = .ok (.getfield 48, 3) := by decide +kernel
theorem dX3_fewestStuck_91 : decode cX3_fewestStuck 91 = .ok (.ireturn, 1) := by decide +kernel
theorem dX3_choose_0 : decode cX3_choose 0 = .ok (.aload_n 0, 1) := by decide +kernel
theorem dX3_choose_1 : decode cX3_choose 1 = .ok (.getfield 38, 3) := by decide +kernel
theorem dX3_choose_4 : decode cX3_choose 4 = .ok (.ifCond .ne 7, 3) := by decide +kernel
theorem dX3_choose_7 : decode cX3_choose 7 = .ok (.aload_n 0, 1) := by decide +kernel
theorem dX3_choose_8 : decode cX3_choose 8 = .ok (.invokevirtual 82, 3) := by decide +kernel
theorem dX3_choose_11 : decode cX3_choose 11 = .ok (.aload_n 0, 1) := by decide +kernel
theorem dX3_choose_12 : decode cX3_choose 12 = .ok (.iconst 0, 1) := by decide +kernel
theorem dX3_choose_13 : decode cX3_choose 13 = .ok (.putfield 85, 3) := by decide +kernel
theorem dX3_choose_16 : decode cX3_choose 16 = .ok (.iconst 0, 1) := by decide +kernel
theorem dX3_choose_17 : decode cX3_choose 17 = .ok (.istore_n 2, 1) := by decide +kernel
theorem dX3_choose_18 : decode cX3_choose 18 = .ok (.iload_n 2, 1) := by decide +kernel
theorem dX3_choose_19 : decode cX3_choose 19 = .ok (.aload_n 0, 1) := by decide +kernel
theorem dX3_choose_20 : decode cX3_choose 20 = .ok (.getfield 30, 3) := by decide +kernel
theorem dX3_choose_23 : decode cX3_choose 23 = .ok (.getfield 52, 3) := by decide +kernel
theorem dX3_choose_26 : decode cX3_choose 26 = .ok (.if_icmp .ge 67, 3) := by decide +kernel
theorem dX3_choose_29 : decode cX3_choose 29 = .ok (.iload_n 2, 1) := by decide +kernel
theorem dX3_choose_30 : decode cX3_choose 30 = .ok (.bipush 7, 2) := by decide +kernel
theorem dX3_choose_32 : decode cX3_choose 32 = .ok (.if_icmp .ge 61, 3) := by decide +kernel
theorem dX3_choose_35 : decode cX3_choose 35 = .ok (.iload_n 1, 1) := by decide +kernel
theorem dX3_choose_36 : decode cX3_choose 36 = .ok (.iload_n 2, 1) := by decide +kernel
theorem dX3_choose_37 : decode cX3_choose 37 = .ok (.ishr, 1) := by decide +kernel
theorem dX3_choose_38 : decode cX3_choose 38 = .ok (.iconst 1, 1) := by decide +kernel
theorem dX3_choose_39 : decode cX3_choose 39 = .ok (.iand, 1) := by decide +kernel
theorem dX3_choose_40 : decode cX3_choose 40 = .ok (.ifCond .eq 47, 3) := by decide +kernel
theorem dX3_choose_43 : decode cX3_choose 43 = .ok (.aload_n 0, 1) := by decide +kernel
theorem dX3_choose_44 : decode cX3_choose 44 = .ok (.getfield 21, 3) := by decide +kernel
theorem dX3_choose_47 : decode cX3_choose 47 = .ok (.aload_n 0, 1) := by decide +kernel
theorem dX3_choose_48 : decode cX3_choose 48 = .ok (.getfield 85, 3) := by decide +kernel
theorem dX3_choose_51 : decode cX3_choose 51 = .ok (.iload_n 2, 1) := by decide +kernel
theorem dX3_choose_52 : decode cX3_choose 52 = .ok (.invokestatic 88, 3) := by decide +kernel
theorem dX3_choose_55 : decode cX3_choose 55 = .ok (.aload_n 0, 1) := by decide +kernel
theorem dX3_choose_56 : decode cX3_choose 56 = .ok (.getfield 27, 3) := by decide +kernel
theorem dX3_choose_59 : decode cX3_choose 59 = .ok (.aload_n 0, 1) := by decide +kernel
theorem dX3_choose_60 : decode cX3_choose 60 = .ok (.getfield 85, 3) := by decide +kernel
theorem dX3_choose_63 : decode cX3_choose 63 = .ok (.iconst 1, 1) := by decide +kernel
theorem dX3_choose_64 : decode cX3_choose 64 = .ok (.aload_n 0, 1) := by decide +kernel
theorem dX3_choose_65 : decode cX3_choose 65 = .ok (.getfield 30, 3) := by decide +kernel
theorem dX3_choose_68 : decode cX3_choose 68 = .ok (.getfield 92, 3) := by decide +kernel
theorem dX3_choose_71 : decode cX3_choose 71 = .ok (.ishl, 1) := by decide +kernel
theorem dX3_choose_72 : decode cX3_choose 72 = .ok (.iconst 1, 1) := by decide +kernel
theorem dX3_choose_73 : decode cX3_choose 73 = .ok (.isub, 1) := by decide +kernel
theorem dX3_choose_74 : decode cX3_choose 74 = .ok (.invokestatic 88, 3) := by decide +kernel
theorem dX3_choose_77 : decode cX3_choose 77 = .ok (.aload_n 0, 1) := by decide +kernel
theorem dX3_choose_78 : decode cX3_choose 78 = .ok (.dup, 1) := by decide +kernel
theorem dX3_choose_79 : decode cX3_choose 79 = .ok (.getfield 85, 3) := by decide +kernel
theorem dX3_choose_82 : decode cX3_choose 82 = .ok (.iconst 1, 1) := by decide +kernel
theorem dX3_choose_83 : decode cX3_choose 83 = .ok (.iadd, 1) := by decide +kernel
theorem dX3_choose_84 : decode cX3_choose 84 = .ok (.putfield 85, 3) := by decide +kernel
theorem dX3_choose_87 : decode cX3_choose 87 = .ok (.iinc 2 1, 3) := by decide +kernel
theorem dX3_choose_90 : decode cX3_choose 90 = .ok (.goto (-72), 3) := by decide +kernel
theorem dX3_choose_93 : decode cX3_choose 93 = .ok (.return_, 1) := by decide +kernel
theorem dX3_prepare_0 : decode cX3_prepare 0 = .ok (.iconst 0, 1) := by decide +kernel
theorem dX3_prepare_1 : decode cX3_prepare 1 = .ok (.istore_n 1, 1) := by decide +kernel
theorem dX3_prepare_2 : decode cX3_prepare 2 = .ok (.iload_n 1, 1) := by decide +kernel
theorem dX3_prepare_3 : decode cX3_prepare 3 = .ok (.bipush 7, 2) := by decide +kernel
theorem dX3_prepare_5 : decode cX3_prepare 5 = .ok (.if_icmp .ge 95, 3) := by decide +kernel
theorem dX3_prepare_8 : decode cX3_prepare 8 = .ok (.iconst 0, 1) := by decide +kernel
theorem dX3_prepare_9 : decode cX3_prepare 9 = .ok (.istore_n 2, 1) := by decide +kernel
theorem dX3_prepare_10 : decode cX3_prepare 10 = .ok (.iload_n 2, 1) := by decide +kernel
theorem dX3_prepare_11 : decode cX3_prepare 11 = .ok (.bipush 7, 2) := by decide +kernel
theorem dX3_prepare_13 : decode cX3_prepare 13 = .ok (.if_icmp .ge 81, 3) := by decide +kernel
theorem dX3_prepare_16 : decode cX3_prepare 16 = .ok (.aload_n 0, 1) := by decide +kernel
theorem dX3_prepare_17 : decode cX3_prepare 17 = .ok (.getfield 34, 3) := by decide +kernel
theorem dX3_prepare_20 : decode cX3_prepare 20 = .ok (.iload_n 1, 1) := by decide +kernel
theorem dX3_prepare_21 : decode cX3_prepare 21 = .ok (.iload_n 2, 1) := by decide +kernel
theorem dX3_prepare_22 : decode cX3_prepare 22 = .ok (.invokevirtual 95, 3) := by decide +kernel
theorem dX3_prepare_25 : decode cX3_prepare 25 = .ok (.ifCond .eq 7, 3) := by decide +kernel
theorem dX3_prepare_28 : decode cX3_prepare 28 = .ok (.iconst 1, 1) := by decide +kernel
theorem dX3_prepare_29 : decode cX3_prepare 29 = .ok (.goto 4, 3) := by decide +kernel
theorem dX3_prepare_32 : decode cX3_prepare 32 = .ok (.iconst 0, 1) := by decide +kernel
theorem dX3_prepare_33 : decode cX3_prepare 33 = .ok (.istore_n 3, 1) := by decide +kernel
theorem dX3_prepare_34 : decode cX3_prepare 34 = .ok (.iload_n 3, 1) := by decide +kernel
theorem dX3_prepare_35 : decode cX3_prepare 35 = .ok (.aload_n 0, 1) := by decide +kernel
theorem dX3_prepare_36 : decode cX3_prepare 36 = .ok (.getfield 34, 3) := by decide +kernel
theorem dX3_prepare_39 : decode cX3_prepare 39 = .ok (.iload_n 1, 1) := by decide +kernel
theorem dX3_prepare_40 : decode cX3_prepare 40 = .ok (.iload_n 2, 1) := by decide +kernel
theorem dX3_prepare_41 : decode cX3_prepare 41 = .ok (.invokevirtual 101, 3) := by decide +kernel
theorem dX3_prepare_44 : decode cX3_prepare 44 = .ok (.ifCond .le 7, 3) := by decide +kernel
theorem dX3_prepare_47 : decode cX3_prepare 47 = .ok (.iconst 2, 1) := by decide +kernel
theorem dX3_prepare_48 : decode cX3_prepare 48 = .ok (.goto 4, 3) := by decide +kernel
theorem dX3_prepare_51 : decode cX3_prepare 51 = .ok (.iconst 0, 1) := by decide +kernel
theorem dX3_prepare_52 : decode cX3_prepare 52 = .ok (.ior, 1) := by decide +kernel
theorem dX3_prepare_53 : decode cX3_prepare 53 = .ok (.istore_n 3, 1) := by decide +kernel
theorem dX3_prepare_54 : decode cX3_prepare 54 = .ok (.iload_n 3, 1) := by decide +kernel
theorem dX3_prepare_55 : decode cX3_prepare 55 = .ok (.aload_n 0, 1) := by decide +kernel
theorem dX3_prepare_56 : decode cX3_prepare 56 = .ok (.getfield 34, 3) := by decide +kernel
theorem dX3_prepare_59 : decode cX3_prepare 59 = .ok (.iload_n 2, 1) := by decide +kernel
theorem dX3_prepare_60 : decode cX3_prepare 60 = .ok (.iload_n 1, 1) := by decide +kernel
theorem dX3_prepare_61 : decode cX3_prepare 61 = .ok (.invokevirtual 101, 3) := by decide +kernel
theorem dX3_prepare_64 : decode cX3_prepare 64 = .ok (.ifCond .le 7, 3) := by decide +kernel
theorem dX3_prepare_67 : decode cX3_prepare 67 = .ok (.iconst 4, 1) := by decide +kernel
theorem dX3_prepare_68 : decode cX3_prepare 68 = .ok (.goto 4, 3) := by decide +kernel
theorem dX3_prepare_71 : decode cX3_prepare 71 = .ok (.iconst 0, 1) := by decide +kernel
theorem dX3_prepare_72 : decode cX3_prepare 72 = .ok (.ior, 1) := by decide +kernel
theorem dX3_prepare_73 : decode cX3_prepare 73 = .ok (.istore_n 3, 1) := by decide +kernel
theorem dX3_prepare_74 : decode cX3_prepare 74 = .ok (.aload_n 0, 1) := by decide +kernel
theorem dX3_prepare_75 : decode cX3_prepare 75 = .ok (.getfield 18, 3) := by decide +kernel
theorem dX3_prepare_78 : decode cX3_prepare 78 = .ok (.iload_n 1, 1) := by decide +kernel
theorem dX3_prepare_79 : decode cX3_prepare 79 = .ok (.bipush 7, 2) := by decide +kernel
theorem dX3_prepare_81 : decode cX3_prepare 81 = .ok (.imul, 1) := by decide +kernel
theorem dX3_prepare_82 : decode cX3_prepare 82 = .ok (.iload_n 2, 1) := by decide +kernel
theorem dX3_prepare_83 : decode cX3_prepare 83 = .ok (.iadd, 1) := by decide +kernel
theorem dX3_prepare_84 : decode cX3_prepare 84 = .ok (.iload_n 3, 1) := by decide +kernel
theorem dX3_prepare_85 : decode cX3_prepare 85 = .ok (.invokestatic 88, 3) := by decide +kernel
theorem dX3_prepare_88 : decode cX3_prepare 88 = .ok (.iinc 2 1, 3) := by decide +kernel
theorem dX3_prepare_91 : decode cX3_prepare 91 = .ok (.goto (-81), 3) := by decide +kernel
theorem dX3_prepare_94 : decode cX3_prepare 94 = .ok (.iinc 1 1, 3) := by decide +kernel
theorem dX3_prepare_97 : decode cX3_prepare 97 = .ok (.goto (-95), 3) := by decide +kernel
theorem dX3_prepare_100 : decode cX3_prepare 100 = .ok (.iconst 0, 1) := by decide +kernel
theorem dX3_prepare_101 : decode cX3_prepare 101 = .ok (.istore_n 1, 1) := by decide +kernel
theorem dX3_prepare_102 : decode cX3_prepare 102 = .ok (.iload_n 1, 1) := by decide +kernel
theorem dX3_prepare_103 : decode cX3_prepare 103 = .ok (.bipush 8, 2) := by decide +kernel
theorem dX3_prepare_105 : decode cX3_prepare 105 = .ok (.if_icmp .ge 47, 3) := by decide +kernel
theorem dX3_prepare_108 : decode cX3_prepare 108 = .ok (.iconst 0, 1) := by decide +kernel
theorem dX3_prepare_109 : decode cX3_prepare 109 = .ok (.istore_n 2, 1) := by decide +kernel
theorem dX3_prepare_110 : decode cX3_prepare 110 = .ok (.iload_n 2, 1) := by decide +kernel
theorem dX3_prepare_111 : decode cX3_prepare 111 = .ok (.aload_n 0, 1) := by decide +kernel
theorem dX3_prepare_112 : decode cX3_prepare 112 = .ok (.getfield 30, 3) := by decide +kernel
theorem dX3_prepare_115 : decode cX3_prepare 115 = .ok (.getfield 92, 3) := by decide +kernel
theorem dX3_prepare_118 : decode cX3_prepare 118 = .ok (.if_icmp .ge 28, 3) := by decide +kernel
theorem dX3_prepare_121 : decode cX3_prepare 121 = .ok (.aload_n 0, 1) := by decide +kernel
theorem dX3_prepare_122 : decode cX3_prepare 122 = .ok (.getfield 15, 3) := by decide +kernel
theorem dX3_prepare_125 : decode cX3_prepare 125 = .ok (.iload_n 1, 1) := by decide +kernel
theorem dX3_prepare_126 : decode cX3_prepare 126 = .ok (.bipush 12, 2) := by decide +kernel
theorem dX3_prepare_128 : decode cX3_prepare 128 = .ok (.imul, 1) := by decide +kernel
theorem dX3_prepare_129 : decode cX3_prepare 129 = .ok (.iload_n 2, 1) := by decide +kernel
theorem dX3_prepare_130 : decode cX3_prepare 130 = .ok (.iadd, 1) := by decide +kernel
theorem dX3_prepare_131 : decode cX3_prepare 131 = .ok (.aload_n 0, 1) := by decide +kernel
theorem dX3_prepare_132 : decode cX3_prepare 132 = .ok (.iload_n 1, 1) := by decide +kernel
theorem dX3_prepare_133 : decode cX3_prepare 133 = .ok (.iload_n 2, 1) := by decide +kernel
theorem dX3_prepare_134 : decode cX3_prepare 134 = .ok (.invokevirtual 105, 3) := by decide +kernel
theorem dX3_prepare_137 : decode cX3_prepare 137 = .ok (.invokestatic 88, 3) := by decide +kernel
theorem dX3_prepare_140 : decode cX3_prepare 140 = .ok (.iinc 2 1, 3) := by decide +kernel
theorem dX3_prepare_143 : decode cX3_prepare 143 = .ok (.goto (-33), 3) := by decide +kernel
theorem dX3_prepare_146 : decode cX3_prepare 146 = .ok (.iinc 1 1, 3) := by decide +kernel
theorem dX3_prepare_149 : decode cX3_prepare 149 = .ok (.goto (-47), 3) := by decide +kernel
theorem dX3_prepare_152 : decode cX3_prepare 152 = .ok (.aload_n 0, 1) := by decide +kernel
theorem dX3_prepare_153 : decode cX3_prepare 153 = .ok (.iconst 1, 1) := by decide +kernel
theorem dX3_prepare_154 : decode cX3_prepare 154 = .ok (.putfield 38, 3) := by decide +kernel
theorem dX3_prepare_157 : decode cX3_prepare 157 = .ok (.return_, 1) := by decide +kernel
theorem dX3_allowedBy_0 : decode cX3_allowedBy 0 = .ok (.iconst 0, 1) := by decide +kernel
theorem dX3_allowedBy_1 : decode cX3_allowedBy 1 = .ok (.istore_n 3, 1) := by decide +kernel
theorem dX3_allowedBy_2 : decode cX3_allowedBy 2 = .ok (.iconst 0, 1) := by decide +kernel
theorem dX3_allowedBy_3 : decode cX3_allowedBy 3 = .ok (.istore 4, 2) := by decide +kernel
theorem dX3_allowedBy_5 : decode cX3_allowedBy 5 = .ok (.iload 4, 2) := by decide +kernel
theorem dX3_allowedBy_7 : decode cX3_allowedBy 7 = .ok (.aload_n 0, 1) := by decide +kernel
theorem dX3_allowedBy_8 : decode cX3_allowedBy 8 = .ok (.getfield 30, 3) := by decide +kernel
theorem dX3_allowedBy_11 : decode cX3_allowedBy 11 = .ok (.getfield 92, 3) := by decide +kernel
theorem dX3_allowedBy_14 : decode cX3_allowedBy 14 = .ok (.if_icmp .ge 95, 3) := by decide +kernel
theorem dX3_allowedBy_17 : decode cX3_allowedBy 17 = .ok (.iload 4, 2) := by decide +kernel
theorem dX3_allowedBy_19 : decode cX3_allowedBy 19 = .ok (.iload_n 2, 1) := by decide +kernel
theorem dX3_allowedBy_20 : decode cX3_allowedBy 20 = .ok (.if_icmp .eq 60, 3) := by decide +kernel
theorem dX3_allowedBy_23 : decode cX3_allowedBy 23 = .ok (.iload_n 1, 1) := by decide +kernel
theorem dX3_allowedBy_24 : decode cX3_allowedBy 24 = .ok (.iconst 1, 1) := by decide +kernel
theorem dX3_allowedBy_25 : decode cX3_allowedBy 25 = .ok (.iand, 1) := by decide +kernel
theorem dX3_allowedBy_26 : decode cX3_allowedBy 26 = .ok (.ifCond .eq 16, 3) := by decide +kernel
theorem dX3_allowedBy_29 : decode cX3_allowedBy 29 = .ok (.aload_n 0, 1) := by decide +kernel
theorem dX3_allowedBy_30 : decode cX3_allowedBy 30 = .ok (.getfield 30, 3) := by decide +kernel
theorem dX3_allowedBy_33 : decode cX3_allowedBy 33 = .ok (.iload_n 2, 1) := by decide +kernel
theorem dX3_allowedBy_34 : decode cX3_allowedBy 34 = .ok (.iload 4, 2) := by decide +kernel
theorem dX3_allowedBy_36 : decode cX3_allowedBy 36 = .ok (.invokevirtual 108, 3) := by decide +kernel
theorem dX3_allowedBy_39 : decode cX3_allowedBy 39 = .ok (.ifCond .eq 41, 3) := by decide +kernel
theorem dX3_allowedBy_42 : decode cX3_allowedBy 42 = .ok (.iload_n 1, 1) := by decide +kernel
theorem dX3_allowedBy_43 : decode cX3_allowedBy 43 = .ok (.iconst 2, 1) := by decide +kernel
theorem dX3_allowedBy_44 : decode cX3_allowedBy 44 = .ok (.iand, 1) := by decide +kernel
theorem dX3_allowedBy_45 : decode cX3_allowedBy 45 = .ok (.ifCond .eq 16, 3) := by decide +kernel
theorem dX3_allowedBy_48 : decode cX3_allowedBy 48 = .ok (.aload_n 0, 1) := by decide +kernel
theorem dX3_allowedBy_49 : decode cX3_allowedBy 49 = .ok (.getfield 30, 3) := by decide +kernel
theorem dX3_allowedBy_52 : decode cX3_allowedBy 52 = .ok (.iload_n 2, 1) := by decide +kernel
theorem dX3_allowedBy_53 : decode cX3_allowedBy 53 = .ok (.iload 4, 2) := by decide +kernel
theorem dX3_allowedBy_55 : decode cX3_allowedBy 55 = .ok (.invokevirtual 111, 3) := by decide +kernel
theorem dX3_allowedBy_58 : decode cX3_allowedBy 58 = .ok (.ifCond .ne 22, 3) := by decide +kernel
theorem dX3_allowedBy_61 : decode cX3_allowedBy 61 = .ok (.iload_n 1, 1) := by decide +kernel
theorem dX3_allowedBy_62 : decode cX3_allowedBy 62 = .ok (.iconst 4, 1) := by decide +kernel
theorem dX3_allowedBy_63 : decode cX3_allowedBy 63 = .ok (.iand, 1) := by decide +kernel
theorem dX3_allowedBy_64 : decode cX3_allowedBy 64 = .ok (.ifCond .eq 20, 3) := by decide +kernel
theorem dX3_allowedBy_67 : decode cX3_allowedBy 67 = .ok (.aload_n 0, 1) := by decide +kernel
theorem dX3_allowedBy_68 : decode cX3_allowedBy 68 = .ok (.getfield 30, 3) := by decide +kernel
theorem dX3_allowedBy_71 : decode cX3_allowedBy 71 = .ok (.iload 4, 2) := by decide +kernel
theorem dX3_allowedBy_73 : decode cX3_allowedBy 73 = .ok (.iload_n 2, 1) := by decide +kernel
theorem dX3_allowedBy_74 : decode cX3_allowedBy 74 = .ok (.invokevirtual 111, 3) := by decide +kernel
theorem dX3_allowedBy_77 : decode cX3_allowedBy 77 = .ok (.ifCond .eq 7, 3) := by decide +kernel
theorem dX3_allowedBy_80 : decode cX3_allowedBy 80 = .ok (.iconst 1, 1) := by decide +kernel
theorem dX3_allowedBy_81 : decode cX3_allowedBy 81 = .ok (.goto 4, 3) := by decide +kernel
theorem dX3_allowedBy_84 : decode cX3_allowedBy 84 = .ok (.iconst 0, 1) := by decide +kernel
theorem dX3_allowedBy_85 : decode cX3_allowedBy 85 = .ok (.istore 5, 2) := by decide +kernel
theorem dX3_allowedBy_87 : decode cX3_allowedBy 87 = .ok (.iload_n 3, 1) := by decide +kernel
theorem dX3_allowedBy_88 : decode cX3_allowedBy 88 = .ok (.iload 5, 2) := by decide +kernel
theorem dX3_allowedBy_90 : decode cX3_allowedBy 90 = .ok (.ifCond .eq 7, 3) := by decide +kernel
theorem dX3_allowedBy_93 : decode cX3_allowedBy 93 = .ok (.iconst 0, 1) := by decide +kernel
theorem dX3_allowedBy_94 : decode cX3_allowedBy 94 = .ok (.goto 7, 3) := by decide +kernel
theorem dX3_allowedBy_97 : decode cX3_allowedBy 97 = .ok (.iconst 1, 1) := by decide +kernel
theorem dX3_allowedBy_98 : decode cX3_allowedBy 98 = .ok (.iload 4, 2) := by decide +kernel
theorem dX3_allowedBy_100 : decode cX3_allowedBy 100 = .ok (.ishl, 1) := by decide +kernel
theorem dX3_allowedBy_101 : decode cX3_allowedBy 101 = .ok (.ior, 1) := by decide +kernel
theorem dX3_allowedBy_102 : decode cX3_allowedBy 102 = .ok (.istore_n 3, 1) := by decide +kernel
theorem dX3_allowedBy_103 : decode cX3_allowedBy 103 = .ok (.iinc 4 1, 3) := by decide +kernel
theorem dX3_allowedBy_106 : decode cX3_allowedBy 106 = .ok (.goto (-101), 3) := by decide +kernel
theorem dX3_allowedBy_109 : decode cX3_allowedBy 109 = .ok (.iload_n 3, 1) := by decide +kernel
theorem dX3_allowedBy_110 : decode cX3_allowedBy 110 = .ok (.ireturn, 1) := by decide +kernel
theorem dX3_ways_0 : decode cX3_ways 0 = .ok (.iload_n 1, 1) := by decide +kernel
theorem dX3_ways_1 : decode cX3_ways 1 = .ok (.ifCond .lt 17, 3) := by decide +kernel
theorem dX3_ways_4 : decode cX3_ways 4 = .ok (.iload_n 1, 1) := by decide +kernel
theorem dX3_ways_5 : decode cX3_ways 5 = .ok (.aload_n 0, 1) := by decide +kernel
theorem dX3_ways_6 : decode cX3_ways 6 = .ok (.getfield 85, 3) := by decide +kernel
theorem dX3_ways_9 : decode cX3_ways 9 = .ok (.if_icmp .ge 9, 3) := by decide +kernel
theorem dX3_ways_12 : decode cX3_ways 12 = .ok (.iload_n 1, 1) := by decide +kernel
theorem dX3_ways_13 : decode cX3_ways 13 = .ok (.bipush 7, 2) := by decide +kernel
theorem dX3_ways_15 : decode cX3_ways 15 = .ok (.if_icmp .lt 5, 3) := by decide +kernel
theorem dX3_ways_18 : decode cX3_ways 18 = .ok (.lconst 0, 1) := by decide +kernel
theorem dX3_ways_19 : decode cX3_ways 19 = .ok (.lreturn, 1) := by decide +kernel
theorem dX3_ways_20 : decode cX3_ways 20 = .ok (.aload_n 0, 1) := by decide +kernel
theorem dX3_ways_21 : decode cX3_ways 21 = .ok (.getfield 27, 3) := by decide +kernel
theorem dX3_ways_24 : decode cX3_ways 24 = .ok (.iload_n 1, 1) := by decide +kernel
theorem dX3_ways_25 : decode cX3_ways 25 = .ok (.bipush 7, 2) := by decide +kernel
theorem dX3_ways_27 : decode cX3_ways 27 = .ok (.imul, 1) := by decide +kernel
theorem dX3_ways_28 : decode cX3_ways 28 = .ok (.iload_n 1, 1) := by decide +kernel
theorem dX3_ways_29 : decode cX3_ways 29 = .ok (.iadd, 1) := by decide +kernel
theorem dX3_ways_30 : decode cX3_ways 30 = .ok (.invokestatic 114, 3) := by decide +kernel
theorem dX3_ways_33 : decode cX3_ways 33 = .ok (.istore_n 3, 1) := by decide +kernel
theorem dX3_ways_34 : decode cX3_ways 34 = .ok (.iload_n 1, 1) := by decide +kernel
theorem dX3_ways_35 : decode cX3_ways 35 = .ok (.aload_n 0, 1) := by decide +kernel
theorem dX3_ways_36 : decode cX3_ways 36 = .ok (.getfield 85, 3) := by decide +kernel
theorem dX3_ways_39 : decode cX3_ways 39 = .ok (.iconst 1, 1) := by decide +kernel
theorem dX3_ways_40 : decode cX3_ways 40 = .ok (.isub, 1) := by decide +kernel
theorem dX3_ways_41 : decode cX3_ways 41 = .ok (.if_icmp .ne 26, 3) := by decide +kernel
theorem dX3_ways_44 : decode cX3_ways 44 = .ok (.aload_n 0, 1) := by decide +kernel
theorem dX3_ways_45 : decode cX3_ways 45 = .ok (.getfield 24, 3) := by decide +kernel
theorem dX3_ways_48 : decode cX3_ways 48 = .ok (.iload_n 1, 1) := by decide +kernel
theorem dX3_ways_49 : decode cX3_ways 49 = .ok (.iload_n 3, 1) := by decide +kernel
theorem dX3_ways_50 : decode cX3_ways 50 = .ok (.iload_n 3, 1) := by decide +kernel
theorem dX3_ways_51 : decode cX3_ways 51 = .ok (.ineg, 1) := by decide +kernel
theorem dX3_ways_52 : decode cX3_ways 52 = .ok (.iand, 1) := by decide +kernel
theorem dX3_ways_53 : decode cX3_ways 53 = .ok (.iconst 1, 1) := by decide +kernel
theorem dX3_ways_54 : decode cX3_ways 54 = .ok (.isub, 1) := by decide +kernel
theorem dX3_ways_55 : decode cX3_ways 55 = .ok (.invokestatic 76, 3) := by decide +kernel
theorem dX3_ways_58 : decode cX3_ways 58 = .ok (.invokestatic 88, 3) := by decide +kernel
theorem dX3_ways_61 : decode cX3_ways 61 = .ok (.iload_n 3, 1) := by decide +kernel
theorem dX3_ways_62 : decode cX3_ways 62 = .ok (.invokestatic 76, 3) := by decide +kernel
theorem dX3_ways_65 : decode cX3_ways 65 = .ok (.i2l, 1) := by decide +kernel
theorem dX3_ways_66 : decode cX3_ways 66 = .ok (.lreturn, 1) := by decide +kernel
theorem dX3_ways_67 : decode cX3_ways 67 = .ok (.lconst 0, 1) := by decide +kernel
theorem dX3_ways_68 : decode cX3_ways 68 = .ok (.lstore 4, 2) := by decide +kernel
theorem dX3_ways_70 : decode cX3_ways 70 = .ok (.iconst 0, 1) := by decide +kernel
theorem dX3_ways_71 : decode cX3_ways 71 = .ok (.istore 6, 2) := by decide +kernel
theorem dX3_ways_73 : decode cX3_ways 73 = .ok (.iload 6, 2) := by decide +kernel
theorem dX3_ways_75 : decode cX3_ways 75 = .ok (.aload_n 0, 1) := by decide +kernel
theorem dX3_ways_76 : decode cX3_ways 76 = .ok (.getfield 30, 3) := by decide +kernel
theorem dX3_ways_79 : decode cX3_ways 79 = .ok (.getfield 92, 3) := by decide +kernel
theorem dX3_ways_82 : decode cX3_ways 82 = .ok (.if_icmp .ge 42, 3) := by decide +kernel
theorem dX3_ways_85 : decode cX3_ways 85 = .ok (.iload_n 2, 1) := by decide +kernel
theorem dX3_ways_86 : decode cX3_ways 86 = .ok (.ifCond .eq 10, 3) := by decide +kernel
theorem dX3_ways_89 : decode cX3_ways 89 = .ok (.lload 4, 2) := by decide +kernel
theorem dX3_ways_91 : decode cX3_ways 91 = .ok (.lconst 0, 1) := by decide +kernel
theorem dX3_ways_92 : decode cX3_ways 92 = .ok (.lcmp, 1) := by decide +kernel
theorem dX3_ways_93 : decode cX3_ways 93 = .ok (.ifCond .gt 31, 3) := by decide +kernel
theorem dX3_ways_96 : decode cX3_ways 96 = .ok (.iload_n 3, 1) := by decide +kernel
theorem dX3_ways_97 : decode cX3_ways 97 = .ok (.iload 6, 2) := by decide +kernel
theorem dX3_ways_99 : decode cX3_ways 99 = .ok (.ishr, 1) := by decide +kernel
theorem dX3_ways_100 : decode cX3_ways 100 = .ok (.iconst 1, 1) := by decide +kernel
theorem dX3_ways_101 : decode cX3_ways 101 = .ok (.iand, 1) := by decide +kernel
theorem dX3_ways_102 : decode cX3_ways 102 = .ok (.ifCond .eq 16, 3) := by decide +kernel
theorem dX3_ways_105 : decode cX3_ways 105 = .ok (.lload 4, 2) := by decide +kernel
theorem dX3_ways_107 : decode cX3_ways 107 = .ok (.aload_n 0, 1) := by decide +kernel
theorem dX3_ways_108 : decode cX3_ways 108 = .ok (.iload_n 1, 1) := by decide +kernel
theorem dX3_ways_109 : decode cX3_ways 109 = .ok (.iload 6, 2) := by decide +kernel
theorem dX3_ways_111 : decode cX3_ways 111 = .ok (.iload_n 2, 1) := by decide +kernel
theorem dX3_ways_112 : decode cX3_ways 112 = .ok (.invokevirtual 118, 3) := by decide +kernel
theorem dX3_ways_115 : decode cX3_ways 115 = .ok (.ladd, 1) := by decide +kernel
theorem dX3_ways_116 : decode cX3_ways 116 = .ok (.lstore 4, 2) := by decide +kernel
theorem dX3_ways_118 : decode cX3_ways 118 = .ok (.iinc 6 1, 3) := by decide +kernel
theorem dX3_ways_121 : decode cX3_ways 121 = .ok (.goto (-48), 3) := by decide +kernel
theorem dX3_ways_124 : decode cX3_ways 124 = .ok (.lload 4, 2) := by decide +kernel
theorem dX3_ways_126 : decode cX3_ways 126 = .ok (.lreturn, 1) := by decide +kernel
theorem dX3_waysWith_0 : decode cX3_waysWith 0 = .ok (.aload_n 0, 1) := by decide +kernel
theorem dX3_waysWith_1 : decode cX3_waysWith 1 = .ok (.iload_n 1, 1) := by decide +kernel
theorem dX3_waysWith_2 : decode cX3_waysWith 2 = .ok (.iload_n 2, 1) := by decide +kernel
theorem dX3_waysWith_3 : decode cX3_waysWith 3 = .ok (.invokevirtual 122, 3) := by decide +kernel
theorem dX3_waysWith_6 : decode cX3_waysWith 6 = .ok (.ifCond .ne 5, 3) := by decide +kernel
theorem dX3_waysWith_9 : decode cX3_waysWith 9 = .ok (.lconst 0, 1) := by decide +kernel
theorem dX3_waysWith_10 : decode cX3_waysWith 10 = .ok (.lreturn, 1) := by decide +kernel
theorem dX3_waysWith_11 : decode cX3_waysWith 11 = .ok (.aload_n 0, 1) := by decide +kernel
theorem dX3_waysWith_12 : decode cX3_waysWith 12 = .ok (.getfield 24, 3) := by decide +kernel
theorem dX3_waysWith_15 : decode cX3_waysWith 15 = .ok (.iload_n 1, 1) := by decide +kernel
theorem dX3_waysWith_16 : decode cX3_waysWith 16 = .ok (.iload_n 2, 1) := by decide +kernel
theorem dX3_waysWith_17 : decode cX3_waysWith 17 = .ok (.invokestatic 88, 3) := by decide +kernel
theorem dX3_waysWith_20 : decode cX3_waysWith 20 = .ok (.aload_n 0, 1) := by decide +kernel
theorem dX3_waysWith_21 : decode cX3_waysWith 21 = .ok (.iload_n 1, 1) := by decide +kernel
theorem dX3_waysWith_22 : decode cX3_waysWith 22 = .ok (.iconst 1, 1) := by decide +kernel
theorem dX3_waysWith_23 : decode cX3_waysWith 23 = .ok (.iadd, 1) := by decide +kernel
theorem dX3_waysWith_24 : decode cX3_waysWith 24 = .ok (.iload_n 3, 1) := by decide +kernel
theorem dX3_waysWith_25 : decode cX3_waysWith 25 = .ok (.invokevirtual 61, 3) := by decide +kernel
theorem dX3_waysWith_28 : decode cX3_waysWith 28 = .ok (.lreturn, 1) := by decide +kernel
theorem dX3_leavesOpen_0 : decode cX3_leavesOpen 0 = .ok (.aload_n 0, 1) := by decide +kernel
theorem dX3_leavesOpen_1 : decode cX3_leavesOpen 1 = .ok (.getfield 21, 3) := by decide +kernel
theorem dX3_leavesOpen_4 : decode cX3_leavesOpen 4 = .ok (.iload_n 1, 1) := by decide +kernel
theorem dX3_leavesOpen_5 : decode cX3_leavesOpen 5 = .ok (.invokestatic 114, 3) := by decide +kernel
theorem dX3_leavesOpen_8 : decode cX3_leavesOpen 8 = .ok (.bipush 7, 2) := by decide +kernel
theorem dX3_leavesOpen_10 : decode cX3_leavesOpen 10 = .ok (.imul, 1) := by decide +kernel
theorem dX3_leavesOpen_11 : decode cX3_leavesOpen 11 = .ok (.istore_n 3, 1) := by decide +kernel
theorem dX3_leavesOpen_12 : decode cX3_leavesOpen 12 = .ok (.iload_n 1, 1) := by decide +kernel
theorem dX3_leavesOpen_13 : decode cX3_leavesOpen 13 = .ok (.bipush 7, 2) := by decide +kernel
theorem dX3_leavesOpen_15 : decode cX3_leavesOpen 15 = .ok (.imul, 1) := by decide +kernel
theorem dX3_leavesOpen_16 : decode cX3_leavesOpen 16 = .ok (.istore 4, 2) := by decide +kernel
theorem dX3_leavesOpen_18 : decode cX3_leavesOpen 18 = .ok (.iload_n 1, 1) := by decide +kernel
theorem dX3_leavesOpen_19 : decode cX3_leavesOpen 19 = .ok (.iconst 1, 1) := by decide +kernel
theorem dX3_leavesOpen_20 : decode cX3_leavesOpen 20 = .ok (.iadd, 1) := by decide +kernel
theorem dX3_leavesOpen_21 : decode cX3_leavesOpen 21 = .ok (.istore 5, 2) := by decide +kernel
theorem dX3_leavesOpen_23 : decode cX3_leavesOpen 23 = .ok (.iload 5, 2) := by decide +kernel
theorem dX3_leavesOpen_25 : decode cX3_leavesOpen 25 = .ok (.aload_n 0, 1) := by decide +kernel
theorem dX3_leavesOpen_26 : decode cX3_leavesOpen 26 = .ok (.getfield 85, 3) := by decide +kernel
theorem dX3_leavesOpen_29 : decode cX3_leavesOpen 29 = .ok (.if_icmp .ge 82, 3) := by decide +kernel
theorem dX3_leavesOpen_32 : decode cX3_leavesOpen 32 = .ok (.aload_n 0, 1) := by decide +kernel
theorem dX3_leavesOpen_33 : decode cX3_leavesOpen 33 = .ok (.getfield 18, 3) := by decide +kernel
theorem dX3_leavesOpen_36 : decode cX3_leavesOpen 36 = .ok (.iload_n 3, 1) := by decide +kernel
theorem dX3_leavesOpen_37 : decode cX3_leavesOpen 37 = .ok (.aload_n 0, 1) := by decide +kernel
theorem dX3_leavesOpen_38 : decode cX3_leavesOpen 38 = .ok (.getfield 21, 3) := by decide +kernel
theorem dX3_leavesOpen_41 : decode cX3_leavesOpen 41 = .ok (.iload 5, 2) := by decide +kernel
theorem dX3_leavesOpen_43 : decode cX3_leavesOpen 43 = .ok (.invokestatic 114, 3) := by decide +kernel
theorem dX3_leavesOpen_46 : decode cX3_leavesOpen 46 = .ok (.iadd, 1) := by decide +kernel
theorem dX3_leavesOpen_47 : decode cX3_leavesOpen 47 = .ok (.invokestatic 114, 3) := by decide +kernel
theorem dX3_leavesOpen_50 : decode cX3_leavesOpen 50 = .ok (.istore 6, 2) := by decide +kernel
theorem dX3_leavesOpen_52 : decode cX3_leavesOpen 52 = .ok (.aload_n 0, 1) := by decide +kernel
theorem dX3_leavesOpen_53 : decode cX3_leavesOpen 53 = .ok (.getfield 27, 3) := by decide +kernel
theorem dX3_leavesOpen_56 : decode cX3_leavesOpen 56 = .ok (.iload 4, 2) := by decide +kernel
theorem dX3_leavesOpen_58 : decode cX3_leavesOpen 58 = .ok (.iload 5, 2) := by decide +kernel
theorem dX3_leavesOpen_60 : decode cX3_leavesOpen 60 = .ok (.iadd, 1) := by decide +kernel
theorem dX3_leavesOpen_61 : decode cX3_leavesOpen 61 = .ok (.invokestatic 114, 3) := by decide +kernel
theorem dX3_leavesOpen_64 : decode cX3_leavesOpen 64 = .ok (.aload_n 0, 1) := by decide +kernel
theorem dX3_leavesOpen_65 : decode cX3_leavesOpen 65 = .ok (.getfield 15, 3) := by decide +kernel
theorem dX3_leavesOpen_68 : decode cX3_leavesOpen 68 = .ok (.iload 6, 2) := by decide +kernel
theorem dX3_leavesOpen_70 : decode cX3_leavesOpen 70 = .ok (.bipush 12, 2) := by decide +kernel
theorem dX3_leavesOpen_72 : decode cX3_leavesOpen 72 = .ok (.imul, 1) := by decide +kernel
theorem dX3_leavesOpen_73 : decode cX3_leavesOpen 73 = .ok (.iload_n 2, 1) := by decide +kernel
theorem dX3_leavesOpen_74 : decode cX3_leavesOpen 74 = .ok (.iadd, 1) := by decide +kernel
theorem dX3_leavesOpen_75 : decode cX3_leavesOpen 75 = .ok (.invokestatic 114, 3) := by decide +kernel
theorem dX3_leavesOpen_78 : decode cX3_leavesOpen 78 = .ok (.iand, 1) := by decide +kernel
theorem dX3_leavesOpen_79 : decode cX3_leavesOpen 79 = .ok (.istore 7, 2) := by decide +kernel
theorem dX3_leavesOpen_81 : decode cX3_leavesOpen 81 = .ok (.aload_n 0, 1) := by decide +kernel
theorem dX3_leavesOpen_82 : decode cX3_leavesOpen 82 = .ok (.getfield 27, 3) := by decide +kernel
theorem dX3_leavesOpen_85 : decode cX3_leavesOpen 85 = .ok (.iload 4, 2) := by decide +kernel
theorem dX3_leavesOpen_87 : decode cX3_leavesOpen 87 = .ok (.bipush 7, 2) := by decide +kernel
theorem dX3_leavesOpen_89 : decode cX3_leavesOpen 89 = .ok (.iadd, 1) := by decide +kernel
theorem dX3_leavesOpen_90 : decode cX3_leavesOpen 90 = .ok (.iload 5, 2) := by decide +kernel
theorem dX3_leavesOpen_92 : decode cX3_leavesOpen 92 = .ok (.iadd, 1) := by decide +kernel
theorem dX3_leavesOpen_93 : decode cX3_leavesOpen 93 = .ok (.iload 7, 2) := by decide +kernel
theorem dX3_leavesOpen_95 : decode cX3_leavesOpen 95 = .ok (.invokestatic 88, 3) := by decide +kernel
theorem dX3_leavesOpen_98 : decode cX3_leavesOpen 98 = .ok (.iload 7, 2) := by decide +kernel
theorem dX3_leavesOpen_100 : decode cX3_leavesOpen 100 = .ok (.ifCond .ne 5, 3) := by decide +kernel
theorem dX3_leavesOpen_103 : decode cX3_leavesOpen 103 = .ok (.iconst 0, 1) := by decide +kernel
theorem dX3_leavesOpen_104 : decode cX3_leavesOpen 104 = .ok (.ireturn, 1) := by decide +kernel
theorem dX3_leavesOpen_105 : decode cX3_leavesOpen 105 = .ok (.iinc 5 1, 3) := by decide +kernel
theorem dX3_leavesOpen_108 : decode cX3_leavesOpen 108 = .ok (.goto (-85), 3) := by decide +kernel
theorem dX3_leavesOpen_111 : decode cX3_leavesOpen 111 = .ok (.iconst 1, 1) := by decide +kernel
theorem dX3_leavesOpen_112 : decode cX3_leavesOpen 112 = .ok (.ireturn, 1) := by decide +kernel
theorem dX4_init_0 : decode cX4_init 0 = .ok (.aload_n 0, 1) := by decide +kernel
theorem dX4_init_1 : decode cX4_init 1 = .ok (.invokespecial 3, 3) := by decide +kernel
theorem dX4_init_4 : decode cX4_init 4 = .ok (.aload_n 0, 1) := by decide +kernel
theorem dX4_init_5 : decode cX4_init 5 = .ok (.bipush 12, 2) := by decide +kernel
theorem dX4_init_7 : decode cX4_init 7 = .ok (.newarray .int, 2) := by decide +kernel
theorem dX4_init_9 : decode cX4_init 9 = .ok (.putfield 9, 3) := by decide +kernel
theorem dX4_init_12 : decode cX4_init 12 = .ok (.aload_n 0, 1) := by decide +kernel
theorem dX4_init_13 : decode cX4_init 13 = .ok (.bipush 12, 2) := by decide +kernel
theorem dX4_init_15 : decode cX4_init 15 = .ok (.newarray .int, 2) := by decide +kernel
theorem dX4_init_17 : decode cX4_init 17 = .ok (.putfield 15, 3) := by decide +kernel
theorem dX4_init_20 : decode cX4_init 20 = .ok (.aload_n 0, 1) := by decide +kernel
theorem dX4_init_21 : decode cX4_init 21 = .ok (.bipush 12, 2) := by decide +kernel
theorem dX4_init_23 : decode cX4_init 23 = .ok (.newarray .int, 2) := by decide +kernel
theorem dX4_init_25 : decode cX4_init 25 = .ok (.putfield 18, 3) := by decide +kernel
theorem dX4_init_28 : decode cX4_init 28 = .ok (.aload_n 0, 1) := by decide +kernel
theorem dX4_init_29 : decode cX4_init 29 = .ok (.bipush 12, 2) := by decide +kernel
theorem dX4_init_31 : decode cX4_init 31 = .ok (.newarray .int, 2) := by decide +kernel
theorem dX4_init_33 : decode cX4_init 33 = .ok (.putfield 21, 3) := by decide +kernel
theorem dX4_init_36 : decode cX4_init 36 = .ok (.aload_n 0, 1) := by decide +kernel
theorem dX4_init_37 : decode cX4_init 37 = .ok (.bipush 12, 2) := by decide +kernel
theorem dX4_init_39 : decode cX4_init 39 = .ok (.newarray .int, 2) := by decide +kernel
theorem dX4_init_41 : decode cX4_init 41 = .ok (.putfield 24, 3) := by decide +kernel
theorem dX4_init_44 : decode cX4_init 44 = .ok (.aload_n 0, 1) := by decide +kernel
theorem dX4_init_45 : decode cX4_init 45 = .ok (.bipush 12, 2) := by decide +kernel
theorem dX4_init_47 : decode cX4_init 47 = .ok (.newarray .int, 2) := by decide +kernel
theorem dX4_init_49 : decode cX4_init 49 = .ok (.putfield 27, 3) := by decide +kernel
theorem dX4_init_52 : decode cX4_init 52 = .ok (.aload_n 0, 1) := by decide +kernel
theorem dX4_init_53 : decode cX4_init 53 = .ok (.bipush 12, 2) := by decide +kernel
theorem dX4_init_55 : decode cX4_init 55 = .ok (.newarray .int, 2) := by decide +kernel
theorem dX4_init_57 : decode cX4_init 57 = .ok (.putfield 30, 3) := by decide +kernel
theorem dX4_init_60 : decode cX4_init 60 = .ok (.aload_n 0, 1) := by decide +kernel
theorem dX4_init_61 : decode cX4_init 61 = .ok (.bipush 12, 2) := by decide +kernel
theorem dX4_init_63 : decode cX4_init 63 = .ok (.newarray .int, 2) := by decide +kernel
theorem dX4_init_65 : decode cX4_init 65 = .ok (.putfield 33, 3) := by decide +kernel
theorem dX4_init_68 : decode cX4_init 68 = .ok (.return_, 1) := by decide +kernel
theorem dX4_begin_0 : decode cX4_begin 0 = .ok (.aload_n 0, 1) := by decide +kernel
theorem dX4_begin_1 : decode cX4_begin 1 = .ok (.iload_n 1, 1) := by decide +kernel
theorem dX4_begin_2 : decode cX4_begin 2 = .ok (.putfield 36, 3) := by decide +kernel
theorem dX4_begin_5 : decode cX4_begin 5 = .ok (.aload_n 0, 1) := by decide +kernel
theorem dX4_begin_6 : decode cX4_begin 6 = .ok (.iconst 0, 1) := by decide +kernel
theorem dX4_begin_7 : decode cX4_begin 7 = .ok (.putfield 40, 3) := by decide +kernel
theorem dX4_begin_10 : decode cX4_begin 10 = .ok (.aload_n 0, 1) := by decide +kernel
theorem dX4_begin_11 : decode cX4_begin 11 = .ok (.iconst 0, 1) := by decide +kernel
theorem dX4_begin_12 : decode cX4_begin 12 = .ok (.putfield 43, 3) := by decide +kernel
theorem dX4_begin_15 : decode cX4_begin 15 = .ok (.aload_n 0, 1) := by decide +kernel
theorem dX4_begin_16 : decode cX4_begin 16 = .ok (.iconst 0, 1) := by decide +kernel
theorem dX4_begin_17 : decode cX4_begin 17 = .ok (.putfield 46, 3) := by decide +kernel
theorem dX4_begin_20 : decode cX4_begin 20 = .ok (.aload_n 0, 1) := by decide +kernel
theorem dX4_begin_21 : decode cX4_begin 21 = .ok (.iconst 0, 1) := by decide +kernel
theorem dX4_begin_22 : decode cX4_begin 22 = .ok (.putfield 49, 3) := by decide +kernel
theorem dX4_begin_25 : decode cX4_begin 25 = .ok (.aload_n 0, 1) := by decide +kernel
theorem dX4_begin_26 : decode cX4_begin 26 = .ok (.iconst 0, 1) := by decide +kernel
theorem dX4_begin_27 : decode cX4_begin 27 = .ok (.putfield 52, 3) := by decide +kernel
theorem dX4_begin_30 : decode cX4_begin 30 = .ok (.aload_n 0, 1) := by decide +kernel
theorem dX4_begin_31 : decode cX4_begin 31 = .ok (.iconst 0, 1) := by decide +kernel
theorem dX4_begin_32 : decode cX4_begin 32 = .ok (.putfield 55, 3) := by decide +kernel
theorem dX4_begin_35 : decode cX4_begin 35 = .ok (.iconst 0, 1) := by decide +kernel
theorem dX4_begin_36 : decode cX4_begin 36 = .ok (.istore_n 2, 1) := by decide +kernel
theorem dX4_begin_37 : decode cX4_begin 37 = .ok (.iload_n 2, 1) := by decide +kernel
theorem dX4_begin_38 : decode cX4_begin 38 = .ok (.bipush 12, 2) := by decide +kernel
theorem dX4_begin_40 : decode cX4_begin 40 = .ok (.if_icmp .ge 18, 3) := by decide +kernel
theorem dX4_begin_43 : decode cX4_begin 43 = .ok (.aload_n 0, 1) := by decide +kernel
theorem dX4_begin_44 : decode cX4_begin 44 = .ok (.getfield 9, 3) := by decide +kernel
theorem dX4_begin_47 : decode cX4_begin 47 = .ok (.iload_n 2, 1) := by decide +kernel
theorem dX4_begin_48 : decode cX4_begin 48 = .ok (.iload_n 2, 1) := by decide +kernel
theorem dX4_begin_49 : decode cX4_begin 49 = .ok (.invokestatic 58, 3) := by decide +kernel
theorem dX4_begin_52 : decode cX4_begin 52 = .ok (.iinc 2 1, 3) := by decide +kernel
theorem dX4_begin_55 : decode cX4_begin 55 = .ok (.goto (-18), 3) := by decide +kernel
theorem dX4_begin_58 : decode cX4_begin 58 = .ok (.aload_n 0, 1) := by decide +kernel
theorem dX4_begin_59 : decode cX4_begin 59 = .ok (.getfield 15, 3) := by decide +kernel
theorem dX4_begin_62 : decode cX4_begin 62 = .ok (.iconst 0, 1) := by decide +kernel
theorem dX4_begin_63 : decode cX4_begin 63 = .ok (.invokestatic 62, 3) := by decide +kernel
theorem dX4_begin_66 : decode cX4_begin 66 = .ok (.aload_n 0, 1) := by decide +kernel
theorem dX4_begin_67 : decode cX4_begin 67 = .ok (.getfield 18, 3) := by decide +kernel
theorem dX4_begin_70 : decode cX4_begin 70 = .ok (.iconst 0, 1) := by decide +kernel
theorem dX4_begin_71 : decode cX4_begin 71 = .ok (.invokestatic 62, 3) := by decide +kernel
theorem dX4_begin_74 : decode cX4_begin 74 = .ok (.return_, 1) := by decide +kernel
theorem dX4_copy_0 : decode cX4_copy 0 = .ok (.aload_n 0, 1) := by decide +kernel
theorem dX4_copy_1 : decode cX4_copy 1 = .ok (.aload_n 1, 1) := by decide +kernel
theorem dX4_copy_2 : decode cX4_copy 2 = .ok (.getfield 36, 3) := by decide +kernel
theorem dX4_copy_5 : decode cX4_copy 5 = .ok (.putfield 36, 3) := by decide +kernel
theorem dX4_copy_8 : decode cX4_copy 8 = .ok (.aload_n 0, 1) := by decide +kernel
theorem dX4_copy_9 : decode cX4_copy 9 = .ok (.aload_n 1, 1) := by decide +kernel
theorem dX4_copy_10 : decode cX4_copy 10 = .ok (.getfield 40, 3) := by decide +kernel
theorem dX4_copy_13 : decode cX4_copy 13 = .ok (.putfield 40, 3) := by decide +kernel
theorem dX4_copy_16 : decode cX4_copy 16 = .ok (.aload_n 0, 1) := by decide +kernel
theorem dX4_copy_17 : decode cX4_copy 17 = .ok (.aload_n 1, 1) := by decide +kernel
theorem dX4_copy_18 : decode cX4_copy 18 = .ok (.getfield 43, 3) := by decide +kernel
theorem dX4_copy_21 : decode cX4_copy 21 = .ok (.putfield 43, 3) := by decide +kernel
theorem dX4_copy_24 : decode cX4_copy 24 = .ok (.aload_n 0, 1) := by decide +kernel
theorem dX4_copy_25 : decode cX4_copy 25 = .ok (.aload_n 1, 1) := by decide +kernel
theorem dX4_copy_26 : decode cX4_copy 26 = .ok (.getfield 46, 3) := by decide +kernel
theorem dX4_copy_29 : decode cX4_copy 29 = .ok (.putfield 46, 3) := by decide +kernel
theorem dX4_copy_32 : decode cX4_copy 32 = .ok (.aload_n 0, 1) := by decide +kernel
theorem dX4_copy_33 : decode cX4_copy 33 = .ok (.aload_n 1, 1) := by decide +kernel
theorem dX4_copy_34 : decode cX4_copy 34 = .ok (.getfield 49, 3) := by decide +kernel
theorem dX4_copy_37 : decode cX4_copy 37 = .ok (.putfield 49, 3) := by decide +kernel
theorem dX4_copy_40 : decode cX4_copy 40 = .ok (.aload_n 0, 1) := by decide +kernel
theorem dX4_copy_41 : decode cX4_copy 41 = .ok (.aload_n 1, 1) := by decide +kernel
theorem dX4_copy_42 : decode cX4_copy 42 = .ok (.getfield 52, 3) := by decide +kernel
theorem dX4_copy_45 : decode cX4_copy 45 = .ok (.putfield 52, 3) := by decide +kernel
theorem dX4_copy_48 : decode cX4_copy 48 = .ok (.aload_n 0, 1) := by decide +kernel
theorem dX4_copy_49 : decode cX4_copy 49 = .ok (.aload_n 1, 1) := by decide +kernel
theorem dX4_copy_50 : decode cX4_copy 50 = .ok (.getfield 55, 3) := by decide +kernel
theorem dX4_copy_53 : decode cX4_copy 53 = .ok (.putfield 55, 3) := by decide +kernel
theorem dX4_copy_56 : decode cX4_copy 56 = .ok (.aload_n 1, 1) := by decide +kernel
theorem dX4_copy_57 : decode cX4_copy 57 = .ok (.getfield 9, 3) := by decide +kernel
theorem dX4_copy_60 : decode cX4_copy 60 = .ok (.aload_n 0, 1) := by decide +kernel
theorem dX4_copy_61 : decode cX4_copy 61 = .ok (.getfield 9, 3) := by decide +kernel
theorem dX4_copy_64 : decode cX4_copy 64 = .ok (.invokestatic 66, 3) := by decide +kernel
theorem dX4_copy_67 : decode cX4_copy 67 = .ok (.aload_n 1, 1) := by decide +kernel
theorem dX4_copy_68 : decode cX4_copy 68 = .ok (.getfield 15, 3) := by decide +kernel
theorem dX4_copy_71 : decode cX4_copy 71 = .ok (.aload_n 0, 1) := by decide +kernel
theorem dX4_copy_72 : decode cX4_copy 72 = .ok (.getfield 15, 3) := by decide +kernel
theorem dX4_copy_75 : decode cX4_copy 75 = .ok (.invokestatic 66, 3) := by decide +kernel
theorem dX4_copy_78 : decode cX4_copy 78 = .ok (.aload_n 1, 1) := by decide +kernel
theorem dX4_copy_79 : decode cX4_copy 79 = .ok (.getfield 18, 3) := by decide +kernel
theorem dX4_copy_82 : decode cX4_copy 82 = .ok (.aload_n 0, 1) := by decide +kernel
theorem dX4_copy_83 : decode cX4_copy 83 = .ok (.getfield 18, 3) := by decide +kernel
theorem dX4_copy_86 : decode cX4_copy 86 = .ok (.invokestatic 66, 3) := by decide +kernel
theorem dX4_copy_89 : decode cX4_copy 89 = .ok (.aload_n 1, 1) := by decide +kernel
theorem dX4_copy_90 : decode cX4_copy 90 = .ok (.getfield 21, 3) := by decide +kernel
theorem dX4_copy_93 : decode cX4_copy 93 = .ok (.aload_n 0, 1) := by decide +kernel
theorem dX4_copy_94 : decode cX4_copy 94 = .ok (.getfield 21, 3) := by decide +kernel
theorem dX4_copy_97 : decode cX4_copy 97 = .ok (.invokestatic 66, 3) := by decide +kernel
theorem dX4_copy_100 : decode cX4_copy 100 = .ok (.aload_n 1, 1) := by decide +kernel
theorem dX4_copy_101 : decode cX4_copy 101 = .ok (.getfield 24, 3) := by decide +kernel
theorem dX4_copy_104 : decode cX4_copy 104 = .ok (.aload_n 0, 1) := by decide +kernel
theorem dX4_copy_105 : decode cX4_copy 105 = .ok (.getfield 24, 3) := by decide +kernel
theorem dX4_copy_108 : decode cX4_copy 108 = .ok (.invokestatic 66, 3) := by decide +kernel
theorem dX4_copy_111 : decode cX4_copy 111 = .ok (.aload_n 1, 1) := by decide +kernel
theorem dX4_copy_112 : decode cX4_copy 112 = .ok (.getfield 27, 3) := by decide +kernel
theorem dX4_copy_115 : decode cX4_copy 115 = .ok (.aload_n 0, 1) := by decide +kernel
theorem dX4_copy_116 : decode cX4_copy 116 = .ok (.getfield 27, 3) := by decide +kernel
theorem dX4_copy_119 : decode cX4_copy 119 = .ok (.invokestatic 66, 3) := by decide +kernel
theorem dX4_copy_122 : decode cX4_copy 122 = .ok (.aload_n 1, 1) := by decide +kernel
theorem dX4_copy_123 : decode cX4_copy 123 = .ok (.getfield 30, 3) := by decide +kernel
theorem dX4_copy_126 : decode cX4_copy 126 = .ok (.aload_n 0, 1) := by decide +kernel
theorem dX4_copy_127 : decode cX4_copy 127 = .ok (.getfield 30, 3) := by decide +kernel
theorem dX4_copy_130 : decode cX4_copy 130 = .ok (.invokestatic 66, 3) := by decide +kernel
theorem dX4_copy_133 : decode cX4_copy 133 = .ok (.return_, 1) := by decide +kernel
theorem dX4_addStep_0 : decode cX4_addStep 0 = .ok (.iconst 0, 1) := by decide +kernel
theorem dX4_addStep_1 : decode cX4_addStep 1 = .ok (.istore 4, 2) := by decide +kernel
theorem dX4_addStep_3 : decode cX4_addStep 3 = .ok (.iload 4, 2) := by decide +kernel
theorem dX4_addStep_5 : decode cX4_addStep 5 = .ok (.aload_n 0, 1) := by decide +kernel
theorem dX4_addStep_6 : decode cX4_addStep 6 = .ok (.getfield 36, 3) := by decide +kernel
theorem dX4_addStep_9 : decode cX4_addStep 9 = .ok (.if_icmp .ge 34, 3) := by decide +kernel
theorem dX4_addStep_12 : decode cX4_addStep 12 = .ok (.aload_n 0, 1) := by decide +kernel
theorem dX4_addStep_13 : decode cX4_addStep 13 = .ok (.getfield 33, 3) := by decide +kernel
theorem dX4_addStep_16 : decode cX4_addStep 16 = .ok (.iload 4, 2) := by decide +kernel
theorem dX4_addStep_18 : decode cX4_addStep 18 = .ok (.aload_n 0, 1) := by decide +kernel
theorem dX4_addStep_19 : decode cX4_addStep 19 = .ok (.getfield 9, 3) := by decide +kernel
theorem dX4_addStep_22 : decode cX4_addStep 22 = .ok (.aload_n 0, 1) := by decide +kernel
theorem dX4_addStep_23 : decode cX4_addStep 23 = .ok (.iload_n 1, 1) := by decide +kernel
theorem dX4_addStep_24 : decode cX4_addStep 24 = .ok (.iload 4, 2) := by decide +kernel
theorem dX4_addStep_26 : decode cX4_addStep 26 = .ok (.iload_n 2, 1) := by decide +kernel
theorem dX4_addStep_27 : decode cX4_addStep 27 = .ok (.iload_n 3, 1) := by decide +kernel
theorem dX4_addStep_28 : decode cX4_addStep 28 = .ok (.invokevirtual 70, 3) := by decide +kernel
theorem dX4_addStep_31 : decode cX4_addStep 31 = .ok (.invokestatic 74, 3) := by decide +kernel
theorem dX4_addStep_34 : decode cX4_addStep 34 = .ok (.invokestatic 58, 3) := by decide +kernel
theorem dX4_addStep_37 : decode cX4_addStep 37 = .ok (.iinc 4 1, 3) := by decide +kernel
theorem dX4_addStep_40 : decode cX4_addStep 40 = .ok (.goto (-37), 3) := by decide +kernel
theorem dX4_addStep_43 : decode cX4_addStep 43 = .ok (.aload_n 0, 1) := by decide +kernel
theorem dX4_addStep_44 : decode cX4_addStep 44 = .ok (.getfield 33, 3) := by decide +kernel
theorem dX4_addStep_47 : decode cX4_addStep 47 = .ok (.aload_n 0, 1) := by decide +kernel
theorem dX4_addStep_48 : decode cX4_addStep 48 = .ok (.getfield 9, 3) := by decide +kernel
theorem dX4_addStep_51 : decode cX4_addStep 51 = .ok (.invokestatic 66, 3) := by decide +kernel
theorem dX4_addStep_54 : decode cX4_addStep 54 = .ok (.aload_n 0, 1) := by decide +kernel
theorem dX4_addStep_55 : decode cX4_addStep 55 = .ok (.dup, 1) := by decide +kernel
theorem dX4_addStep_56 : decode cX4_addStep 56 = .ok (.getfield 40, 3) := by decide +kernel
theorem dX4_addStep_59 : decode cX4_addStep 59 = .ok (.iconst 1, 1) := by decide +kernel
theorem dX4_addStep_60 : decode cX4_addStep 60 = .ok (.iadd, 1) := by decide +kernel
theorem dX4_addStep_61 : decode cX4_addStep 61 = .ok (.putfield 40, 3) := by decide +kernel
theorem dX4_addStep_64 : decode cX4_addStep 64 = .ok (.return_, 1) := by decide +kernel
theorem dX4_sourceOf_0 : decode cX4_sourceOf 0 = .ok (.iload_n 1, 1) := by decide +kernel
theorem dX4_sourceOf_1 : decode cX4_sourceOf 1 = .ok (.tableswitch 108 130 134 #[35, 44, 53, 78, 84], 35) := by decide +kernel
theorem dX4_sourceOf_36 : decode cX4_sourceOf 36 = .ok (.aload_n 0, 1) := by decide +kernel
theorem dX4_sourceOf_37 : decode cX4_sourceOf 37 = .ok (.getfield 36, 3) := by decide +kernel
theorem dX4_sourceOf_40 : decode cX4_sourceOf 40 = .ok (.iload_n 2, 1) := by decide +kernel
theorem dX4_sourceOf_41 : decode cX4_sourceOf 41 = .ok (.invokestatic 78, 3) := by decide +kernel
theorem dX4_sourceOf_44 : decode cX4_sourceOf 44 = .ok (.ireturn, 1) := by decide +kernel
theorem dX4_sourceOf_45 : decode cX4_sourceOf 45 = .ok (.aload_n 0, 1) := by decide +kernel
theorem dX4_sourceOf_46 : decode cX4_sourceOf 46 = .ok (.getfield 36, 3) := by decide +kernel
theorem dX4_sourceOf_49 : decode cX4_sourceOf 49 = .ok (.iconst 1, 1) := by decide +kernel
theorem dX4_sourceOf_50 : decode cX4_sourceOf 50 = .ok (.isub, 1) := by decide +kernel
theorem dX4_sourceOf_51 : decode cX4_sourceOf 51 = .ok (.iload_n 2, 1) := by decide +kernel
theorem dX4_sourceOf_52 : decode cX4_sourceOf 52 = .ok (.isub, 1) := by decide +kernel
theorem dX4_sourceOf_53 : decode cX4_sourceOf 53 = .ok (.ireturn, 1) := by decide +kernel
theorem dX4_sourceOf_54 : decode cX4_sourceOf 54 = .ok (.iload_n 2, 1) := by decide +kernel
theorem dX4_sourceOf_55 : decode cX4_sourceOf 55 = .ok (.iconst 1, 1) := by decide +kernel
theorem dX4_sourceOf_56 : decode cX4_sourceOf 56 = .ok (.iand, 1) := by decide +kernel
theorem dX4_sourceOf_57 : decode cX4_sourceOf 57 = .ok (.ifCond .ne 9, 3) := by decide +kernel
theorem dX4_sourceOf_60 : decode cX4_sourceOf 60 = .ok (.iload_n 2, 1) := by decide +kernel
theorem dX4_sourceOf_61 : decode cX4_sourceOf 61 = .ok (.iconst 2, 1) := by decide +kernel
theorem dX4_sourceOf_62 : decode cX4_sourceOf 62 = .ok (.idiv, 1) := by decide +kernel
theorem dX4_sourceOf_63 : decode cX4_sourceOf 63 = .ok (.goto 15, 3) := by decide +kernel
theorem dX4_sourceOf_66 : decode cX4_sourceOf 66 = .ok (.aload_n 0, 1) := by decide +kernel
theorem dX4_sourceOf_67 : decode cX4_sourceOf 67 = .ok (.getfield 36, 3) := by decide +kernel
theorem dX4_sourceOf_70 : decode cX4_sourceOf 70 = .ok (.iconst 1, 1) := by decide +kernel
theorem dX4_sourceOf_71 : decode cX4_sourceOf 71 = .ok (.iadd, 1) := by decide +kernel
theorem dX4_sourceOf_72 : decode cX4_sourceOf 72 = .ok (.iconst 2, 1) := by decide +kernel
theorem dX4_sourceOf_73 : decode cX4_sourceOf 73 = .ok (.idiv, 1) := by decide +kernel
theorem dX4_sourceOf_74 : decode cX4_sourceOf 74 = .ok (.iload_n 2, 1) := by decide +kernel
theorem dX4_sourceOf_75 : decode cX4_sourceOf 75 = .ok (.iconst 2, 1) := by decide +kernel
theorem dX4_sourceOf_76 : decode cX4_sourceOf 76 = .ok (.idiv, 1) := by decide +kernel
theorem dX4_sourceOf_77 : decode cX4_sourceOf 77 = .ok (.iadd, 1) := by decide +kernel
theorem dX4_sourceOf_78 : decode cX4_sourceOf 78 = .ok (.ireturn, 1) := by decide +kernel
theorem dX4_sourceOf_79 : decode cX4_sourceOf 79 = .ok (.aload_n 0, 1) := by decide +kernel
theorem dX4_sourceOf_80 : decode cX4_sourceOf 80 = .ok (.iload_n 2, 1) := by decide +kernel
theorem dX4_sourceOf_81 : decode cX4_sourceOf 81 = .ok (.invokevirtual 82, 3) := by decide +kernel
theorem dX4_sourceOf_84 : decode cX4_sourceOf 84 = .ok (.ireturn, 1) := by decide +kernel
theorem dX4_sourceOf_85 : decode cX4_sourceOf 85 = .ok (.aload_n 0, 1) := by decide +kernel
theorem dX4_sourceOf_86 : decode cX4_sourceOf 86 = .ok (.getfield 36, 3) := by decide +kernel
theorem dX4_sourceOf_89 : decode cX4_sourceOf 89 = .ok (.iconst 1, 1) := by decide +kernel
theorem dX4_sourceOf_90 : decode cX4_sourceOf 90 = .ok (.if_icmp .ge 7, 3) := by decide +kernel
theorem dX4_sourceOf_93 : decode cX4_sourceOf 93 = .ok (.iload_n 2, 1) := by decide +kernel
theorem dX4_sourceOf_94 : decode cX4_sourceOf 94 = .ok (.goto 14, 3) := by decide +kernel
theorem dX4_sourceOf_97 : decode cX4_sourceOf 97 = .ok (.iload_n 2, 1) := by decide +kernel
theorem dX4_sourceOf_98 : decode cX4_sourceOf 98 = .ok (.iload 4, 2) := by decide +kernel
theorem dX4_sourceOf_100 : decode cX4_sourceOf 100 = .ok (.isub, 1) := by decide +kernel
theorem dX4_sourceOf_101 : decode cX4_sourceOf 101 = .ok (.aload_n 0, 1) := by decide +kernel
theorem dX4_sourceOf_102 : decode cX4_sourceOf 102 = .ok (.getfield 36, 3) := by decide +kernel
theorem dX4_sourceOf_105 : decode cX4_sourceOf 105 = .ok (.invokestatic 86, 3) := by decide +kernel
theorem dX4_sourceOf_108 : decode cX4_sourceOf 108 = .ok (.ireturn, 1) := by decide +kernel
theorem dX4_sourceOf_109 : decode cX4_sourceOf 109 = .ok (.iload_n 2, 1) := by decide +kernel
theorem dX4_sourceOf_110 : decode cX4_sourceOf 110 = .ok (.iload_n 3, 1) := by decide +kernel
theorem dX4_sourceOf_111 : decode cX4_sourceOf 111 = .ok (.if_icmp .ne 8, 3) := by decide +kernel
theorem dX4_sourceOf_114 : decode cX4_sourceOf 114 = .ok (.iload 4, 2) := by decide +kernel
theorem dX4_sourceOf_116 : decode cX4_sourceOf 116 = .ok (.goto 14, 3) := by decide +kernel
theorem dX4_sourceOf_119 : decode cX4_sourceOf 119 = .ok (.iload_n 2, 1) := by decide +kernel
theorem dX4_sourceOf_120 : decode cX4_sourceOf 120 = .ok (.iload 4, 2) := by decide +kernel
theorem dX4_sourceOf_122 : decode cX4_sourceOf 122 = .ok (.if_icmp .ne 7, 3) := by decide +kernel
theorem dX4_sourceOf_125 : decode cX4_sourceOf 125 = .ok (.iload_n 3, 1) := by decide +kernel
theorem dX4_sourceOf_126 : decode cX4_sourceOf 126 = .ok (.goto 4, 3) := by decide +kernel
theorem dX4_sourceOf_129 : decode cX4_sourceOf 129 = .ok (.iload_n 2, 1) := by decide +kernel
theorem dX4_sourceOf_130 : decode cX4_sourceOf 130 = .ok (.ireturn, 1) := by decide +kernel
theorem dX4_thirdsSource_0 : decode cX4_thirdsSource 0 = .ok (.aload_n 0, 1) := by decide +kernel
theorem dX4_thirdsSource_1 : decode cX4_thirdsSource 1 = .ok (.getfield 36, 3) := by decide +kernel
theorem dX4_thirdsSource_4 : decode cX4_thirdsSource 4 = .ok (.iconst 2, 1) := by decide +kernel
theorem dX4_thirdsSource_5 : decode cX4_thirdsSource 5 = .ok (.iadd, 1) := by decide +kernel
theorem dX4_thirdsSource_6 : decode cX4_thirdsSource 6 = .ok (.iconst 3, 1) := by decide +kernel
theorem dX4_thirdsSource_7 : decode cX4_thirdsSource 7 = .ok (.idiv, 1) := by decide +kernel
theorem dX4_thirdsSource_8 : decode cX4_thirdsSource 8 = .ok (.istore_n 2, 1) := by decide +kernel
theorem dX4_thirdsSource_9 : decode cX4_thirdsSource 9 = .ok (.iload_n 2, 1) := by decide +kernel
theorem dX4_thirdsSource_10 : decode cX4_thirdsSource 10 = .ok (.aload_n 0, 1) := by decide +kernel
theorem dX4_thirdsSource_11 : decode cX4_thirdsSource 11 = .ok (.getfield 36, 3) := by decide +kernel
theorem dX4_thirdsSource_14 : decode cX4_thirdsSource 14 = .ok (.iconst 1, 1) := by decide +kernel
theorem dX4_thirdsSource_15 : decode cX4_thirdsSource 15 = .ok (.iadd, 1) := by decide +kernel
theorem dX4_thirdsSource_16 : decode cX4_thirdsSource 16 = .ok (.iconst 3, 1) := by decide +kernel
theorem dX4_thirdsSource_17 : decode cX4_thirdsSource 17 = .ok (.idiv, 1) := by decide +kernel
theorem dX4_thirdsSource_18 : decode cX4_thirdsSource 18 = .ok (.iadd, 1) := by decide +kernel
theorem dX4_thirdsSource_19 : decode cX4_thirdsSource 19 = .ok (.istore_n 3, 1) := by decide +kernel
theorem dX4_thirdsSource_20 : decode cX4_thirdsSource 20 = .ok (.iload_n 1, 1) := by decide +kernel
theorem dX4_thirdsSource_21 : decode cX4_thirdsSource 21 = .ok (.iload_n 2, 1) := by decide +kernel
theorem dX4_thirdsSource_22 : decode cX4_thirdsSource 22 = .ok (.if_icmp .ge 7, 3) := by decide +kernel
theorem dX4_thirdsSource_25 : decode cX4_thirdsSource 25 = .ok (.iconst 3, 1) := by decide +kernel
theorem dX4_thirdsSource_26 : decode cX4_thirdsSource 26 = .ok (.iload_n 1, 1) := by decide +kernel
theorem dX4_thirdsSource_27 : decode cX4_thirdsSource 27 = .ok (.imul, 1) := by decide +kernel
theorem dX4_thirdsSource_28 : decode cX4_thirdsSource 28 = .ok (.ireturn, 1) := by decide +kernel
theorem dX4_thirdsSource_29 : decode cX4_thirdsSource 29 = .ok (.iload_n 1, 1) := by decide +kernel
theorem dX4_thirdsSource_30 : decode cX4_thirdsSource 30 = .ok (.iload_n 3, 1) := by decide +kernel
theorem dX4_thirdsSource_31 : decode cX4_thirdsSource 31 = .ok (.if_icmp .ge 13, 3) := by decide +kernel
theorem dX4_thirdsSource_34 : decode cX4_thirdsSource 34 = .ok (.iconst 3, 1) := by decide +kernel
theorem dX4_thirdsSource_35 : decode cX4_thirdsSource 35 = .ok (.iload_n 1, 1) := by decide +kernel
theorem dX4_thirdsSource_36 : decode cX4_thirdsSource 36 = .ok (.iload_n 2, 1) := by decide +kernel
theorem dX4_thirdsSource_37 : decode cX4_thirdsSource 37 = .ok (.isub, 1) := by decide +kernel
theorem dX4_thirdsSource_38 : decode cX4_thirdsSource 38 = .ok (.imul, 1) := by decide +kernel
theorem dX4_thirdsSource_39 : decode cX4_thirdsSource 39 = .ok (.iconst 1, 1) := by decide +kernel
theorem dX4_thirdsSource_40 : decode cX4_thirdsSource 40 = .ok (.iadd, 1) := by decide +kernel
theorem dX4_thirdsSource_41 : decode cX4_thirdsSource 41 = .ok (.goto 10, 3) := by decide +kernel
theorem dX4_thirdsSource_44 : decode cX4_thirdsSource 44 = .ok (.iconst 3, 1) := by decide +kernel
theorem dX4_thirdsSource_45 : decode cX4_thirdsSource 45 = .ok (.iload_n 1, 1) := by decide +kernel
theorem dX4_thirdsSource_46 : decode cX4_thirdsSource 46 = .ok (.iload_n 3, 1) := by decide +kernel
theorem dX4_thirdsSource_47 : decode cX4_thirdsSource 47 = .ok (.isub, 1) := by decide +kernel
theorem dX4_thirdsSource_48 : decode cX4_thirdsSource 48 = .ok (.imul, 1) := by decide +kernel
theorem dX4_thirdsSource_49 : decode cX4_thirdsSource 49 = .ok (.iconst 2, 1) := by decide +kernel
theorem dX4_thirdsSource_50 : decode cX4_thirdsSource 50 = .ok (.iadd, 1) := by decide +kernel
theorem dX4_thirdsSource_51 : decode cX4_thirdsSource 51 = .ok (.ireturn, 1) := by decide +kernel
theorem dX4_addRhyme_0 : decode cX4_addRhyme 0 = .ok (.aload_n 0, 1) := by decide +kernel
theorem dX4_addRhyme_1 : decode cX4_addRhyme 1 = .ok (.getfield 15, 3) := by decide +kernel
theorem dX4_addRhyme_4 : decode cX4_addRhyme 4 = .ok (.iload_n 1, 1) := by decide +kernel
theorem dX4_addRhyme_5 : decode cX4_addRhyme 5 = .ok (.aload_n 0, 1) := by decide +kernel
theorem dX4_addRhyme_6 : decode cX4_addRhyme 6 = .ok (.getfield 15, 3) := by decide +kernel
theorem dX4_addRhyme_9 : decode cX4_addRhyme 9 = .ok (.iload_n 1, 1) := by decide +kernel
theorem dX4_addRhyme_10 : decode cX4_addRhyme 10 = .ok (.invokestatic 74, 3) := by decide +kernel
theorem dX4_addRhyme_13 : decode cX4_addRhyme 13 = .ok (.iconst 1, 1) := by decide +kernel
theorem dX4_addRhyme_14 : decode cX4_addRhyme 14 = .ok (.iload_n 2, 1) := by decide +kernel
theorem dX4_addRhyme_15 : decode cX4_addRhyme 15 = .ok (.ishl, 1) := by decide +kernel
theorem dX4_addRhyme_16 : decode cX4_addRhyme 16 = .ok (.ior, 1) := by decide +kernel
theorem dX4_addRhyme_17 : decode cX4_addRhyme 17 = .ok (.invokestatic 58, 3) := by decide +kernel
theorem dX4_addRhyme_20 : decode cX4_addRhyme 20 = .ok (.aload_n 0, 1) := by decide +kernel
theorem dX4_addRhyme_21 : decode cX4_addRhyme 21 = .ok (.getfield 15, 3) := by decide +kernel
theorem dX4_addRhyme_24 : decode cX4_addRhyme 24 = .ok (.iload_n 2, 1) := by decide +kernel
theorem dX4_addRhyme_25 : decode cX4_addRhyme 25 = .ok (.aload_n 0, 1) := by decide +kernel
theorem dX4_addRhyme_26 : decode cX4_addRhyme 26 = .ok (.getfield 15, 3) := by decide +kernel
theorem dX4_addRhyme_29 : decode cX4_addRhyme 29 = .ok (.iload_n 2, 1) := by decide +kernel
theorem dX4_addRhyme_30 : decode cX4_addRhyme 30 = .ok (.invokestatic 74, 3) := by decide +kernel
theorem dX4_addRhyme_33 : decode cX4_addRhyme 33 = .ok (.iconst 1, 1) := by decide +kernel
theorem dX4_addRhyme_34 : decode cX4_addRhyme 34 = .ok (.iload_n 1, 1) := by decide +kernel
theorem dX4_addRhyme_35 : decode cX4_addRhyme 35 = .ok (.ishl, 1) := by decide +kernel
theorem dX4_addRhyme_36 : decode cX4_addRhyme 36 = .ok (.ior, 1) := by decide +kernel
theorem dX4_addRhyme_37 : decode cX4_addRhyme 37 = .ok (.invokestatic 58, 3) := by decide +kernel
theorem dX4_addRhyme_40 : decode cX4_addRhyme 40 = .ok (.aload_n 0, 1) := by decide +kernel
theorem dX4_addRhyme_41 : decode cX4_addRhyme 41 = .ok (.dup, 1) := by decide +kernel
theorem dX4_addRhyme_42 : decode cX4_addRhyme 42 = .ok (.getfield 43, 3) := by decide +kernel
theorem dX4_addRhyme_45 : decode cX4_addRhyme 45 = .ok (.iconst 1, 1) := by decide +kernel
theorem dX4_addRhyme_46 : decode cX4_addRhyme 46 = .ok (.iadd, 1) := by decide +kernel
theorem dX4_addRhyme_47 : decode cX4_addRhyme 47 = .ok (.putfield 43, 3) := by decide +kernel
theorem dX4_addRhyme_50 : decode cX4_addRhyme 50 = .ok (.return_, 1) := by decide +kernel
theorem dX4_addWhole_0 : decode cX4_addWhole 0 = .ok (.aload_n 0, 1) := by decide +kernel
theorem dX4_addWhole_1 : decode cX4_addWhole 1 = .ok (.getfield 18, 3) := by decide +kernel
theorem dX4_addWhole_4 : decode cX4_addWhole 4 = .ok (.iload_n 1, 1) := by decide +kernel
theorem dX4_addWhole_5 : decode cX4_addWhole 5 = .ok (.iload_n 2, 1) := by decide +kernel
theorem dX4_addWhole_6 : decode cX4_addWhole 6 = .ok (.invokestatic 58, 3) := by decide +kernel
theorem dX4_addWhole_9 : decode cX4_addWhole 9 = .ok (.aload_n 0, 1) := by decide +kernel
theorem dX4_addWhole_10 : decode cX4_addWhole 10 = .ok (.dup, 1) := by decide +kernel
theorem dX4_addWhole_11 : decode cX4_addWhole 11 = .ok (.getfield 46, 3) := by decide +kernel
theorem dX4_addWhole_14 : decode cX4_addWhole 14 = .ok (.iconst 1, 1) := by decide +kernel
theorem dX4_addWhole_15 : decode cX4_addWhole 15 = .ok (.iadd, 1) := by decide +kernel
theorem dX4_addWhole_16 : decode cX4_addWhole 16 = .ok (.putfield 46, 3) := by decide +kernel
theorem dX4_addWhole_19 : decode cX4_addWhole 19 = .ok (.return_, 1) := by decide +kernel
theorem dX4_addWord_0 : decode cX4_addWord 0 = .ok (.aload_n 0, 1) := by decide +kernel
theorem dX4_addWord_1 : decode cX4_addWord 1 = .ok (.getfield 21, 3) := by decide +kernel
theorem dX4_addWord_4 : decode cX4_addWord 4 = .ok (.aload_n 0, 1) := by decide +kernel
theorem dX4_addWord_5 : decode cX4_addWord 5 = .ok (.getfield 52, 3) := by decide +kernel
theorem dX4_addWord_8 : decode cX4_addWord 8 = .ok (.iload_n 1, 1) := by decide +kernel
theorem dX4_addWord_9 : decode cX4_addWord 9 = .ok (.invokestatic 58, 3) := by decide +kernel
theorem dX4_addWord_12 : decode cX4_addWord 12 = .ok (.aload_n 0, 1) := by decide +kernel
theorem dX4_addWord_13 : decode cX4_addWord 13 = .ok (.getfield 24, 3) := by decide +kernel
theorem dX4_addWord_16 : decode cX4_addWord 16 = .ok (.aload_n 0, 1) := by decide +kernel
theorem dX4_addWord_17 : decode cX4_addWord 17 = .ok (.getfield 52, 3) := by decide +kernel
theorem dX4_addWord_20 : decode cX4_addWord 20 = .ok (.iload_n 2, 1) := by decide +kernel
theorem dX4_addWord_21 : decode cX4_addWord 21 = .ok (.invokestatic 58, 3) := by decide +kernel
theorem dX4_addWord_24 : decode cX4_addWord 24 = .ok (.aload_n 0, 1) := by decide +kernel
theorem dX4_addWord_25 : decode cX4_addWord 25 = .ok (.getfield 27, 3) := by decide +kernel
theorem dX4_addWord_28 : decode cX4_addWord 28 = .ok (.aload_n 0, 1) := by decide +kernel
theorem dX4_addWord_29 : decode cX4_addWord 29 = .ok (.getfield 52, 3) := by decide +kernel
theorem dX4_addWord_32 : decode cX4_addWord 32 = .ok (.iload_n 3, 1) := by decide +kernel
theorem dX4_addWord_33 : decode cX4_addWord 33 = .ok (.invokestatic 58, 3) := by decide +kernel
theorem dX4_addWord_36 : decode cX4_addWord 36 = .ok (.aload_n 0, 1) := by decide +kernel
theorem dX4_addWord_37 : decode cX4_addWord 37 = .ok (.dup, 1) := by decide +kernel
theorem dX4_addWord_38 : decode cX4_addWord 38 = .ok (.getfield 52, 3) := by decide +kernel
theorem dX4_addWord_41 : decode cX4_addWord 41 = .ok (.iconst 1, 1) := by decide +kernel
theorem dX4_addWord_42 : decode cX4_addWord 42 = .ok (.iadd, 1) := by decide +kernel
theorem dX4_addWord_43 : decode cX4_addWord 43 = .ok (.putfield 52, 3) := by decide +kernel
theorem dX4_addWord_46 : decode cX4_addWord 46 = .ok (.return_, 1) := by decide +kernel
theorem dX4_areRhyming_0 : decode cX4_areRhyming 0 = .ok (.aload_n 0, 1) := by decide +kernel
theorem dX4_areRhyming_1 : decode cX4_areRhyming 1 = .ok (.getfield 21, 3) := by decide +kernel
theorem dX4_areRhyming_4 : decode cX4_areRhyming 4 = .ok (.iload_n 1, 1) := by decide +kernel
theorem dX4_areRhyming_5 : decode cX4_areRhyming 5 = .ok (.invokestatic 74, 3) := by decide +kernel
theorem dX4_areRhyming_8 : decode cX4_areRhyming 8 = .ok (.aload_n 0, 1) := by decide +kernel
theorem dX4_areRhyming_9 : decode cX4_areRhyming 9 = .ok (.getfield 21, 3) := by decide +kernel
theorem dX4_areRhyming_12 : decode cX4_areRhyming 12 = .ok (.iload_n 2, 1) := by decide +kernel
theorem dX4_areRhyming_13 : decode cX4_areRhyming 13 = .ok (.invokestatic 74, 3) := by decide +kernel
theorem dX4_areRhyming_16 : decode cX4_areRhyming 16 = .ok (.if_icmp .ne 7, 3) := by decide +kernel
theorem dX4_areRhyming_19 : decode cX4_areRhyming 19 = .ok (.iconst 1, 1) := by decide +kernel
theorem dX4_areRhyming_20 : decode cX4_areRhyming 20 = .ok (.goto 4, 3) := by decide +kernel
theorem dX4_areRhyming_23 : decode cX4_areRhyming 23 = .ok (.iconst 0, 1) := by decide +kernel
theorem dX4_areRhyming_24 : decode cX4_areRhyming 24 = .ok (.ireturn, 1) := by decide +kernel
theorem dX4_forbids_0 : decode cX4_forbids 0 = .ok (.aload_n 0, 1) := by decide +kernel
theorem dX4_forbids_1 : decode cX4_forbids 1 = .ok (.getfield 30, 3) := by decide +kernel
theorem dX4_forbids_4 : decode cX4_forbids 4 = .ok (.iload_n 1, 1) := by decide +kernel
theorem dX4_forbids_5 : decode cX4_forbids 5 = .ok (.invokestatic 74, 3) := by decide +kernel
theorem dX4_forbids_8 : decode cX4_forbids 8 = .ok (.iload_n 2, 1) := by decide +kernel
theorem dX4_forbids_9 : decode cX4_forbids 9 = .ok (.ishr, 1) := by decide +kernel
theorem dX4_forbids_10 : decode cX4_forbids 10 = .ok (.iconst 1, 1) := by decide +kernel
theorem dX4_forbids_11 : decode cX4_forbids 11 = .ok (.iand, 1) := by decide +kernel
theorem dX4_forbids_12 : decode cX4_forbids 12 = .ok (.ifCond .eq 7, 3) := by decide +kernel
theorem dX4_forbids_15 : decode cX4_forbids 15 = .ok (.iconst 1, 1) := by decide +kernel
theorem dX4_forbids_16 : decode cX4_forbids 16 = .ok (.goto 4, 3) := by decide +kernel
theorem dX4_forbids_19 : decode cX4_forbids 19 = .ok (.iconst 0, 1) := by decide +kernel
theorem dX4_forbids_20 : decode cX4_forbids 20 = .ok (.ireturn, 1) := by decide +kernel
theorem dX5_init_0 : decode cX5_init 0 = .ok (.aload_n 0, 1) := by decide +kernel
theorem dX5_init_1 : decode cX5_init 1 = .ok (.invokespecial 1, 3) := by decide +kernel
theorem dX5_init_4 : decode cX5_init 4 = .ok (.aload_n 0, 1) := by decide +kernel
theorem dX5_init_5 : decode cX5_init 5 = .ok (.new 7, 3) := by decide +kernel
theorem dX5_init_8 : decode cX5_init 8 = .ok (.dup, 1) := by decide +kernel
theorem dX5_init_9 : decode cX5_init 9 = .ok (.invokespecial 9, 3) := by decide +kernel
theorem dX5_init_12 : decode cX5_init 12 = .ok (.putfield 10, 3) := by decide +kernel
theorem dX5_init_15 : decode cX5_init 15 = .ok (.aload_n 0, 1) := by decide +kernel
theorem dX5_init_16 : decode cX5_init 16 = .ok (.new 16, 3) := by decide +kernel
theorem dX5_init_19 : decode cX5_init 19 = .ok (.dup, 1) := by decide +kernel
theorem dX5_init_20 : decode cX5_init 20 = .ok (.invokespecial 18, 3) := by decide +kernel
theorem dX5_init_23 : decode cX5_init 23 = .ok (.putfield 19, 3) := by decide +kernel
theorem dX5_init_26 : decode cX5_init 26 = .ok (.return_, 1) := by decide +kernel
theorem dX5_lay_0 : decode cX5_lay 0 = .ok (.aload_n 0, 1) := by decide +kernel
theorem dX5_lay_1 : decode cX5_lay 1 = .ok (.getfield 10, 3) := by decide +kernel
theorem dX5_lay_4 : decode cX5_lay 4 = .ok (.aload_n 1, 1) := by decide +kernel
theorem dX5_lay_5 : decode cX5_lay 5 = .ok (.invokevirtual 23, 3) := by decide +kernel
theorem dX5_lay_8 : decode cX5_lay 8 = .ok (.aload_n 0, 1) := by decide +kernel
theorem dX5_lay_9 : decode cX5_lay 9 = .ok (.getfield 19, 3) := by decide +kernel
theorem dX5_lay_12 : decode cX5_lay 12 = .ok (.aload_n 2, 1) := by decide +kernel
theorem dX5_lay_13 : decode cX5_lay 13 = .ok (.invokevirtual 27, 3) := by decide +kernel
theorem dX5_lay_16 : decode cX5_lay 16 = .ok (.aload_n 0, 1) := by decide +kernel
theorem dX5_lay_17 : decode cX5_lay 17 = .ok (.iconst 1, 1) := by decide +kernel
theorem dX5_lay_18 : decode cX5_lay 18 = .ok (.putfield 30, 3) := by decide +kernel
theorem dX5_lay_21 : decode cX5_lay 21 = .ok (.return_, 1) := by decide +kernel
theorem dX6_init_0 : decode cX6_init 0 = .ok (.aload_n 0, 1) := by decide +kernel
theorem dX6_init_1 : decode cX6_init 1 = .ok (.invokespecial 3, 3) := by decide +kernel
theorem dX6_init_4 : decode cX6_init 4 = .ok (.aload_n 0, 1) := by decide +kernel
theorem dX6_init_5 : decode cX6_init 5 = .ok (.bipush 7, 2) := by decide +kernel
theorem dX6_init_7 : decode cX6_init 7 = .ok (.newarray .int, 2) := by decide +kernel
theorem dX6_init_9 : decode cX6_init 9 = .ok (.putfield 9, 3) := by decide +kernel
theorem dX6_init_12 : decode cX6_init 12 = .ok (.aload_n 0, 1) := by decide +kernel
theorem dX6_init_13 : decode cX6_init 13 = .ok (.bipush 84, 2) := by decide +kernel
theorem dX6_init_15 : decode cX6_init 15 = .ok (.newarray .int, 2) := by decide +kernel
theorem dX6_init_17 : decode cX6_init 17 = .ok (.putfield 15, 3) := by decide +kernel
theorem dX6_init_20 : decode cX6_init 20 = .ok (.aload_n 0, 1) := by decide +kernel
theorem dX6_init_21 : decode cX6_init 21 = .ok (.bipush 12, 2) := by decide +kernel
theorem dX6_init_23 : decode cX6_init 23 = .ok (.newarray .int, 2) := by decide +kernel
theorem dX6_init_25 : decode cX6_init 25 = .ok (.putfield 18, 3) := by decide +kernel
theorem dX6_init_28 : decode cX6_init 28 = .ok (.aload_n 0, 1) := by decide +kernel
theorem dX6_init_29 : decode cX6_init 29 = .ok (.sipush 128, 3) := by decide +kernel
theorem dX6_init_32 : decode cX6_init 32 = .ok (.newarray .int, 2) := by decide +kernel
theorem dX6_init_34 : decode cX6_init 34 = .ok (.putfield 21, 3) := by decide +kernel
theorem dX6_init_37 : decode cX6_init 37 = .ok (.aload_n 0, 1) := by decide +kernel
theorem dX6_init_38 : decode cX6_init 38 = .ok (.sipush 128, 3) := by decide +kernel
theorem dX6_init_41 : decode cX6_init 41 = .ok (.newarray .int, 2) := by decide +kernel
theorem dX6_init_43 : decode cX6_init 43 = .ok (.putfield 24, 3) := by decide +kernel
theorem dX6_init_46 : decode cX6_init 46 = .ok (.aload_n 0, 1) := by decide +kernel
theorem dX6_init_47 : decode cX6_init 47 = .ok (.aload_n 1, 1) := by decide +kernel
theorem dX6_init_48 : decode cX6_init 48 = .ok (.putfield 27, 3) := by decide +kernel
theorem dX6_init_51 : decode cX6_init 51 = .ok (.aload_n 0, 1) := by decide +kernel
theorem dX6_init_52 : decode cX6_init 52 = .ok (.aload_n 2, 1) := by decide +kernel
theorem dX6_init_53 : decode cX6_init 53 = .ok (.putfield 31, 3) := by decide +kernel
theorem dX6_init_56 : decode cX6_init 56 = .ok (.aload_n 0, 1) := by decide +kernel
theorem dX6_init_57 : decode cX6_init 57 = .ok (.aload_n 3, 1) := by decide +kernel
theorem dX6_init_58 : decode cX6_init 58 = .ok (.putfield 35, 3) := by decide +kernel
theorem dX6_init_61 : decode cX6_init 61 = .ok (.return_, 1) := by decide +kernel
theorem dX6_forget_0 : decode cX6_forget 0 = .ok (.aload_n 0, 1) := by decide +kernel
theorem dX6_forget_1 : decode cX6_forget 1 = .ok (.iconst 0, 1) := by decide +kernel
theorem dX6_forget_2 : decode cX6_forget 2 = .ok (.putfield 39, 3) := by decide +kernel
theorem dX6_forget_5 : decode cX6_forget 5 = .ok (.return_, 1) := by decide +kernel
theorem dX6_howMany_0 : decode cX6_howMany 0 = .ok (.aload_n 0, 1) := by decide +kernel
theorem dX6_howMany_1 : decode cX6_howMany 1 = .ok (.getfield 39, 3) := by decide +kernel
theorem dX6_howMany_4 : decode cX6_howMany 4 = .ok (.ifCond .ne 12, 3) := by decide +kernel
theorem dX6_howMany_7 : decode cX6_howMany 7 = .ok (.aload_n 0, 1) := by decide +kernel
theorem dX6_howMany_8 : decode cX6_howMany 8 = .ok (.invokevirtual 43, 3) := by decide +kernel
theorem dX6_howMany_11 : decode cX6_howMany 11 = .ok (.aload_n 0, 1) := by decide +kernel
theorem dX6_howMany_12 : decode cX6_howMany 12 = .ok (.iconst 1, 1) := by decide +kernel
theorem dX6_howMany_13 : decode cX6_howMany 13 = .ok (.putfield 39, 3) := by decide +kernel
theorem dX6_howMany_16 : decode cX6_howMany 16 = .ok (.aload_n 0, 1) := by decide +kernel
theorem dX6_howMany_17 : decode cX6_howMany 17 = .ok (.getfield 46, 3) := by decide +kernel
theorem dX6_howMany_20 : decode cX6_howMany 20 = .ok (.ireturn, 1) := by decide +kernel
theorem dX6_settle_0 : decode cX6_settle 0 = .ok (.aload_n 0, 1) := by decide +kernel
theorem dX6_settle_1 : decode cX6_settle 1 = .ok (.iconst (-1), 1) := by decide +kernel
theorem dX6_settle_2 : decode cX6_settle 2 = .ok (.putfield 46, 3) := by decide +kernel
theorem dX6_settle_5 : decode cX6_settle 5 = .ok (.aload_n 0, 1) := by decide +kernel
theorem dX6_settle_6 : decode cX6_settle 6 = .ok (.getfield 27, 3) := by decide +kernel
theorem dX6_settle_9 : decode cX6_settle 9 = .ok (.getfield 50, 3) := by decide +kernel
theorem dX6_settle_12 : decode cX6_settle 12 = .ok (.bipush 7, 2) := by decide +kernel
theorem dX6_settle_14 : decode cX6_settle 14 = .ok (.if_icmp .le 4, 3) := by decide +kernel
theorem dX6_settle_17 : decode cX6_settle 17 = .ok (.return_, 1) := by decide +kernel
theorem dX6_settle_18 : decode cX6_settle 18 = .ok (.aload_n 0, 1) := by decide +kernel
theorem dX6_settle_19 : decode cX6_settle 19 = .ok (.invokevirtual 55, 3) := by decide +kernel
theorem dX6_settle_22 : decode cX6_settle 22 = .ok (.aload_n 0, 1) := by decide +kernel
theorem dX6_settle_23 : decode cX6_settle 23 = .ok (.invokevirtual 58, 3) := by decide +kernel
theorem dX6_settle_26 : decode cX6_settle 26 = .ok (.aload_n 0, 1) := by decide +kernel
theorem dX6_settle_27 : decode cX6_settle 27 = .ok (.invokevirtual 61, 3) := by decide +kernel
theorem dX6_settle_30 : decode cX6_settle 30 = .ok (.aload_n 0, 1) := by decide +kernel
theorem dX6_settle_31 : decode cX6_settle 31 = .ok (.getfield 9, 3) := by decide +kernel
theorem dX6_settle_34 : decode cX6_settle 34 = .ok (.iconst (-1), 1) := by decide +kernel
theorem dX6_settle_35 : decode cX6_settle 35 = .ok (.invokestatic 64, 3) := by decide +kernel
theorem dX6_settle_38 : decode cX6_settle 38 = .ok (.aload_n 0, 1) := by decide +kernel
theorem dX6_settle_39 : decode cX6_settle 39 = .ok (.aload_n 0, 1) := by decide +kernel
theorem dX6_settle_40 : decode cX6_settle 40 = .ok (.invokevirtual 68, 3) := by decide +kernel
theorem dX6_settle_43 : decode cX6_settle 43 = .ok (.putfield 46, 3) := by decide +kernel
theorem dX6_settle_46 : decode cX6_settle 46 = .ok (.iconst 0, 1) := by decide +kernel
theorem dX6_settle_47 : decode cX6_settle 47 = .ok (.istore_n 1, 1) := by decide +kernel
theorem dX6_settle_48 : decode cX6_settle 48 = .ok (.iload_n 1, 1) := by decide +kernel
theorem dX6_settle_49 : decode cX6_settle 49 = .ok (.aload_n 0, 1) := by decide +kernel
theorem dX6_settle_50 : decode cX6_settle 50 = .ok (.getfield 27, 3) := by decide +kernel
theorem dX6_settle_53 : decode cX6_settle 53 = .ok (.getfield 50, 3) := by decide +kernel
theorem dX6_settle_56 : decode cX6_settle 56 = .ok (.if_icmp .ge 22, 3) := by decide +kernel
theorem dX6_settle_59 : decode cX6_settle 59 = .ok (.aload_n 0, 1) := by decide +kernel
theorem dX6_settle_60 : decode cX6_settle 60 = .ok (.getfield 46, 3) := by decide +kernel
theorem dX6_settle_63 : decode cX6_settle 63 = .ok (.iconst (-1), 1) := by decide +kernel
theorem dX6_settle_64 : decode cX6_settle 64 = .ok (.if_icmp .eq 14, 3) := by decide +kernel
theorem dX6_settle_67 : decode cX6_settle 67 = .ok (.aload_n 0, 1) := by decide +kernel
theorem dX6_settle_68 : decode cX6_settle 68 = .ok (.iload_n 1, 1) := by decide +kernel
theorem dX6_settle_69 : decode cX6_settle 69 = .ok (.invokevirtual 72, 3) := by decide +kernel
theorem dX6_settle_72 : decode cX6_settle 72 = .ok (.iinc 1 1, 3) := by decide +kernel
theorem dX6_settle_75 : decode cX6_settle 75 = .ok (.goto (-27), 3) := by decide +kernel
theorem dX6_settle_78 : decode cX6_settle 78 = .ok (.return_, 1) := by decide +kernel
theorem dX6_giveLeast_0 : decode cX6_giveLeast 0 = .ok (.iconst 0, 1) := by decide +kernel
theorem dX6_giveLeast_1 : decode cX6_giveLeast 1 = .ok (.istore_n 2, 1) := by decide +kernel
theorem dX6_giveLeast_2 : decode cX6_giveLeast 2 = .ok (.iload_n 2, 1) := by decide +kernel
theorem dX6_giveLeast_3 : decode cX6_giveLeast 3 = .ok (.aload_n 0, 1) := by decide +kernel
theorem dX6_giveLeast_4 : decode cX6_giveLeast 4 = .ok (.getfield 27, 3) := by decide +kernel
theorem dX6_giveLeast_7 : decode cX6_giveLeast 7 = .ok (.getfield 76, 3) := by decide +kernel
theorem dX6_giveLeast_10 : decode cX6_giveLeast 10 = .ok (.if_icmp .ge 30, 3) := by decide +kernel
theorem dX6_giveLeast_13 : decode cX6_giveLeast 13 = .ok (.aload_n 0, 1) := by decide +kernel
theorem dX6_giveLeast_14 : decode cX6_giveLeast 14 = .ok (.getfield 9, 3) := by decide +kernel
theorem dX6_giveLeast_17 : decode cX6_giveLeast 17 = .ok (.iload_n 1, 1) := by decide +kernel
theorem dX6_giveLeast_18 : decode cX6_giveLeast 18 = .ok (.iload_n 2, 1) := by decide +kernel
theorem dX6_giveLeast_19 : decode cX6_giveLeast 19 = .ok (.invokestatic 79, 3) := by decide +kernel
theorem dX6_giveLeast_22 : decode cX6_giveLeast 22 = .ok (.aload_n 0, 1) := by decide +kernel
theorem dX6_giveLeast_23 : decode cX6_giveLeast 23 = .ok (.invokevirtual 68, 3) := by decide +kernel
theorem dX6_giveLeast_26 : decode cX6_giveLeast 26 = .ok (.aload_n 0, 1) := by decide +kernel
theorem dX6_giveLeast_27 : decode cX6_giveLeast 27 = .ok (.getfield 46, 3) := by decide +kernel
theorem dX6_giveLeast_30 : decode cX6_giveLeast 30 = .ok (.if_icmp .ne 4, 3) := by decide +kernel
theorem dX6_giveLeast_33 : decode cX6_giveLeast 33 = .ok (.return_, 1) := by decide +kernel
theorem dX6_giveLeast_34 : decode cX6_giveLeast 34 = .ok (.iinc 2 1, 3) := by decide +kernel
theorem dX6_giveLeast_37 : decode cX6_giveLeast 37 = .ok (.goto (-35), 3) := by decide +kernel
theorem dX6_giveLeast_40 : decode cX6_giveLeast 40 = .ok (.return_, 1) := by decide +kernel
theorem dX6_countChanges_0 : decode cX6_countChanges 0 = .ok (.aload_n 0, 1) := by decide +kernel
theorem dX6_countChanges_1 : decode cX6_countChanges 1 = .ok (.getfield 15, 3) := by decide +kernel
theorem dX6_countChanges_4 : decode cX6_countChanges 4 = .ok (.iconst 0, 1) := by decide +kernel
theorem dX6_countChanges_5 : decode cX6_countChanges 5 = .ok (.invokestatic 64, 3) := by decide +kernel
theorem dX6_countChanges_8 : decode cX6_countChanges 8 = .ok (.iconst 0, 1) := by decide +kernel
theorem dX6_countChanges_9 : decode cX6_countChanges 9 = .ok (.istore_n 1, 1) := by decide +kernel
theorem dX6_countChanges_10 : decode cX6_countChanges 10 = .ok (.iload_n 1, 1) := by decide +kernel
theorem dX6_countChanges_11 : decode cX6_countChanges 11 = .ok (.aload_n 0, 1) := by decide +kernel
theorem dX6_countChanges_12 : decode cX6_countChanges 12 = .ok (.getfield 35, 3) := by decide +kernel
theorem dX6_countChanges_15 : decode cX6_countChanges 15 = .ok (.getfield 83, 3) := by decide +kernel
theorem dX6_countChanges_18 : decode cX6_countChanges 18 = .ok (.if_icmp .ge 112, 3) := by decide +kernel
theorem dX6_countChanges_21 : decode cX6_countChanges 21 = .ok (.aload_n 0, 1) := by decide +kernel
theorem dX6_countChanges_22 : decode cX6_countChanges 22 = .ok (.getfield 27, 3) := by decide +kernel
theorem dX6_countChanges_25 : decode cX6_countChanges 25 = .ok (.getfield 50, 3) := by decide +kernel
theorem dX6_countChanges_28 : decode cX6_countChanges 28 = .ok (.ifCond .le 102, 3) := by decide +kernel
theorem dX6_countChanges_31 : decode cX6_countChanges 31 = .ok (.aload_n 0, 1) := by decide +kernel
theorem dX6_countChanges_32 : decode cX6_countChanges 32 = .ok (.getfield 31, 3) := by decide +kernel
theorem dX6_countChanges_35 : decode cX6_countChanges 35 = .ok (.iload_n 1, 1) := by decide +kernel
theorem dX6_countChanges_36 : decode cX6_countChanges 36 = .ok (.aload_n 0, 1) := by decide +kernel
theorem dX6_countChanges_37 : decode cX6_countChanges 37 = .ok (.getfield 27, 3) := by decide +kernel
theorem dX6_countChanges_40 : decode cX6_countChanges 40 = .ok (.getfield 50, 3) := by decide +kernel
theorem dX6_countChanges_43 : decode cX6_countChanges 43 = .ok (.idiv, 1) := by decide +kernel
theorem dX6_countChanges_44 : decode cX6_countChanges 44 = .ok (.i2l, 1) := by decide +kernel
theorem dX6_countChanges_45 : decode cX6_countChanges 45 = .ok (.iload_n 1, 1) := by decide +kernel
theorem dX6_countChanges_46 : decode cX6_countChanges 46 = .ok (.aload_n 0, 1) := by decide +kernel
theorem dX6_countChanges_47 : decode cX6_countChanges 47 = .ok (.getfield 27, 3) := by decide +kernel
theorem dX6_countChanges_50 : decode cX6_countChanges 50 = .ok (.getfield 50, 3) := by decide +kernel
theorem dX6_countChanges_53 : decode cX6_countChanges 53 = .ok (.irem, 1) := by decide +kernel
theorem dX6_countChanges_54 : decode cX6_countChanges 54 = .ok (.invokevirtual 88, 3) := by decide +kernel
theorem dX6_countChanges_57 : decode cX6_countChanges 57 = .ok (.istore_n 2, 1) := by decide +kernel
theorem dX6_countChanges_58 : decode cX6_countChanges 58 = .ok (.iconst 0, 1) := by decide +kernel
theorem dX6_countChanges_59 : decode cX6_countChanges 59 = .ok (.istore_n 3, 1) := by decide +kernel
theorem dX6_countChanges_60 : decode cX6_countChanges 60 = .ok (.iload_n 3, 1) := by decide +kernel
theorem dX6_countChanges_61 : decode cX6_countChanges 61 = .ok (.aload_n 0, 1) := by decide +kernel
theorem dX6_countChanges_62 : decode cX6_countChanges 62 = .ok (.getfield 27, 3) := by decide +kernel
theorem dX6_countChanges_65 : decode cX6_countChanges 65 = .ok (.getfield 76, 3) := by decide +kernel
theorem dX6_countChanges_68 : decode cX6_countChanges 68 = .ok (.if_icmp .ge 56, 3) := by decide +kernel
theorem dX6_countChanges_71 : decode cX6_countChanges 71 = .ok (.iload_n 2, 1) := by decide +kernel
theorem dX6_countChanges_72 : decode cX6_countChanges 72 = .ok (.bipush 12, 2) := by decide +kernel
theorem dX6_countChanges_74 : decode cX6_countChanges 74 = .ok (.imul, 1) := by decide +kernel
theorem dX6_countChanges_75 : decode cX6_countChanges 75 = .ok (.iload_n 3, 1) := by decide +kernel
theorem dX6_countChanges_76 : decode cX6_countChanges 76 = .ok (.iadd, 1) := by decide +kernel
theorem dX6_countChanges_77 : decode cX6_countChanges 77 = .ok (.istore 4, 2) := by decide +kernel
theorem dX6_countChanges_79 : decode cX6_countChanges 79 = .ok (.aload_n 0, 1) := by decide +kernel
theorem dX6_countChanges_80 : decode cX6_countChanges 80 = .ok (.getfield 15, 3) := by decide +kernel
theorem dX6_countChanges_83 : decode cX6_countChanges 83 = .ok (.iload 4, 2) := by decide +kernel
theorem dX6_countChanges_85 : decode cX6_countChanges 85 = .ok (.aload_n 0, 1) := by decide +kernel
theorem dX6_countChanges_86 : decode cX6_countChanges 86 = .ok (.getfield 15, 3) := by decide +kernel
theorem dX6_countChanges_89 : decode cX6_countChanges 89 = .ok (.iload 4, 2) := by decide +kernel
theorem dX6_countChanges_91 : decode cX6_countChanges 91 = .ok (.invokestatic 94, 3) := by decide +kernel
theorem dX6_countChanges_94 : decode cX6_countChanges 94 = .ok (.aload_n 0, 1) := by decide +kernel
theorem dX6_countChanges_95 : decode cX6_countChanges 95 = .ok (.getfield 35, 3) := by decide +kernel
theorem dX6_countChanges_98 : decode cX6_countChanges 98 = .ok (.getfield 98, 3) := by decide +kernel
theorem dX6_countChanges_101 : decode cX6_countChanges 101 = .ok (.iload_n 1, 1) := by decide +kernel
theorem dX6_countChanges_102 : decode cX6_countChanges 102 = .ok (.invokestatic 94, 3) := by decide +kernel
theorem dX6_countChanges_105 : decode cX6_countChanges 105 = .ok (.iload_n 3, 1) := by decide +kernel
theorem dX6_countChanges_106 : decode cX6_countChanges 106 = .ok (.if_icmp .ne 7, 3) := by decide +kernel
theorem dX6_countChanges_109 : decode cX6_countChanges 109 = .ok (.iconst 0, 1) := by decide +kernel
theorem dX6_countChanges_110 : decode cX6_countChanges 110 = .ok (.goto 4, 3) := by decide +kernel
theorem dX6_countChanges_113 : decode cX6_countChanges 113 = .ok (.iconst 1, 1) := by decide +kernel
theorem dX6_countChanges_114 : decode cX6_countChanges 114 = .ok (.iadd, 1) := by decide +kernel
theorem dX6_countChanges_115 : decode cX6_countChanges 115 = .ok (.invokestatic 79, 3) := by decide +kernel
theorem dX6_countChanges_118 : decode cX6_countChanges 118 = .ok (.iinc 3 1, 3) := by decide +kernel
theorem dX6_countChanges_121 : decode cX6_countChanges 121 = .ok (.goto (-61), 3) := by decide +kernel
theorem dX6_countChanges_124 : decode cX6_countChanges 124 = .ok (.iinc 1 1, 3) := by decide +kernel
theorem dX6_countChanges_127 : decode cX6_countChanges 127 = .ok (.goto (-117), 3) := by decide +kernel
theorem dX6_countChanges_130 : decode cX6_countChanges 130 = .ok (.return_, 1) := by decide +kernel
theorem dX6_sortWords_0 : decode cX6_sortWords 0 = .ok (.iconst 0, 1) := by decide +kernel
theorem dX6_sortWords_1 : decode cX6_sortWords 1 = .ok (.istore_n 1, 1) := by decide +kernel
theorem dX6_sortWords_2 : decode cX6_sortWords 2 = .ok (.iload_n 1, 1) := by decide +kernel
theorem dX6_sortWords_3 : decode cX6_sortWords 3 = .ok (.aload_n 0, 1) := by decide +kernel
theorem dX6_sortWords_4 : decode cX6_sortWords 4 = .ok (.getfield 27, 3) := by decide +kernel
theorem dX6_sortWords_7 : decode cX6_sortWords 7 = .ok (.getfield 76, 3) := by decide +kernel
theorem dX6_sortWords_10 : decode cX6_sortWords 10 = .ok (.if_icmp .ge 91, 3) := by decide +kernel
theorem dX6_sortWords_13 : decode cX6_sortWords 13 = .ok (.iload_n 1, 1) := by decide +kernel
theorem dX6_sortWords_14 : decode cX6_sortWords 14 = .ok (.istore_n 2, 1) := by decide +kernel
theorem dX6_sortWords_15 : decode cX6_sortWords 15 = .ok (.iconst 0, 1) := by decide +kernel
theorem dX6_sortWords_16 : decode cX6_sortWords 16 = .ok (.istore_n 3, 1) := by decide +kernel
theorem dX6_sortWords_17 : decode cX6_sortWords 17 = .ok (.iload_n 3, 1) := by decide +kernel
theorem dX6_sortWords_18 : decode cX6_sortWords 18 = .ok (.iload_n 1, 1) := by decide +kernel
theorem dX6_sortWords_19 : decode cX6_sortWords 19 = .ok (.if_icmp .ge 67, 3) := by decide +kernel
theorem dX6_sortWords_22 : decode cX6_sortWords 22 = .ok (.iload_n 2, 1) := by decide +kernel
theorem dX6_sortWords_23 : decode cX6_sortWords 23 = .ok (.ifCond .le 63, 3) := by decide +kernel
theorem dX6_sortWords_26 : decode cX6_sortWords 26 = .ok (.aload_n 0, 1) := by decide +kernel
theorem dX6_sortWords_27 : decode cX6_sortWords 27 = .ok (.getfield 18, 3) := by decide +kernel
theorem dX6_sortWords_30 : decode cX6_sortWords 30 = .ok (.iload_n 2, 1) := by decide +kernel
theorem dX6_sortWords_31 : decode cX6_sortWords 31 = .ok (.iconst 1, 1) := by decide +kernel
theorem dX6_sortWords_32 : decode cX6_sortWords 32 = .ok (.isub, 1) := by decide +kernel
theorem dX6_sortWords_33 : decode cX6_sortWords 33 = .ok (.invokestatic 94, 3) := by decide +kernel
theorem dX6_sortWords_36 : decode cX6_sortWords 36 = .ok (.istore 4, 2) := by decide +kernel
theorem dX6_sortWords_38 : decode cX6_sortWords 38 = .ok (.aload_n 0, 1) := by decide +kernel
theorem dX6_sortWords_39 : decode cX6_sortWords 39 = .ok (.getfield 27, 3) := by decide +kernel
theorem dX6_sortWords_42 : decode cX6_sortWords 42 = .ok (.getfield 100, 3) := by decide +kernel
theorem dX6_sortWords_45 : decode cX6_sortWords 45 = .ok (.iload 4, 2) := by decide +kernel
theorem dX6_sortWords_47 : decode cX6_sortWords 47 = .ok (.invokestatic 94, 3) := by decide +kernel
theorem dX6_sortWords_50 : decode cX6_sortWords 50 = .ok (.aload_n 0, 1) := by decide +kernel
theorem dX6_sortWords_51 : decode cX6_sortWords 51 = .ok (.getfield 27, 3) := by decide +kernel
theorem dX6_sortWords_54 : decode cX6_sortWords 54 = .ok (.getfield 100, 3) := by decide +kernel
theorem dX6_sortWords_57 : decode cX6_sortWords 57 = .ok (.iload_n 1, 1) := by decide +kernel
theorem dX6_sortWords_58 : decode cX6_sortWords 58 = .ok (.invokestatic 94, 3) := by decide +kernel
theorem dX6_sortWords_61 : decode cX6_sortWords 61 = .ok (.if_icmp .gt 6, 3) := by decide +kernel
theorem dX6_sortWords_64 : decode cX6_sortWords 64 = .ok (.goto 22, 3) := by decide +kernel
theorem dX6_sortWords_67 : decode cX6_sortWords 67 = .ok (.aload_n 0, 1) := by decide +kernel
theorem dX6_sortWords_68 : decode cX6_sortWords 68 = .ok (.getfield 18, 3) := by decide +kernel
theorem dX6_sortWords_71 : decode cX6_sortWords 71 = .ok (.iload_n 2, 1) := by decide +kernel
theorem dX6_sortWords_72 : decode cX6_sortWords 72 = .ok (.iload 4, 2) := by decide +kernel
theorem dX6_sortWords_74 : decode cX6_sortWords 74 = .ok (.invokestatic 79, 3) := by decide +kernel
theorem dX6_sortWords_77 : decode cX6_sortWords 77 = .ok (.iinc 2 (-1), 3) := by decide +kernel
theorem dX6_sortWords_80 : decode cX6_sortWords 80 = .ok (.iinc 3 1, 3) := by decide +kernel
theorem dX6_sortWords_83 : decode cX6_sortWords 83 = .ok (.goto (-66), 3) := by decide +kernel
theorem dX6_sortWords_86 : decode cX6_sortWords 86 = .ok (.aload_n 0, 1) := by decide +kernel
theorem dX6_sortWords_87 : decode cX6_sortWords 87 = .ok (.getfield 18, 3) := by decide +kernel
theorem dX6_sortWords_90 : decode cX6_sortWords 90 = .ok (.iload_n 2, 1) := by decide +kernel
theorem dX6_sortWords_91 : decode cX6_sortWords 91 = .ok (.iload_n 1, 1) := by decide +kernel
theorem dX6_sortWords_92 : decode cX6_sortWords 92 = .ok (.invokestatic 79, 3) := by decide +kernel
theorem dX6_sortWords_95 : decode cX6_sortWords 95 = .ok (.iinc 1 1, 3) := by decide +kernel
theorem dX6_sortWords_98 : decode cX6_sortWords 98 = .ok (.goto (-96), 3) := by decide +kernel
theorem dX6_sortWords_101 : decode cX6_sortWords 101 = .ok (.return_, 1) := by decide +kernel
theorem dX6_findUnbroken_0 : decode cX6_findUnbroken 0 = .ok (.iconst 0, 1) := by decide +kernel
theorem dX6_findUnbroken_1 : decode cX6_findUnbroken 1 = .ok (.istore_n 1, 1) := by decide +kernel
theorem dX6_findUnbroken_2 : decode cX6_findUnbroken 2 = .ok (.iload_n 1, 1) := by decide +kernel
theorem dX6_findUnbroken_3 : decode cX6_findUnbroken 3 = .ok (.iconst 1, 1) := by decide +kernel
theorem dX6_findUnbroken_4 : decode cX6_findUnbroken 4 = .ok (.aload_n 0, 1) := by decide +kernel
theorem dX6_findUnbroken_5 : decode cX6_findUnbroken 5 = .ok (.getfield 27, 3) := by decide +kernel
theorem dX6_findUnbroken_8 : decode cX6_findUnbroken 8 = .ok (.getfield 50, 3) := by decide +kernel
theorem dX6_findUnbroken_11 : decode cX6_findUnbroken 11 = .ok (.ishl, 1) := by decide +kernel
theorem dX6_findUnbroken_12 : decode cX6_findUnbroken 12 = .ok (.if_icmp .ge 74, 3) := by decide +kernel
theorem dX6_findUnbroken_15 : decode cX6_findUnbroken 15 = .ok (.iconst 1, 1) := by decide +kernel
theorem dX6_findUnbroken_16 : decode cX6_findUnbroken 16 = .ok (.istore_n 2, 1) := by decide +kernel
theorem dX6_findUnbroken_17 : decode cX6_findUnbroken 17 = .ok (.iconst 0, 1) := by decide +kernel
theorem dX6_findUnbroken_18 : decode cX6_findUnbroken 18 = .ok (.istore_n 3, 1) := by decide +kernel
theorem dX6_findUnbroken_19 : decode cX6_findUnbroken 19 = .ok (.iload_n 3, 1) := by decide +kernel
theorem dX6_findUnbroken_20 : decode cX6_findUnbroken 20 = .ok (.aload_n 0, 1) := by decide +kernel
theorem dX6_findUnbroken_21 : decode cX6_findUnbroken 21 = .ok (.getfield 27, 3) := by decide +kernel
theorem dX6_findUnbroken_24 : decode cX6_findUnbroken 24 = .ok (.getfield 50, 3) := by decide +kernel
theorem dX6_findUnbroken_27 : decode cX6_findUnbroken 27 = .ok (.if_icmp .ge 44, 3) := by decide +kernel
theorem dX6_findUnbroken_30 : decode cX6_findUnbroken 30 = .ok (.aload_n 0, 1) := by decide +kernel
theorem dX6_findUnbroken_31 : decode cX6_findUnbroken 31 = .ok (.getfield 31, 3) := by decide +kernel
theorem dX6_findUnbroken_34 : decode cX6_findUnbroken 34 = .ok (.getfield 103, 3) := by decide +kernel
theorem dX6_findUnbroken_37 : decode cX6_findUnbroken 37 = .ok (.iload_n 3, 1) := by decide +kernel
theorem dX6_findUnbroken_38 : decode cX6_findUnbroken 38 = .ok (.invokestatic 94, 3) := by decide +kernel
theorem dX6_findUnbroken_41 : decode cX6_findUnbroken 41 = .ok (.istore 4, 2) := by decide +kernel
theorem dX6_findUnbroken_43 : decode cX6_findUnbroken 43 = .ok (.iload_n 2, 1) := by decide +kernel
theorem dX6_findUnbroken_44 : decode cX6_findUnbroken 44 = .ok (.iload_n 1, 1) := by decide +kernel
theorem dX6_findUnbroken_45 : decode cX6_findUnbroken 45 = .ok (.iload_n 3, 1) := by decide +kernel
theorem dX6_findUnbroken_46 : decode cX6_findUnbroken 46 = .ok (.ishr, 1) := by decide +kernel
theorem dX6_findUnbroken_47 : decode cX6_findUnbroken 47 = .ok (.iconst 1, 1) := by decide +kernel
theorem dX6_findUnbroken_48 : decode cX6_findUnbroken 48 = .ok (.iand, 1) := by decide +kernel
theorem dX6_findUnbroken_49 : decode cX6_findUnbroken 49 = .ok (.iload_n 1, 1) := by decide +kernel
theorem dX6_findUnbroken_50 : decode cX6_findUnbroken 50 = .ok (.iload 4, 2) := by decide +kernel
theorem dX6_findUnbroken_52 : decode cX6_findUnbroken 52 = .ok (.ishr, 1) := by decide +kernel
theorem dX6_findUnbroken_53 : decode cX6_findUnbroken 53 = .ok (.iconst 1, 1) := by decide +kernel
theorem dX6_findUnbroken_54 : decode cX6_findUnbroken 54 = .ok (.iand, 1) := by decide +kernel
theorem dX6_findUnbroken_55 : decode cX6_findUnbroken 55 = .ok (.if_icmp .ne 7, 3) := by decide +kernel
theorem dX6_findUnbroken_58 : decode cX6_findUnbroken 58 = .ok (.iconst 1, 1) := by decide +kernel
theorem dX6_findUnbroken_59 : decode cX6_findUnbroken 59 = .ok (.goto 4, 3) := by decide +kernel
theorem dX6_findUnbroken_62 : decode cX6_findUnbroken 62 = .ok (.iconst 0, 1) := by decide +kernel
theorem dX6_findUnbroken_63 : decode cX6_findUnbroken 63 = .ok (.iand, 1) := by decide +kernel
theorem dX6_findUnbroken_64 : decode cX6_findUnbroken 64 = .ok (.istore_n 2, 1) := by decide +kernel
theorem dX6_findUnbroken_65 : decode cX6_findUnbroken 65 = .ok (.iinc 3 1, 3) := by decide +kernel
theorem dX6_findUnbroken_68 : decode cX6_findUnbroken 68 = .ok (.goto (-49), 3) := by decide +kernel
theorem dX6_findUnbroken_71 : decode cX6_findUnbroken 71 = .ok (.aload_n 0, 1) := by decide +kernel
theorem dX6_findUnbroken_72 : decode cX6_findUnbroken 72 = .ok (.getfield 21, 3) := by decide +kernel
theorem dX6_findUnbroken_75 : decode cX6_findUnbroken 75 = .ok (.iload_n 1, 1) := by decide +kernel
theorem dX6_findUnbroken_76 : decode cX6_findUnbroken 76 = .ok (.iload_n 2, 1) := by decide +kernel
theorem dX6_findUnbroken_77 : decode cX6_findUnbroken 77 = .ok (.invokestatic 79, 3) := by decide +kernel
theorem dX6_findUnbroken_80 : decode cX6_findUnbroken 80 = .ok (.iinc 1 1, 3) := by decide +kernel
theorem dX6_findUnbroken_83 : decode cX6_findUnbroken 83 = .ok (.goto (-81), 3) := by decide +kernel
theorem dX6_findUnbroken_86 : decode cX6_findUnbroken 86 = .ok (.return_, 1) := by decide +kernel
theorem dX6_cheapest_0 : decode cX6_cheapest 0 = .ok (.iconst 1, 1) := by decide +kernel
theorem dX6_cheapest_1 : decode cX6_cheapest 1 = .ok (.aload_n 0, 1) := by decide +kernel
theorem dX6_cheapest_2 : decode cX6_cheapest 2 = .ok (.getfield 27, 3) := by decide +kernel
theorem dX6_cheapest_5 : decode cX6_cheapest 5 = .ok (.getfield 50, 3) := by decide +kernel
theorem dX6_cheapest_8 : decode cX6_cheapest 8 = .ok (.ishl, 1) := by decide +kernel
theorem dX6_cheapest_9 : decode cX6_cheapest 9 = .ok (.iconst 1, 1) := by decide +kernel
theorem dX6_cheapest_10 : decode cX6_cheapest 10 = .ok (.isub, 1) := by decide +kernel
theorem dX6_cheapest_11 : decode cX6_cheapest 11 = .ok (.istore_n 1, 1) := by decide +kernel
theorem dX6_cheapest_12 : decode cX6_cheapest 12 = .ok (.aload_n 0, 1) := by decide +kernel
theorem dX6_cheapest_13 : decode cX6_cheapest 13 = .ok (.getfield 24, 3) := by decide +kernel
theorem dX6_cheapest_16 : decode cX6_cheapest 16 = .ok (.sipush 1000, 3) := by decide +kernel
theorem dX6_cheapest_19 : decode cX6_cheapest 19 = .ok (.invokestatic 64, 3) := by decide +kernel
theorem dX6_cheapest_22 : decode cX6_cheapest 22 = .ok (.aload_n 0, 1) := by decide +kernel
theorem dX6_cheapest_23 : decode cX6_cheapest 23 = .ok (.getfield 24, 3) := by decide +kernel
theorem dX6_cheapest_26 : decode cX6_cheapest 26 = .ok (.iconst 0, 1) := by decide +kernel
theorem dX6_cheapest_27 : decode cX6_cheapest 27 = .ok (.iconst 0, 1) := by decide +kernel
theorem dX6_cheapest_28 : decode cX6_cheapest 28 = .ok (.invokestatic 79, 3) := by decide +kernel
theorem dX6_cheapest_31 : decode cX6_cheapest 31 = .ok (.iconst 0, 1) := by decide +kernel
theorem dX6_cheapest_32 : decode cX6_cheapest 32 = .ok (.istore_n 2, 1) := by decide +kernel
theorem dX6_cheapest_33 : decode cX6_cheapest 33 = .ok (.iload_n 2, 1) := by decide +kernel
theorem dX6_cheapest_34 : decode cX6_cheapest 34 = .ok (.aload_n 0, 1) := by decide +kernel
theorem dX6_cheapest_35 : decode cX6_cheapest 35 = .ok (.getfield 27, 3) := by decide +kernel
theorem dX6_cheapest_38 : decode cX6_cheapest 38 = .ok (.getfield 76, 3) := by decide +kernel
theorem dX6_cheapest_41 : decode cX6_cheapest 41 = .ok (.if_icmp .ge 95, 3) := by decide +kernel
theorem dX6_cheapest_44 : decode cX6_cheapest 44 = .ok (.aload_n 0, 1) := by decide +kernel
theorem dX6_cheapest_45 : decode cX6_cheapest 45 = .ok (.getfield 18, 3) := by decide +kernel
theorem dX6_cheapest_48 : decode cX6_cheapest 48 = .ok (.iload_n 2, 1) := by decide +kernel
theorem dX6_cheapest_49 : decode cX6_cheapest 49 = .ok (.invokestatic 94, 3) := by decide +kernel
theorem dX6_cheapest_52 : decode cX6_cheapest 52 = .ok (.istore_n 3, 1) := by decide +kernel
theorem dX6_cheapest_53 : decode cX6_cheapest 53 = .ok (.iload_n 1, 1) := by decide +kernel
theorem dX6_cheapest_54 : decode cX6_cheapest 54 = .ok (.iconst 1, 1) := by decide +kernel
theorem dX6_cheapest_55 : decode cX6_cheapest 55 = .ok (.isub, 1) := by decide +kernel
theorem dX6_cheapest_56 : decode cX6_cheapest 56 = .ok (.istore 4, 2) := by decide +kernel
theorem dX6_cheapest_58 : decode cX6_cheapest 58 = .ok (.iload 4, 2) := by decide +kernel
theorem dX6_cheapest_60 : decode cX6_cheapest 60 = .ok (.ifCond .lt 31, 3) := by decide +kernel
theorem dX6_cheapest_63 : decode cX6_cheapest 63 = .ok (.aload_n 0, 1) := by decide +kernel
theorem dX6_cheapest_64 : decode cX6_cheapest 64 = .ok (.getfield 24, 3) := by decide +kernel
theorem dX6_cheapest_67 : decode cX6_cheapest 67 = .ok (.iload 4, 2) := by decide +kernel
theorem dX6_cheapest_69 : decode cX6_cheapest 69 = .ok (.invokestatic 94, 3) := by decide +kernel
theorem dX6_cheapest_72 : decode cX6_cheapest 72 = .ok (.sipush 1000, 3) := by decide +kernel
theorem dX6_cheapest_75 : decode cX6_cheapest 75 = .ok (.if_icmp .ge 10, 3) := by decide +kernel
theorem dX6_cheapest_78 : decode cX6_cheapest 78 = .ok (.aload_n 0, 1) := by decide +kernel
theorem dX6_cheapest_79 : decode cX6_cheapest 79 = .ok (.iload_n 3, 1) := by decide +kernel
theorem dX6_cheapest_80 : decode cX6_cheapest 80 = .ok (.iload 4, 2) := by decide +kernel
theorem dX6_cheapest_82 : decode cX6_cheapest 82 = .ok (.invokevirtual 106, 3) := by decide +kernel
theorem dX6_cheapest_85 : decode cX6_cheapest 85 = .ok (.iinc 4 (-1), 3) := by decide +kernel
theorem dX6_cheapest_88 : decode cX6_cheapest 88 = .ok (.goto (-30), 3) := by decide +kernel
theorem dX6_cheapest_91 : decode cX6_cheapest 91 = .ok (.iload_n 2, 1) := by decide +kernel
theorem dX6_cheapest_92 : decode cX6_cheapest 92 = .ok (.iconst 1, 1) := by decide +kernel
theorem dX6_cheapest_93 : decode cX6_cheapest 93 = .ok (.iadd, 1) := by decide +kernel
theorem dX6_cheapest_94 : decode cX6_cheapest 94 = .ok (.aload_n 0, 1) := by decide +kernel
theorem dX6_cheapest_95 : decode cX6_cheapest 95 = .ok (.getfield 27, 3) := by decide +kernel
theorem dX6_cheapest_98 : decode cX6_cheapest 98 = .ok (.getfield 76, 3) := by decide +kernel
theorem dX6_cheapest_101 : decode cX6_cheapest 101 = .ok (.if_icmp .ge 29, 3) := by decide +kernel
theorem dX6_cheapest_104 : decode cX6_cheapest 104 = .ok (.aload_n 0, 1) := by decide +kernel
theorem dX6_cheapest_105 : decode cX6_cheapest 105 = .ok (.getfield 27, 3) := by decide +kernel
theorem dX6_cheapest_108 : decode cX6_cheapest 108 = .ok (.iload_n 3, 1) := by decide +kernel
theorem dX6_cheapest_109 : decode cX6_cheapest 109 = .ok (.aload_n 0, 1) := by decide +kernel
theorem dX6_cheapest_110 : decode cX6_cheapest 110 = .ok (.getfield 18, 3) := by decide +kernel
theorem dX6_cheapest_113 : decode cX6_cheapest 113 = .ok (.iload_n 2, 1) := by decide +kernel
theorem dX6_cheapest_114 : decode cX6_cheapest 114 = .ok (.iconst 1, 1) := by decide +kernel
theorem dX6_cheapest_115 : decode cX6_cheapest 115 = .ok (.iadd, 1) := by decide +kernel
theorem dX6_cheapest_116 : decode cX6_cheapest 116 = .ok (.invokestatic 94, 3) := by decide +kernel
theorem dX6_cheapest_119 : decode cX6_cheapest 119 = .ok (.invokevirtual 110, 3) := by decide +kernel
theorem dX6_cheapest_122 : decode cX6_cheapest 122 = .ok (.ifCond .ne 8, 3) := by decide +kernel
theorem dX6_cheapest_125 : decode cX6_cheapest 125 = .ok (.aload_n 0, 1) := by decide +kernel
theorem dX6_cheapest_126 : decode cX6_cheapest 126 = .ok (.iload_n 1, 1) := by decide +kernel
theorem dX6_cheapest_127 : decode cX6_cheapest 127 = .ok (.invokevirtual 114, 3) := by decide +kernel
theorem dX6_cheapest_130 : decode cX6_cheapest 130 = .ok (.iinc 2 1, 3) := by decide +kernel
theorem dX6_cheapest_133 : decode cX6_cheapest 133 = .ok (.goto (-100), 3) := by decide +kernel
theorem dX6_cheapest_136 : decode cX6_cheapest 136 = .ok (.aload_n 0, 1) := by decide +kernel
theorem dX6_cheapest_137 : decode cX6_cheapest 137 = .ok (.getfield 24, 3) := by decide +kernel
theorem dX6_cheapest_140 : decode cX6_cheapest 140 = .ok (.iload_n 1, 1) := by decide +kernel
theorem dX6_cheapest_141 : decode cX6_cheapest 141 = .ok (.invokestatic 94, 3) := by decide +kernel
theorem dX6_cheapest_144 : decode cX6_cheapest 144 = .ok (.sipush 1000, 3) := by decide +kernel
theorem dX6_cheapest_147 : decode cX6_cheapest 147 = .ok (.if_icmp .ge 14, 3) := by decide +kernel
theorem dX6_cheapest_150 : decode cX6_cheapest 150 = .ok (.aload_n 0, 1) := by decide +kernel
theorem dX6_cheapest_151 : decode cX6_cheapest 151 = .ok (.getfield 24, 3) := by decide +kernel
theorem dX6_cheapest_154 : decode cX6_cheapest 154 = .ok (.iload_n 1, 1) := by decide +kernel
theorem dX6_cheapest_155 : decode cX6_cheapest 155 = .ok (.invokestatic 94, 3) := by decide +kernel
theorem dX6_cheapest_158 : decode cX6_cheapest 158 = .ok (.goto 4, 3) := by decide +kernel
theorem dX6_cheapest_161 : decode cX6_cheapest 161 = .ok (.iconst (-1), 1) := by decide +kernel
theorem dX6_cheapest_162 : decode cX6_cheapest 162 = .ok (.ireturn, 1) := by decide +kernel
theorem dX6_offer_0 : decode cX6_offer 0 = .ok (.iconst 0, 1) := by decide +kernel
theorem dX6_offer_1 : decode cX6_offer 1 = .ok (.istore_n 3, 1) := by decide +kernel
theorem dX6_offer_2 : decode cX6_offer 2 = .ok (.iload_n 3, 1) := by decide +kernel
theorem dX6_offer_3 : decode cX6_offer 3 = .ok (.aload_n 0, 1) := by decide +kernel
theorem dX6_offer_4 : decode cX6_offer 4 = .ok (.getfield 27, 3) := by decide +kernel
theorem dX6_offer_7 : decode cX6_offer 7 = .ok (.getfield 50, 3) := by decide +kernel
theorem dX6_offer_10 : decode cX6_offer 10 = .ok (.if_icmp .ge 93, 3) := by decide +kernel
theorem dX6_offer_13 : decode cX6_offer 13 = .ok (.aload_n 0, 1) := by decide +kernel
theorem dX6_offer_14 : decode cX6_offer 14 = .ok (.getfield 9, 3) := by decide +kernel
theorem dX6_offer_17 : decode cX6_offer 17 = .ok (.iload_n 3, 1) := by decide +kernel
theorem dX6_offer_18 : decode cX6_offer 18 = .ok (.invokestatic 94, 3) := by decide +kernel
theorem dX6_offer_21 : decode cX6_offer 21 = .ok (.istore 4, 2) := by decide +kernel
theorem dX6_offer_23 : decode cX6_offer 23 = .ok (.iload_n 2, 1) := by decide +kernel
theorem dX6_offer_24 : decode cX6_offer 24 = .ok (.iload_n 3, 1) := by decide +kernel
theorem dX6_offer_25 : decode cX6_offer 25 = .ok (.ishr, 1) := by decide +kernel
theorem dX6_offer_26 : decode cX6_offer 26 = .ok (.iconst 1, 1) := by decide +kernel
theorem dX6_offer_27 : decode cX6_offer 27 = .ok (.iand, 1) := by decide +kernel
theorem dX6_offer_28 : decode cX6_offer 28 = .ok (.ifCond .ne 69, 3) := by decide +kernel
theorem dX6_offer_31 : decode cX6_offer 31 = .ok (.iload 4, 2) := by decide +kernel
theorem dX6_offer_33 : decode cX6_offer 33 = .ok (.iconst (-1), 1) := by decide +kernel
theorem dX6_offer_34 : decode cX6_offer 34 = .ok (.if_icmp .eq 9, 3) := by decide +kernel
theorem dX6_offer_37 : decode cX6_offer 37 = .ok (.iload 4, 2) := by decide +kernel
theorem dX6_offer_39 : decode cX6_offer 39 = .ok (.iload_n 1, 1) := by decide +kernel
theorem dX6_offer_40 : decode cX6_offer 40 = .ok (.if_icmp .ne 57, 3) := by decide +kernel
theorem dX6_offer_43 : decode cX6_offer 43 = .ok (.iload_n 2, 1) := by decide +kernel
theorem dX6_offer_44 : decode cX6_offer 44 = .ok (.iconst 1, 1) := by decide +kernel
theorem dX6_offer_45 : decode cX6_offer 45 = .ok (.iload_n 3, 1) := by decide +kernel
theorem dX6_offer_46 : decode cX6_offer 46 = .ok (.ishl, 1) := by decide +kernel
theorem dX6_offer_47 : decode cX6_offer 47 = .ok (.ior, 1) := by decide +kernel
theorem dX6_offer_48 : decode cX6_offer 48 = .ok (.istore 5, 2) := by decide +kernel
theorem dX6_offer_50 : decode cX6_offer 50 = .ok (.aload_n 0, 1) := by decide +kernel
theorem dX6_offer_51 : decode cX6_offer 51 = .ok (.getfield 24, 3) := by decide +kernel
theorem dX6_offer_54 : decode cX6_offer 54 = .ok (.iload_n 2, 1) := by decide +kernel
theorem dX6_offer_55 : decode cX6_offer 55 = .ok (.invokestatic 94, 3) := by decide +kernel
theorem dX6_offer_58 : decode cX6_offer 58 = .ok (.aload_n 0, 1) := by decide +kernel
theorem dX6_offer_59 : decode cX6_offer 59 = .ok (.getfield 15, 3) := by decide +kernel
theorem dX6_offer_62 : decode cX6_offer 62 = .ok (.iload_n 3, 1) := by decide +kernel
theorem dX6_offer_63 : decode cX6_offer 63 = .ok (.bipush 12, 2) := by decide +kernel
theorem dX6_offer_65 : decode cX6_offer 65 = .ok (.imul, 1) := by decide +kernel
theorem dX6_offer_66 : decode cX6_offer 66 = .ok (.iload_n 1, 1) := by decide +kernel
theorem dX6_offer_67 : decode cX6_offer 67 = .ok (.iadd, 1) := by decide +kernel
theorem dX6_offer_68 : decode cX6_offer 68 = .ok (.invokestatic 94, 3) := by decide +kernel
theorem dX6_offer_71 : decode cX6_offer 71 = .ok (.iadd, 1) := by decide +kernel
theorem dX6_offer_72 : decode cX6_offer 72 = .ok (.istore 6, 2) := by decide +kernel
theorem dX6_offer_74 : decode cX6_offer 74 = .ok (.aload_n 0, 1) := by decide +kernel
theorem dX6_offer_75 : decode cX6_offer 75 = .ok (.getfield 24, 3) := by decide +kernel
theorem dX6_offer_78 : decode cX6_offer 78 = .ok (.iload 5, 2) := by decide +kernel
theorem dX6_offer_80 : decode cX6_offer 80 = .ok (.aload_n 0, 1) := by decide +kernel
theorem dX6_offer_81 : decode cX6_offer 81 = .ok (.getfield 24, 3) := by decide +kernel
theorem dX6_offer_84 : decode cX6_offer 84 = .ok (.iload 5, 2) := by decide +kernel
theorem dX6_offer_86 : decode cX6_offer 86 = .ok (.invokestatic 94, 3) := by decide +kernel
theorem dX6_offer_89 : decode cX6_offer 89 = .ok (.iload 6, 2) := by decide +kernel
theorem dX6_offer_91 : decode cX6_offer 91 = .ok (.invokestatic 117, 3) := by decide +kernel
theorem dX6_offer_94 : decode cX6_offer 94 = .ok (.invokestatic 79, 3) := by decide +kernel
theorem dX6_offer_97 : decode cX6_offer 97 = .ok (.iinc 3 1, 3) := by decide +kernel
theorem dX6_offer_100 : decode cX6_offer 100 = .ok (.goto (-98), 3) := by decide +kernel
theorem dX6_offer_103 : decode cX6_offer 103 = .ok (.return_, 1) := by decide +kernel
theorem dX6_dropBroken_0 : decode cX6_dropBroken 0 = .ok (.iconst 0, 1) := by decide +kernel
theorem dX6_dropBroken_1 : decode cX6_dropBroken 1 = .ok (.istore_n 2, 1) := by decide +kernel
theorem dX6_dropBroken_2 : decode cX6_dropBroken 2 = .ok (.iload_n 2, 1) := by decide +kernel
theorem dX6_dropBroken_3 : decode cX6_dropBroken 3 = .ok (.iload_n 1, 1) := by decide +kernel
theorem dX6_dropBroken_4 : decode cX6_dropBroken 4 = .ok (.if_icmp .gt 31, 3) := by decide +kernel
theorem dX6_dropBroken_7 : decode cX6_dropBroken 7 = .ok (.aload_n 0, 1) := by decide +kernel
theorem dX6_dropBroken_8 : decode cX6_dropBroken 8 = .ok (.getfield 21, 3) := by decide +kernel
theorem dX6_dropBroken_11 : decode cX6_dropBroken 11 = .ok (.iload_n 2, 1) := by decide +kernel
theorem dX6_dropBroken_12 : decode cX6_dropBroken 12 = .ok (.invokestatic 94, 3) := by decide +kernel
theorem dX6_dropBroken_15 : decode cX6_dropBroken 15 = .ok (.ifCond .ne 14, 3) := by decide +kernel
theorem dX6_dropBroken_18 : decode cX6_dropBroken 18 = .ok (.aload_n 0, 1) := by decide +kernel
theorem dX6_dropBroken_19 : decode cX6_dropBroken 19 = .ok (.getfield 24, 3) := by decide +kernel
theorem dX6_dropBroken_22 : decode cX6_dropBroken 22 = .ok (.iload_n 2, 1) := by decide +kernel
theorem dX6_dropBroken_23 : decode cX6_dropBroken 23 = .ok (.sipush 1000, 3) := by decide +kernel
theorem dX6_dropBroken_26 : decode cX6_dropBroken 26 = .ok (.invokestatic 79, 3) := by decide +kernel
theorem dX6_dropBroken_29 : decode cX6_dropBroken 29 = .ok (.iinc 2 1, 3) := by decide +kernel
theorem dX6_dropBroken_32 : decode cX6_dropBroken 32 = .ok (.goto (-30), 3) := by decide +kernel
theorem dX6_dropBroken_35 : decode cX6_dropBroken 35 = .ok (.return_, 1) := by decide +kernel
theorem dX7_init_0 : decode cX7_init 0 = .ok (.aload_n 0, 1) := by decide +kernel
theorem dX7_init_1 : decode cX7_init 1 = .ok (.invokespecial 3, 3) := by decide +kernel
theorem dX7_init_4 : decode cX7_init 4 = .ok (.aload_n 0, 1) := by decide +kernel
theorem dX7_init_5 : decode cX7_init 5 = .ok (.bipush 12, 2) := by decide +kernel
theorem dX7_init_7 : decode cX7_init 7 = .ok (.newarray .int, 2) := by decide +kernel
theorem dX7_init_9 : decode cX7_init 9 = .ok (.putfield 9, 3) := by decide +kernel
theorem dX7_init_12 : decode cX7_init 12 = .ok (.aload_n 0, 1) := by decide +kernel
theorem dX7_init_13 : decode cX7_init 13 = .ok (.bipush 12, 2) := by decide +kernel
theorem dX7_init_15 : decode cX7_init 15 = .ok (.newarray .int, 2) := by decide +kernel
theorem dX7_init_17 : decode cX7_init 17 = .ok (.putfield 15, 3) := by decide +kernel
theorem dX7_init_20 : decode cX7_init 20 = .ok (.aload_n 0, 1) := by decide +kernel
theorem dX7_init_21 : decode cX7_init 21 = .ok (.bipush 12, 2) := by decide +kernel
theorem dX7_init_23 : decode cX7_init 23 = .ok (.newarray .int, 2) := by decide +kernel
theorem dX7_init_25 : decode cX7_init 25 = .ok (.putfield 18, 3) := by decide +kernel
theorem dX7_init_28 : decode cX7_init 28 = .ok (.aload_n 0, 1) := by decide +kernel
theorem dX7_init_29 : decode cX7_init 29 = .ok (.bipush 12, 2) := by decide +kernel
theorem dX7_init_31 : decode cX7_init 31 = .ok (.newarray .int, 2) := by decide +kernel
theorem dX7_init_33 : decode cX7_init 33 = .ok (.putfield 21, 3) := by decide +kernel
theorem dX7_init_36 : decode cX7_init 36 = .ok (.aload_n 0, 1) := by decide +kernel
theorem dX7_init_37 : decode cX7_init 37 = .ok (.new 24, 3) := by decide +kernel
theorem dX7_init_40 : decode cX7_init 40 = .ok (.dup, 1) := by decide +kernel
theorem dX7_init_41 : decode cX7_init 41 = .ok (.bipush 12, 2) := by decide +kernel
theorem dX7_init_43 : decode cX7_init 43 = .ok (.invokespecial 26, 3) := by decide +kernel
theorem dX7_init_46 : decode cX7_init 46 = .ok (.putfield 29, 3) := by decide +kernel
theorem dX7_init_49 : decode cX7_init 49 = .ok (.aload_n 0, 1) := by decide +kernel
theorem dX7_init_50 : decode cX7_init 50 = .ok (.aload_n 1, 1) := by decide +kernel
theorem dX7_init_51 : decode cX7_init 51 = .ok (.putfield 33, 3) := by decide +kernel
theorem dX7_init_54 : decode cX7_init 54 = .ok (.aload_n 0, 1) := by decide +kernel
theorem dX7_init_55 : decode cX7_init 55 = .ok (.aload_n 1, 1) := by decide +kernel
theorem dX7_init_56 : decode cX7_init 56 = .ok (.putfield 37, 3) := by decide +kernel
theorem dX7_init_59 : decode cX7_init 59 = .ok (.return_, 1) := by decide +kernel
theorem dX7_finds_0 : decode cX7_finds 0 = .ok (.aload_n 0, 1) := by decide +kernel
theorem dX7_finds_1 : decode cX7_finds 1 = .ok (.aload_n 1, 1) := by decide +kernel
theorem dX7_finds_2 : decode cX7_finds 2 = .ok (.putfield 37, 3) := by decide +kernel
theorem dX7_finds_5 : decode cX7_finds 5 = .ok (.aload_n 0, 1) := by decide +kernel
theorem dX7_finds_6 : decode cX7_finds 6 = .ok (.getfield 33, 3) := by decide +kernel
theorem dX7_finds_9 : decode cX7_finds 9 = .ok (.getfield 40, 3) := by decide +kernel
theorem dX7_finds_12 : decode cX7_finds 12 = .ok (.aload_n 0, 1) := by decide +kernel
theorem dX7_finds_13 : decode cX7_finds 13 = .ok (.getfield 37, 3) := by decide +kernel
theorem dX7_finds_16 : decode cX7_finds 16 = .ok (.getfield 40, 3) := by decide +kernel
theorem dX7_finds_19 : decode cX7_finds 19 = .ok (.if_icmp .eq 5, 3) := by decide +kernel
theorem dX7_finds_22 : decode cX7_finds 22 = .ok (.iconst 0, 1) := by decide +kernel
theorem dX7_finds_23 : decode cX7_finds 23 = .ok (.ireturn, 1) := by decide +kernel
theorem dX7_finds_24 : decode cX7_finds 24 = .ok (.aload_n 0, 1) := by decide +kernel
theorem dX7_finds_25 : decode cX7_finds 25 = .ok (.aload_n 0, 1) := by decide +kernel
theorem dX7_finds_26 : decode cX7_finds 26 = .ok (.getfield 33, 3) := by decide +kernel
theorem dX7_finds_29 : decode cX7_finds 29 = .ok (.aload_n 0, 1) := by decide +kernel
theorem dX7_finds_30 : decode cX7_finds 30 = .ok (.getfield 15, 3) := by decide +kernel
theorem dX7_finds_33 : decode cX7_finds 33 = .ok (.invokevirtual 46, 3) := by decide +kernel
theorem dX7_finds_36 : decode cX7_finds 36 = .ok (.aload_n 0, 1) := by decide +kernel
theorem dX7_finds_37 : decode cX7_finds 37 = .ok (.aload_n 0, 1) := by decide +kernel
theorem dX7_finds_38 : decode cX7_finds 38 = .ok (.getfield 37, 3) := by decide +kernel
theorem dX7_finds_41 : decode cX7_finds 41 = .ok (.aload_n 0, 1) := by decide +kernel
theorem dX7_finds_42 : decode cX7_finds 42 = .ok (.getfield 18, 3) := by decide +kernel
theorem dX7_finds_45 : decode cX7_finds 45 = .ok (.invokevirtual 46, 3) := by decide +kernel
theorem dX7_finds_48 : decode cX7_finds 48 = .ok (.aload_n 0, 1) := by decide +kernel
theorem dX7_finds_49 : decode cX7_finds 49 = .ok (.invokevirtual 50, 3) := by decide +kernel
theorem dX7_finds_52 : decode cX7_finds 52 = .ok (.ifCond .ne 5, 3) := by decide +kernel
theorem dX7_finds_55 : decode cX7_finds 55 = .ok (.iconst 0, 1) := by decide +kernel
theorem dX7_finds_56 : decode cX7_finds 56 = .ok (.ireturn, 1) := by decide +kernel
theorem dX7_finds_57 : decode cX7_finds 57 = .ok (.aload_n 0, 1) := by decide +kernel
theorem dX7_finds_58 : decode cX7_finds 58 = .ok (.iconst 0, 1) := by decide +kernel
theorem dX7_finds_59 : decode cX7_finds 59 = .ok (.putfield 54, 3) := by decide +kernel
theorem dX7_finds_62 : decode cX7_finds 62 = .ok (.aload_n 0, 1) := by decide +kernel
theorem dX7_finds_63 : decode cX7_finds 63 = .ok (.getfield 9, 3) := by decide +kernel
theorem dX7_finds_66 : decode cX7_finds 66 = .ok (.iconst (-1), 1) := by decide +kernel
theorem dX7_finds_67 : decode cX7_finds 67 = .ok (.invokestatic 57, 3) := by decide +kernel
theorem dX7_finds_70 : decode cX7_finds 70 = .ok (.aload_n 0, 1) := by decide +kernel
theorem dX7_finds_71 : decode cX7_finds 71 = .ok (.iconst 0, 1) := by decide +kernel
theorem dX7_finds_72 : decode cX7_finds 72 = .ok (.invokevirtual 61, 3) := by decide +kernel
theorem dX7_finds_75 : decode cX7_finds 75 = .ok (.ireturn, 1) := by decide +kernel
theorem dX7_tint_0 : decode cX7_tint 0 = .ok (.aload_n 0, 1) := by decide +kernel
theorem dX7_tint_1 : decode cX7_tint 1 = .ok (.getfield 29, 3) := by decide +kernel
theorem dX7_tint_4 : decode cX7_tint 4 = .ok (.aload_n 1, 1) := by decide +kernel
theorem dX7_tint_5 : decode cX7_tint 5 = .ok (.getfield 65, 3) := by decide +kernel
theorem dX7_tint_8 : decode cX7_tint 8 = .ok (.aload_n 1, 1) := by decide +kernel
theorem dX7_tint_9 : decode cX7_tint 9 = .ok (.getfield 40, 3) := by decide +kernel
theorem dX7_tint_12 : decode cX7_tint 12 = .ok (.invokevirtual 68, 3) := by decide +kernel
theorem dX7_tint_15 : decode cX7_tint 15 = .ok (.iconst 0, 1) := by decide +kernel
theorem dX7_tint_16 : decode cX7_tint 16 = .ok (.istore_n 3, 1) := by decide +kernel
theorem dX7_tint_17 : decode cX7_tint 17 = .ok (.iload_n 3, 1) := by decide +kernel
theorem dX7_tint_18 : decode cX7_tint 18 = .ok (.aload_n 1, 1) := by decide +kernel
theorem dX7_tint_19 : decode cX7_tint 19 = .ok (.getfield 40, 3) := by decide +kernel
theorem dX7_tint_22 : decode cX7_tint 22 = .ok (.if_icmp .ge 38, 3) := by decide +kernel
theorem dX7_tint_25 : decode cX7_tint 25 = .ok (.aload_n 2, 1) := by decide +kernel
theorem dX7_tint_26 : decode cX7_tint 26 = .ok (.iload_n 3, 1) := by decide +kernel
theorem dX7_tint_27 : decode cX7_tint 27 = .ok (.aload_n 0, 1) := by decide +kernel
theorem dX7_tint_28 : decode cX7_tint 28 = .ok (.getfield 29, 3) := by decide +kernel
theorem dX7_tint_31 : decode cX7_tint 31 = .ok (.getfield 71, 3) := by decide +kernel
theorem dX7_tint_34 : decode cX7_tint 34 = .ok (.iload_n 3, 1) := by decide +kernel
theorem dX7_tint_35 : decode cX7_tint 35 = .ok (.invokestatic 74, 3) := by decide +kernel
theorem dX7_tint_38 : decode cX7_tint 38 = .ok (.sipush 128, 3) := by decide +kernel
theorem dX7_tint_41 : decode cX7_tint 41 = .ok (.imul, 1) := by decide +kernel
theorem dX7_tint_42 : decode cX7_tint 42 = .ok (.aload_n 1, 1) := by decide +kernel
theorem dX7_tint_43 : decode cX7_tint 43 = .ok (.getfield 78, 3) := by decide +kernel
theorem dX7_tint_46 : decode cX7_tint 46 = .ok (.iload_n 3, 1) := by decide +kernel
theorem dX7_tint_47 : decode cX7_tint 47 = .ok (.invokestatic 74, 3) := by decide +kernel
theorem dX7_tint_50 : decode cX7_tint 50 = .ok (.iadd, 1) := by decide +kernel
theorem dX7_tint_51 : decode cX7_tint 51 = .ok (.invokestatic 81, 3) := by decide +kernel
theorem dX7_tint_54 : decode cX7_tint 54 = .ok (.iinc 3 1, 3) := by decide +kernel
theorem dX7_tint_57 : decode cX7_tint 57 = .ok (.goto (-40), 3) := by decide +kernel
theorem dX7_tint_60 : decode cX7_tint 60 = .ok (.iconst 0, 1) := by decide +kernel
theorem dX7_tint_61 : decode cX7_tint 61 = .ok (.istore_n 3, 1) := by decide +kernel
theorem dX7_tint_62 : decode cX7_tint 62 = .ok (.iload_n 3, 1) := by decide +kernel
theorem dX7_tint_63 : decode cX7_tint 63 = .ok (.aload_n 1, 1) := by decide +kernel
theorem dX7_tint_64 : decode cX7_tint 64 = .ok (.getfield 40, 3) := by decide +kernel
theorem dX7_tint_67 : decode cX7_tint 67 = .ok (.if_icmp .ge 51, 3) := by decide +kernel
theorem dX7_tint_70 : decode cX7_tint 70 = .ok (.iconst 0, 1) := by decide +kernel
theorem dX7_tint_71 : decode cX7_tint 71 = .ok (.istore 4, 2) := by decide +kernel
theorem dX7_tint_73 : decode cX7_tint 73 = .ok (.iload 4, 2) := by decide +kernel
theorem dX7_tint_75 : decode cX7_tint 75 = .ok (.aload_n 1, 1) := by decide +kernel
theorem dX7_tint_76 : decode cX7_tint 76 = .ok (.getfield 40, 3) := by decide +kernel
theorem dX7_tint_79 : decode cX7_tint 79 = .ok (.if_icmp .ge 25, 3) := by decide +kernel
theorem dX7_tint_82 : decode cX7_tint 82 = .ok (.aload_n 0, 1) := by decide +kernel
theorem dX7_tint_83 : decode cX7_tint 83 = .ok (.getfield 21, 3) := by decide +kernel
theorem dX7_tint_86 : decode cX7_tint 86 = .ok (.iload 4, 2) := by decide +kernel
theorem dX7_tint_88 : decode cX7_tint 88 = .ok (.aload_n 1, 1) := by decide +kernel
theorem dX7_tint_89 : decode cX7_tint 89 = .ok (.aload_n 2, 1) := by decide +kernel
theorem dX7_tint_90 : decode cX7_tint 90 = .ok (.iload 4, 2) := by decide +kernel
theorem dX7_tint_92 : decode cX7_tint 92 = .ok (.invokestatic 85, 3) := by decide +kernel
theorem dX7_tint_95 : decode cX7_tint 95 = .ok (.invokestatic 81, 3) := by decide +kernel
theorem dX7_tint_98 : decode cX7_tint 98 = .ok (.iinc 4 1, 3) := by decide +kernel
theorem dX7_tint_101 : decode cX7_tint 101 = .ok (.goto (-28), 3) := by decide +kernel
theorem dX7_tint_104 : decode cX7_tint 104 = .ok (.aload_n 0, 1) := by decide +kernel
theorem dX7_tint_105 : decode cX7_tint 105 = .ok (.getfield 21, 3) := by decide +kernel
theorem dX7_tint_108 : decode cX7_tint 108 = .ok (.aload_n 2, 1) := by decide +kernel
theorem dX7_tint_109 : decode cX7_tint 109 = .ok (.invokestatic 89, 3) := by decide +kernel
theorem dX7_tint_112 : decode cX7_tint 112 = .ok (.iinc 3 1, 3) := by decide +kernel
theorem dX7_tint_115 : decode cX7_tint 115 = .ok (.goto (-53), 3) := by decide +kernel
theorem dX7_tint_118 : decode cX7_tint 118 = .ok (.return_, 1) := by decide +kernel
theorem dX7_mixed_0 : decode cX7_mixed 0 = .ok (.aload_n 1, 1) := by decide +kernel
theorem dX7_mixed_1 : decode cX7_mixed 1 = .ok (.iload_n 2, 1) := by decide +kernel
theorem dX7_mixed_2 : decode cX7_mixed 2 = .ok (.invokestatic 74, 3) := by decide +kernel
theorem dX7_mixed_5 : decode cX7_mixed 5 = .ok (.invokestatic 93, 3) := by decide +kernel
theorem dX7_mixed_8 : decode cX7_mixed 8 = .ok (.bipush 31, 2) := by decide +kernel
theorem dX7_mixed_10 : decode cX7_mixed 10 = .ok (.imul, 1) := by decide +kernel
theorem dX7_mixed_11 : decode cX7_mixed 11 = .ok (.aload_n 1, 1) := by decide +kernel
theorem dX7_mixed_12 : decode cX7_mixed 12 = .ok (.aload_n 0, 1) := by decide +kernel
theorem dX7_mixed_13 : decode cX7_mixed 13 = .ok (.getfield 65, 3) := by decide +kernel
theorem dX7_mixed_16 : decode cX7_mixed 16 = .ok (.iload_n 2, 1) := by decide +kernel
theorem dX7_mixed_17 : decode cX7_mixed 17 = .ok (.invokestatic 74, 3) := by decide +kernel
theorem dX7_mixed_20 : decode cX7_mixed 20 = .ok (.invokestatic 74, 3) := by decide +kernel
theorem dX7_mixed_23 : decode cX7_mixed 23 = .ok (.invokestatic 93, 3) := by decide +kernel
theorem dX7_mixed_26 : decode cX7_mixed 26 = .ok (.bipush 18, 2) := by decide +kernel
theorem dX7_mixed_28 : decode cX7_mixed 28 = .ok (.imul, 1) := by decide +kernel
theorem dX7_mixed_29 : decode cX7_mixed 29 = .ok (.iadd, 1) := by decide +kernel
theorem dX7_mixed_30 : decode cX7_mixed 30 = .ok (.istore_n 3, 1) := by decide +kernel
theorem dX7_mixed_31 : decode cX7_mixed 31 = .ok (.aload_n 0, 1) := by decide +kernel
theorem dX7_mixed_32 : decode cX7_mixed 32 = .ok (.getfield 97, 3) := by decide +kernel
theorem dX7_mixed_35 : decode cX7_mixed 35 = .ok (.iload_n 2, 1) := by decide +kernel
theorem dX7_mixed_36 : decode cX7_mixed 36 = .ok (.invokestatic 74, 3) := by decide +kernel
theorem dX7_mixed_39 : decode cX7_mixed 39 = .ok (.istore 4, 2) := by decide +kernel
theorem dX7_mixed_41 : decode cX7_mixed 41 = .ok (.iconst 0, 1) := by decide +kernel
theorem dX7_mixed_42 : decode cX7_mixed 42 = .ok (.istore 5, 2) := by decide +kernel
theorem dX7_mixed_44 : decode cX7_mixed 44 = .ok (.iload 4, 2) := by decide +kernel
theorem dX7_mixed_46 : decode cX7_mixed 46 = .ok (.ifCond .eq 44, 3) := by decide +kernel
theorem dX7_mixed_49 : decode cX7_mixed 49 = .ok (.iload 5, 2) := by decide +kernel
theorem dX7_mixed_51 : decode cX7_mixed 51 = .ok (.aload_n 0, 1) := by decide +kernel
theorem dX7_mixed_52 : decode cX7_mixed 52 = .ok (.getfield 40, 3) := by decide +kernel
theorem dX7_mixed_55 : decode cX7_mixed 55 = .ok (.if_icmp .ge 35, 3) := by decide +kernel
theorem dX7_mixed_58 : decode cX7_mixed 58 = .ok (.iload_n 3, 1) := by decide +kernel
theorem dX7_mixed_59 : decode cX7_mixed 59 = .ok (.iload 4, 2) := by decide +kernel
theorem dX7_mixed_61 : decode cX7_mixed 61 = .ok (.iload 5, 2) := by decide +kernel
theorem dX7_mixed_63 : decode cX7_mixed 63 = .ok (.ishr, 1) := by decide +kernel
theorem dX7_mixed_64 : decode cX7_mixed 64 = .ok (.iconst 1, 1) := by decide +kernel
theorem dX7_mixed_65 : decode cX7_mixed 65 = .ok (.iand, 1) := by decide +kernel
theorem dX7_mixed_66 : decode cX7_mixed 66 = .ok (.ifCond .eq 15, 3) := by decide +kernel
theorem dX7_mixed_69 : decode cX7_mixed 69 = .ok (.aload_n 1, 1) := by decide +kernel
theorem dX7_mixed_70 : decode cX7_mixed 70 = .ok (.iload 5, 2) := by decide +kernel
theorem dX7_mixed_72 : decode cX7_mixed 72 = .ok (.invokestatic 74, 3) := by decide +kernel
theorem dX7_mixed_75 : decode cX7_mixed 75 = .ok (.invokestatic 93, 3) := by decide +kernel
theorem dX7_mixed_78 : decode cX7_mixed 78 = .ok (.goto 4, 3) := by decide +kernel
theorem dX7_mixed_81 : decode cX7_mixed 81 = .ok (.iconst 0, 1) := by decide +kernel
theorem dX7_mixed_82 : decode cX7_mixed 82 = .ok (.iadd, 1) := by decide +kernel
theorem dX7_mixed_83 : decode cX7_mixed 83 = .ok (.istore_n 3, 1) := by decide +kernel
theorem dX7_mixed_84 : decode cX7_mixed 84 = .ok (.iinc 5 1, 3) := by decide +kernel
theorem dX7_mixed_87 : decode cX7_mixed 87 = .ok (.goto (-43), 3) := by decide +kernel
theorem dX7_mixed_90 : decode cX7_mixed 90 = .ok (.iload_n 3, 1) := by decide +kernel
theorem dX7_mixed_91 : decode cX7_mixed 91 = .ok (.ireturn, 1) := by decide +kernel
theorem dX7_spread_0 : decode cX7_spread 0 = .ok (.iload_n 0, 1) := by decide +kernel
theorem dX7_spread_1 : decode cX7_spread 1 = .ok (.iload_n 0, 1) := by decide +kernel
theorem dX7_spread_2 : decode cX7_spread 2 = .ok (.bipush 15, 2) := by decide +kernel
theorem dX7_spread_4 : decode cX7_spread 4 = .ok (.iushr, 1) := by decide +kernel
theorem dX7_spread_5 : decode cX7_spread 5 = .ok (.ixor, 1) := by decide +kernel
theorem dX7_spread_6 : decode cX7_spread 6 = .ok (.ldc 100, 2) := by decide +kernel
theorem dX7_spread_8 : decode cX7_spread 8 = .ok (.imul, 1) := by decide +kernel
theorem dX7_spread_9 : decode cX7_spread 9 = .ok (.iconst 5, 1) := by decide +kernel
theorem dX7_spread_10 : decode cX7_spread 10 = .ok (.iadd, 1) := by decide +kernel
theorem dX7_spread_11 : decode cX7_spread 11 = .ok (.ireturn, 1) := by decide +kernel
theorem dX7_haveSameTints_0 : decode cX7_haveSameTints 0 = .ok (.iconst 0, 1) := by decide +kernel
theorem dX7_haveSameTints_1 : decode cX7_haveSameTints 1 = .ok (.istore_n 1, 1) := by decide +kernel
theorem dX7_haveSameTints_2 : decode cX7_haveSameTints 2 = .ok (.iload_n 1, 1) := by decide +kernel
theorem dX7_haveSameTints_3 : decode cX7_haveSameTints 3 = .ok (.aload_n 0, 1) := by decide +kernel
theorem dX7_haveSameTints_4 : decode cX7_haveSameTints 4 = .ok (.getfield 33, 3) := by decide +kernel
theorem dX7_haveSameTints_7 : decode cX7_haveSameTints 7 = .ok (.getfield 40, 3) := by decide +kernel
theorem dX7_haveSameTints_10 : decode cX7_haveSameTints 10 = .ok (.if_icmp .ge 90, 3) := by decide +kernel
theorem dX7_haveSameTints_13 : decode cX7_haveSameTints 13 = .ok (.iconst 0, 1) := by decide +kernel
theorem dX7_haveSameTints_14 : decode cX7_haveSameTints 14 = .ok (.istore_n 2, 1) := by decide +kernel
theorem dX7_haveSameTints_15 : decode cX7_haveSameTints 15 = .ok (.iconst 0, 1) := by decide +kernel
theorem dX7_haveSameTints_16 : decode cX7_haveSameTints 16 = .ok (.istore_n 3, 1) := by decide +kernel
theorem dX7_haveSameTints_17 : decode cX7_haveSameTints 17 = .ok (.iload_n 3, 1) := by decide +kernel
theorem dX7_haveSameTints_18 : decode cX7_haveSameTints 18 = .ok (.aload_n 0, 1) := by decide +kernel
theorem dX7_haveSameTints_19 : decode cX7_haveSameTints 19 = .ok (.getfield 33, 3) := by decide +kernel
theorem dX7_haveSameTints_22 : decode cX7_haveSameTints 22 = .ok (.getfield 40, 3) := by decide +kernel
theorem dX7_haveSameTints_25 : decode cX7_haveSameTints 25 = .ok (.if_icmp .ge 63, 3) := by decide +kernel
theorem dX7_haveSameTints_28 : decode cX7_haveSameTints 28 = .ok (.iload_n 2, 1) := by decide +kernel
theorem dX7_haveSameTints_29 : decode cX7_haveSameTints 29 = .ok (.aload_n 0, 1) := by decide +kernel
theorem dX7_haveSameTints_30 : decode cX7_haveSameTints 30 = .ok (.getfield 15, 3) := by decide +kernel
theorem dX7_haveSameTints_33 : decode cX7_haveSameTints 33 = .ok (.iload_n 3, 1) := by decide +kernel
theorem dX7_haveSameTints_34 : decode cX7_haveSameTints 34 = .ok (.invokestatic 74, 3) := by decide +kernel
theorem dX7_haveSameTints_37 : decode cX7_haveSameTints 37 = .ok (.aload_n 0, 1) := by decide +kernel
theorem dX7_haveSameTints_38 : decode cX7_haveSameTints 38 = .ok (.getfield 15, 3) := by decide +kernel
theorem dX7_haveSameTints_41 : decode cX7_haveSameTints 41 = .ok (.iload_n 1, 1) := by decide +kernel
theorem dX7_haveSameTints_42 : decode cX7_haveSameTints 42 = .ok (.invokestatic 74, 3) := by decide +kernel
theorem dX7_haveSameTints_45 : decode cX7_haveSameTints 45 = .ok (.if_icmp .ne 7, 3) := by decide +kernel
theorem dX7_haveSameTints_48 : decode cX7_haveSameTints 48 = .ok (.iconst 1, 1) := by decide +kernel
theorem dX7_haveSameTints_49 : decode cX7_haveSameTints 49 = .ok (.goto 4, 3) := by decide +kernel
theorem dX7_haveSameTints_52 : decode cX7_haveSameTints 52 = .ok (.iconst 0, 1) := by decide +kernel
theorem dX7_haveSameTints_53 : decode cX7_haveSameTints 53 = .ok (.iadd, 1) := by decide +kernel
theorem dX7_haveSameTints_54 : decode cX7_haveSameTints 54 = .ok (.istore_n 2, 1) := by decide +kernel
theorem dX7_haveSameTints_55 : decode cX7_haveSameTints 55 = .ok (.iload_n 2, 1) := by decide +kernel
theorem dX7_haveSameTints_56 : decode cX7_haveSameTints 56 = .ok (.aload_n 0, 1) := by decide +kernel
theorem dX7_haveSameTints_57 : decode cX7_haveSameTints 57 = .ok (.getfield 18, 3) := by decide +kernel
theorem dX7_haveSameTints_60 : decode cX7_haveSameTints 60 = .ok (.iload_n 3, 1) := by decide +kernel
theorem dX7_haveSameTints_61 : decode cX7_haveSameTints 61 = .ok (.invokestatic 74, 3) := by decide +kernel
theorem dX7_haveSameTints_64 : decode cX7_haveSameTints 64 = .ok (.aload_n 0, 1) := by decide +kernel
theorem dX7_haveSameTints_65 : decode cX7_haveSameTints 65 = .ok (.getfield 15, 3) := by decide +kernel
theorem dX7_haveSameTints_68 : decode cX7_haveSameTints 68 = .ok (.iload_n 1, 1) := by decide +kernel
theorem dX7_haveSameTints_69 : decode cX7_haveSameTints 69 = .ok (.invokestatic 74, 3) := by decide +kernel
theorem dX7_haveSameTints_72 : decode cX7_haveSameTints 72 = .ok (.if_icmp .ne 7, 3) := by decide +kernel
theorem dX7_haveSameTints_75 : decode cX7_haveSameTints 75 = .ok (.iconst 1, 1) := by decide +kernel
theorem dX7_haveSameTints_76 : decode cX7_haveSameTints 76 = .ok (.goto 4, 3) := by decide +kernel
theorem dX7_haveSameTints_79 : decode cX7_haveSameTints 79 = .ok (.iconst 0, 1) := by decide +kernel
theorem dX7_haveSameTints_80 : decode cX7_haveSameTints 80 = .ok (.isub, 1) := by decide +kernel
theorem dX7_haveSameTints_81 : decode cX7_haveSameTints 81 = .ok (.istore_n 2, 1) := by decide +kernel
theorem dX7_haveSameTints_82 : decode cX7_haveSameTints 82 = .ok (.iinc 3 1, 3) := by decide +kernel
theorem dX7_haveSameTints_85 : decode cX7_haveSameTints 85 = .ok (.goto (-68), 3) := by decide +kernel
theorem dX7_haveSameTints_88 : decode cX7_haveSameTints 88 = .ok (.iload_n 2, 1) := by decide +kernel
theorem dX7_haveSameTints_89 : decode cX7_haveSameTints 89 = .ok (.ifCond .eq 5, 3) := by decide +kernel
theorem dX7_haveSameTints_92 : decode cX7_haveSameTints 92 = .ok (.iconst 0, 1) := by decide +kernel
theorem dX7_haveSameTints_93 : decode cX7_haveSameTints 93 = .ok (.ireturn, 1) := by decide +kernel
theorem dX7_haveSameTints_94 : decode cX7_haveSameTints 94 = .ok (.iinc 1 1, 3) := by decide +kernel
theorem dX7_haveSameTints_97 : decode cX7_haveSameTints 97 = .ok (.goto (-95), 3) := by decide +kernel
theorem dX7_haveSameTints_100 : decode cX7_haveSameTints 100 = .ok (.iconst 1, 1) := by decide +kernel
theorem dX7_haveSameTints_101 : decode cX7_haveSameTints 101 = .ok (.ireturn, 1) := by decide +kernel
theorem dX7_namesFrom_0 : decode cX7_namesFrom 0 = .ok (.iload_n 1, 1) := by decide +kernel
theorem dX7_namesFrom_1 : decode cX7_namesFrom 1 = .ok (.ifCond .lt 20, 3) := by decide +kernel
theorem dX7_namesFrom_4 : decode cX7_namesFrom 4 = .ok (.iload_n 1, 1) := by decide +kernel
theorem dX7_namesFrom_5 : decode cX7_namesFrom 5 = .ok (.aload_n 0, 1) := by decide +kernel
theorem dX7_namesFrom_6 : decode cX7_namesFrom 6 = .ok (.getfield 33, 3) := by decide +kernel
theorem dX7_namesFrom_9 : decode cX7_namesFrom 9 = .ok (.getfield 40, 3) := by decide +kernel
theorem dX7_namesFrom_12 : decode cX7_namesFrom 12 = .ok (.if_icmp .ge 9, 3) := by decide +kernel
theorem dX7_namesFrom_15 : decode cX7_namesFrom 15 = .ok (.iload_n 1, 1) := by decide +kernel
theorem dX7_namesFrom_16 : decode cX7_namesFrom 16 = .ok (.bipush 12, 2) := by decide +kernel
theorem dX7_namesFrom_18 : decode cX7_namesFrom 18 = .ok (.if_icmp .lt 5, 3) := by decide +kernel
theorem dX7_namesFrom_21 : decode cX7_namesFrom 21 = .ok (.iconst 1, 1) := by decide +kernel
theorem dX7_namesFrom_22 : decode cX7_namesFrom 22 = .ok (.ireturn, 1) := by decide +kernel
theorem dX7_namesFrom_23 : decode cX7_namesFrom 23 = .ok (.aload_n 0, 1) := by decide +kernel
theorem dX7_namesFrom_24 : decode cX7_namesFrom 24 = .ok (.getfield 9, 3) := by decide +kernel
theorem dX7_namesFrom_27 : decode cX7_namesFrom 27 = .ok (.iload_n 1, 1) := by decide +kernel
theorem dX7_namesFrom_28 : decode cX7_namesFrom 28 = .ok (.invokestatic 74, 3) := by decide +kernel
theorem dX7_namesFrom_31 : decode cX7_namesFrom 31 = .ok (.iconst (-1), 1) := by decide +kernel
theorem dX7_namesFrom_32 : decode cX7_namesFrom 32 = .ok (.if_icmp .eq 11, 3) := by decide +kernel
theorem dX7_namesFrom_35 : decode cX7_namesFrom 35 = .ok (.aload_n 0, 1) := by decide +kernel
theorem dX7_namesFrom_36 : decode cX7_namesFrom 36 = .ok (.iload_n 1, 1) := by decide +kernel
theorem dX7_namesFrom_37 : decode cX7_namesFrom 37 = .ok (.iconst 1, 1) := by decide +kernel
theorem dX7_namesFrom_38 : decode cX7_namesFrom 38 = .ok (.iadd, 1) := by decide +kernel
theorem dX7_namesFrom_39 : decode cX7_namesFrom 39 = .ok (.invokevirtual 61, 3) := by decide +kernel
theorem dX7_namesFrom_42 : decode cX7_namesFrom 42 = .ok (.ireturn, 1) := by decide +kernel
theorem dX7_namesFrom_43 : decode cX7_namesFrom 43 = .ok (.iconst 0, 1) := by decide +kernel
theorem dX7_namesFrom_44 : decode cX7_namesFrom 44 = .ok (.istore_n 2, 1) := by decide +kernel
theorem dX7_namesFrom_45 : decode cX7_namesFrom 45 = .ok (.iload_n 2, 1) := by decide +kernel
theorem dX7_namesFrom_46 : decode cX7_namesFrom 46 = .ok (.aload_n 0, 1) := by decide +kernel
theorem dX7_namesFrom_47 : decode cX7_namesFrom 47 = .ok (.getfield 37, 3) := by decide +kernel
theorem dX7_namesFrom_50 : decode cX7_namesFrom 50 = .ok (.getfield 40, 3) := by decide +kernel
theorem dX7_namesFrom_53 : decode cX7_namesFrom 53 = .ok (.if_icmp .ge 31, 3) := by decide +kernel
theorem dX7_namesFrom_56 : decode cX7_namesFrom 56 = .ok (.aload_n 0, 1) := by decide +kernel
theorem dX7_namesFrom_57 : decode cX7_namesFrom 57 = .ok (.getfield 54, 3) := by decide +kernel
theorem dX7_namesFrom_60 : decode cX7_namesFrom 60 = .ok (.iload_n 2, 1) := by decide +kernel
theorem dX7_namesFrom_61 : decode cX7_namesFrom 61 = .ok (.ishr, 1) := by decide +kernel
theorem dX7_namesFrom_62 : decode cX7_namesFrom 62 = .ok (.iconst 1, 1) := by decide +kernel
theorem dX7_namesFrom_63 : decode cX7_namesFrom 63 = .ok (.iand, 1) := by decide +kernel
theorem dX7_namesFrom_64 : decode cX7_namesFrom 64 = .ok (.ifCond .ne 14, 3) := by decide +kernel
theorem dX7_namesFrom_67 : decode cX7_namesFrom 67 = .ok (.aload_n 0, 1) := by decide +kernel
theorem dX7_namesFrom_68 : decode cX7_namesFrom 68 = .ok (.iload_n 1, 1) := by decide +kernel
theorem dX7_namesFrom_69 : decode cX7_namesFrom 69 = .ok (.iload_n 2, 1) := by decide +kernel
theorem dX7_namesFrom_70 : decode cX7_namesFrom 70 = .ok (.invokevirtual 101, 3) := by decide +kernel
theorem dX7_namesFrom_73 : decode cX7_namesFrom 73 = .ok (.ifCond .eq 5, 3) := by decide +kernel
theorem dX7_namesFrom_76 : decode cX7_namesFrom 76 = .ok (.iconst 1, 1) := by decide +kernel
theorem dX7_namesFrom_77 : decode cX7_namesFrom 77 = .ok (.ireturn, 1) := by decide +kernel
theorem dX7_namesFrom_78 : decode cX7_namesFrom 78 = .ok (.iinc 2 1, 3) := by decide +kernel
theorem dX7_namesFrom_81 : decode cX7_namesFrom 81 = .ok (.goto (-36), 3) := by decide +kernel
theorem dX7_namesFrom_84 : decode cX7_namesFrom 84 = .ok (.iconst 0, 1) := by decide +kernel
theorem dX7_namesFrom_85 : decode cX7_namesFrom 85 = .ok (.ireturn, 1) := by decide +kernel
theorem dX7_namesWith_0 : decode cX7_namesWith 0 = .ok (.aload_n 0, 1) := by decide +kernel
theorem dX7_namesWith_1 : decode cX7_namesWith 1 = .ok (.iload_n 1, 1) := by decide +kernel
theorem dX7_namesWith_2 : decode cX7_namesWith 2 = .ok (.iload_n 2, 1) := by decide +kernel
theorem dX7_namesWith_3 : decode cX7_namesWith 3 = .ok (.invokevirtual 105, 3) := by decide +kernel
theorem dX7_namesWith_6 : decode cX7_namesWith 6 = .ok (.ifCond .eq 15, 3) := by decide +kernel
theorem dX7_namesWith_9 : decode cX7_namesWith 9 = .ok (.aload_n 0, 1) := by decide +kernel
theorem dX7_namesWith_10 : decode cX7_namesWith 10 = .ok (.iload_n 1, 1) := by decide +kernel
theorem dX7_namesWith_11 : decode cX7_namesWith 11 = .ok (.iconst 1, 1) := by decide +kernel
theorem dX7_namesWith_12 : decode cX7_namesWith 12 = .ok (.iadd, 1) := by decide +kernel
theorem dX7_namesWith_13 : decode cX7_namesWith 13 = .ok (.invokevirtual 61, 3) := by decide +kernel
theorem dX7_namesWith_16 : decode cX7_namesWith 16 = .ok (.ifCond .eq 5, 3) := by decide +kernel
theorem dX7_namesWith_19 : decode cX7_namesWith 19 = .ok (.iconst 1, 1) := by decide +kernel
theorem dX7_namesWith_20 : decode cX7_namesWith 20 = .ok (.ireturn, 1) := by decide +kernel
theorem dX7_namesWith_21 : decode cX7_namesWith 21 = .ok (.aload_n 0, 1) := by decide +kernel
theorem dX7_namesWith_22 : decode cX7_namesWith 22 = .ok (.iload_n 1, 1) := by decide +kernel
theorem dX7_namesWith_23 : decode cX7_namesWith 23 = .ok (.invokevirtual 108, 3) := by decide +kernel
theorem dX7_namesWith_26 : decode cX7_namesWith 26 = .ok (.iconst 0, 1) := by decide +kernel
theorem dX7_namesWith_27 : decode cX7_namesWith 27 = .ok (.ireturn, 1) := by decide +kernel
theorem dX7_givesCycle_0 : decode cX7_givesCycle 0 = .ok (.iload_n 1, 1) := by decide +kernel
theorem dX7_givesCycle_1 : decode cX7_givesCycle 1 = .ok (.istore_n 3, 1) := by decide +kernel
theorem dX7_givesCycle_2 : decode cX7_givesCycle 2 = .ok (.iload_n 2, 1) := by decide +kernel
theorem dX7_givesCycle_3 : decode cX7_givesCycle 3 = .ok (.istore 4, 2) := by decide +kernel
theorem dX7_givesCycle_5 : decode cX7_givesCycle 5 = .ok (.iconst 0, 1) := by decide +kernel
theorem dX7_givesCycle_6 : decode cX7_givesCycle 6 = .ok (.istore 5, 2) := by decide +kernel
theorem dX7_givesCycle_8 : decode cX7_givesCycle 8 = .ok (.iload 5, 2) := by decide +kernel
theorem dX7_givesCycle_10 : decode cX7_givesCycle 10 = .ok (.aload_n 0, 1) := by decide +kernel
theorem dX7_givesCycle_11 : decode cX7_givesCycle 11 = .ok (.getfield 33, 3) := by decide +kernel
theorem dX7_givesCycle_14 : decode cX7_givesCycle 14 = .ok (.getfield 40, 3) := by decide +kernel
theorem dX7_givesCycle_17 : decode cX7_givesCycle 17 = .ok (.if_icmp .ge 94, 3) := by decide +kernel
theorem dX7_givesCycle_20 : decode cX7_givesCycle 20 = .ok (.aload_n 0, 1) := by decide +kernel
theorem dX7_givesCycle_21 : decode cX7_givesCycle 21 = .ok (.getfield 9, 3) := by decide +kernel
theorem dX7_givesCycle_24 : decode cX7_givesCycle 24 = .ok (.iload_n 3, 1) := by decide +kernel
theorem dX7_givesCycle_25 : decode cX7_givesCycle 25 = .ok (.invokestatic 74, 3) := by decide +kernel
theorem dX7_givesCycle_28 : decode cX7_givesCycle 28 = .ok (.iconst (-1), 1) := by decide +kernel
theorem dX7_givesCycle_29 : decode cX7_givesCycle 29 = .ok (.if_icmp .ne 82, 3) := by decide +kernel
theorem dX7_givesCycle_32 : decode cX7_givesCycle 32 = .ok (.aload_n 0, 1) := by decide +kernel
theorem dX7_givesCycle_33 : decode cX7_givesCycle 33 = .ok (.getfield 54, 3) := by decide +kernel
theorem dX7_givesCycle_36 : decode cX7_givesCycle 36 = .ok (.iload 4, 2) := by decide +kernel
theorem dX7_givesCycle_38 : decode cX7_givesCycle 38 = .ok (.ishr, 1) := by decide +kernel
theorem dX7_givesCycle_39 : decode cX7_givesCycle 39 = .ok (.iconst 1, 1) := by decide +kernel
theorem dX7_givesCycle_40 : decode cX7_givesCycle 40 = .ok (.iand, 1) := by decide +kernel
theorem dX7_givesCycle_41 : decode cX7_givesCycle 41 = .ok (.ifCond .ne 13, 3) := by decide +kernel
theorem dX7_givesCycle_44 : decode cX7_givesCycle 44 = .ok (.aload_n 0, 1) := by decide +kernel
theorem dX7_givesCycle_45 : decode cX7_givesCycle 45 = .ok (.iload_n 3, 1) := by decide +kernel
theorem dX7_givesCycle_46 : decode cX7_givesCycle 46 = .ok (.iload 4, 2) := by decide +kernel
theorem dX7_givesCycle_48 : decode cX7_givesCycle 48 = .ok (.invokevirtual 111, 3) := by decide +kernel
theorem dX7_givesCycle_51 : decode cX7_givesCycle 51 = .ok (.ifCond .ne 5, 3) := by decide +kernel
theorem dX7_givesCycle_54 : decode cX7_givesCycle 54 = .ok (.iconst 0, 1) := by decide +kernel
theorem dX7_givesCycle_55 : decode cX7_givesCycle 55 = .ok (.ireturn, 1) := by decide +kernel
theorem dX7_givesCycle_56 : decode cX7_givesCycle 56 = .ok (.aload_n 0, 1) := by decide +kernel
theorem dX7_givesCycle_57 : decode cX7_givesCycle 57 = .ok (.getfield 9, 3) := by decide +kernel
theorem dX7_givesCycle_60 : decode cX7_givesCycle 60 = .ok (.iload_n 3, 1) := by decide +kernel
theorem dX7_givesCycle_61 : decode cX7_givesCycle 61 = .ok (.iload 4, 2) := by decide +kernel
theorem dX7_givesCycle_63 : decode cX7_givesCycle 63 = .ok (.invokestatic 81, 3) := by decide +kernel
theorem dX7_givesCycle_66 : decode cX7_givesCycle 66 = .ok (.aload_n 0, 1) := by decide +kernel
theorem dX7_givesCycle_67 : decode cX7_givesCycle 67 = .ok (.dup, 1) := by decide +kernel
theorem dX7_givesCycle_68 : decode cX7_givesCycle 68 = .ok (.getfield 54, 3) := by decide +kernel
theorem dX7_givesCycle_71 : decode cX7_givesCycle 71 = .ok (.iconst 1, 1) := by decide +kernel
theorem dX7_givesCycle_72 : decode cX7_givesCycle 72 = .ok (.iload 4, 2) := by decide +kernel
theorem dX7_givesCycle_74 : decode cX7_givesCycle 74 = .ok (.ishl, 1) := by decide +kernel
theorem dX7_givesCycle_75 : decode cX7_givesCycle 75 = .ok (.ior, 1) := by decide +kernel
theorem dX7_givesCycle_76 : decode cX7_givesCycle 76 = .ok (.putfield 54, 3) := by decide +kernel
theorem dX7_givesCycle_79 : decode cX7_givesCycle 79 = .ok (.aload_n 0, 1) := by decide +kernel
theorem dX7_givesCycle_80 : decode cX7_givesCycle 80 = .ok (.getfield 33, 3) := by decide +kernel
theorem dX7_givesCycle_83 : decode cX7_givesCycle 83 = .ok (.getfield 65, 3) := by decide +kernel
theorem dX7_givesCycle_86 : decode cX7_givesCycle 86 = .ok (.iload_n 3, 1) := by decide +kernel
theorem dX7_givesCycle_87 : decode cX7_givesCycle 87 = .ok (.invokestatic 74, 3) := by decide +kernel
theorem dX7_givesCycle_90 : decode cX7_givesCycle 90 = .ok (.istore_n 3, 1) := by decide +kernel
theorem dX7_givesCycle_91 : decode cX7_givesCycle 91 = .ok (.aload_n 0, 1) := by decide +kernel
theorem dX7_givesCycle_92 : decode cX7_givesCycle 92 = .ok (.getfield 37, 3) := by decide +kernel
theorem dX7_givesCycle_95 : decode cX7_givesCycle 95 = .ok (.getfield 65, 3) := by decide +kernel
theorem dX7_givesCycle_98 : decode cX7_givesCycle 98 = .ok (.iload 4, 2) := by decide +kernel
theorem dX7_givesCycle_100 : decode cX7_givesCycle 100 = .ok (.invokestatic 74, 3) := by decide +kernel
theorem dX7_givesCycle_103 : decode cX7_givesCycle 103 = .ok (.istore 4, 2) := by decide +kernel
theorem dX7_givesCycle_105 : decode cX7_givesCycle 105 = .ok (.iinc 5 1, 3) := by decide +kernel
theorem dX7_givesCycle_108 : decode cX7_givesCycle 108 = .ok (.goto (-100), 3) := by decide +kernel
theorem dX7_givesCycle_111 : decode cX7_givesCycle 111 = .ok (.aload_n 0, 1) := by decide +kernel
theorem dX7_givesCycle_112 : decode cX7_givesCycle 112 = .ok (.getfield 9, 3) := by decide +kernel
theorem dX7_givesCycle_115 : decode cX7_givesCycle 115 = .ok (.iload_n 3, 1) := by decide +kernel
theorem dX7_givesCycle_116 : decode cX7_givesCycle 116 = .ok (.invokestatic 74, 3) := by decide +kernel
theorem dX7_givesCycle_119 : decode cX7_givesCycle 119 = .ok (.iload 4, 2) := by decide +kernel
theorem dX7_givesCycle_121 : decode cX7_givesCycle 121 = .ok (.if_icmp .ne 7, 3) := by decide +kernel
theorem dX7_givesCycle_124 : decode cX7_givesCycle 124 = .ok (.iconst 1, 1) := by decide +kernel
theorem dX7_givesCycle_125 : decode cX7_givesCycle 125 = .ok (.goto 4, 3) := by decide +kernel
theorem dX7_givesCycle_128 : decode cX7_givesCycle 128 = .ok (.iconst 0, 1) := by decide +kernel
theorem dX7_givesCycle_129 : decode cX7_givesCycle 129 = .ok (.ireturn, 1) := by decide +kernel
theorem dX7_fits_0 : decode cX7_fits 0 = .ok (.aload_n 0, 1) := by decide +kernel
theorem dX7_fits_1 : decode cX7_fits 1 = .ok (.getfield 15, 3) := by decide +kernel
theorem dX7_fits_4 : decode cX7_fits 4 = .ok (.iload_n 1, 1) := by decide +kernel
theorem dX7_fits_5 : decode cX7_fits 5 = .ok (.invokestatic 74, 3) := by decide +kernel
theorem dX7_fits_8 : decode cX7_fits 8 = .ok (.aload_n 0, 1) := by decide +kernel
theorem dX7_fits_9 : decode cX7_fits 9 = .ok (.getfield 18, 3) := by decide +kernel
theorem dX7_fits_12 : decode cX7_fits 12 = .ok (.iload_n 2, 1) := by decide +kernel
theorem dX7_fits_13 : decode cX7_fits 13 = .ok (.invokestatic 74, 3) := by decide +kernel
theorem dX7_fits_16 : decode cX7_fits 16 = .ok (.if_icmp .ne 28, 3) := by decide +kernel
theorem dX7_fits_19 : decode cX7_fits 19 = .ok (.aload_n 0, 1) := by decide +kernel
theorem dX7_fits_20 : decode cX7_fits 20 = .ok (.getfield 33, 3) := by decide +kernel
theorem dX7_fits_23 : decode cX7_fits 23 = .ok (.getfield 78, 3) := by decide +kernel
theorem dX7_fits_26 : decode cX7_fits 26 = .ok (.iload_n 1, 1) := by decide +kernel
theorem dX7_fits_27 : decode cX7_fits 27 = .ok (.invokestatic 74, 3) := by decide +kernel
theorem dX7_fits_30 : decode cX7_fits 30 = .ok (.aload_n 0, 1) := by decide +kernel
theorem dX7_fits_31 : decode cX7_fits 31 = .ok (.getfield 37, 3) := by decide +kernel
theorem dX7_fits_34 : decode cX7_fits 34 = .ok (.getfield 78, 3) := by decide +kernel
theorem dX7_fits_37 : decode cX7_fits 37 = .ok (.iload_n 2, 1) := by decide +kernel
theorem dX7_fits_38 : decode cX7_fits 38 = .ok (.invokestatic 74, 3) := by decide +kernel
theorem dX7_fits_41 : decode cX7_fits 41 = .ok (.if_icmp .eq 5, 3) := by decide +kernel
theorem dX7_fits_44 : decode cX7_fits 44 = .ok (.iconst 0, 1) := by decide +kernel
theorem dX7_fits_45 : decode cX7_fits 45 = .ok (.ireturn, 1) := by decide +kernel
theorem dX7_fits_46 : decode cX7_fits 46 = .ok (.iconst 0, 1) := by decide +kernel
theorem dX7_fits_47 : decode cX7_fits 47 = .ok (.istore_n 3, 1) := by decide +kernel
theorem dX7_fits_48 : decode cX7_fits 48 = .ok (.iload_n 3, 1) := by decide +kernel
theorem dX7_fits_49 : decode cX7_fits 49 = .ok (.aload_n 0, 1) := by decide +kernel
theorem dX7_fits_50 : decode cX7_fits 50 = .ok (.getfield 33, 3) := by decide +kernel
theorem dX7_fits_53 : decode cX7_fits 53 = .ok (.getfield 40, 3) := by decide +kernel
theorem dX7_fits_56 : decode cX7_fits 56 = .ok (.if_icmp .ge 61, 3) := by decide +kernel
theorem dX7_fits_59 : decode cX7_fits 59 = .ok (.aload_n 0, 1) := by decide +kernel
theorem dX7_fits_60 : decode cX7_fits 60 = .ok (.getfield 9, 3) := by decide +kernel
theorem dX7_fits_63 : decode cX7_fits 63 = .ok (.iload_n 3, 1) := by decide +kernel
theorem dX7_fits_64 : decode cX7_fits 64 = .ok (.invokestatic 74, 3) := by decide +kernel
theorem dX7_fits_67 : decode cX7_fits 67 = .ok (.istore 4, 2) := by decide +kernel
theorem dX7_fits_69 : decode cX7_fits 69 = .ok (.iload 4, 2) := by decide +kernel
theorem dX7_fits_71 : decode cX7_fits 71 = .ok (.iconst (-1), 1) := by decide +kernel
theorem dX7_fits_72 : decode cX7_fits 72 = .ok (.if_icmp .eq 39, 3) := by decide +kernel
theorem dX7_fits_75 : decode cX7_fits 75 = .ok (.aload_n 0, 1) := by decide +kernel
theorem dX7_fits_76 : decode cX7_fits 76 = .ok (.getfield 33, 3) := by decide +kernel
theorem dX7_fits_79 : decode cX7_fits 79 = .ok (.getfield 97, 3) := by decide +kernel
theorem dX7_fits_82 : decode cX7_fits 82 = .ok (.iload_n 1, 1) := by decide +kernel
theorem dX7_fits_83 : decode cX7_fits 83 = .ok (.invokestatic 74, 3) := by decide +kernel
theorem dX7_fits_86 : decode cX7_fits 86 = .ok (.iload_n 3, 1) := by decide +kernel
theorem dX7_fits_87 : decode cX7_fits 87 = .ok (.ishr, 1) := by decide +kernel
theorem dX7_fits_88 : decode cX7_fits 88 = .ok (.iconst 1, 1) := by decide +kernel
theorem dX7_fits_89 : decode cX7_fits 89 = .ok (.iand, 1) := by decide +kernel
theorem dX7_fits_90 : decode cX7_fits 90 = .ok (.aload_n 0, 1) := by decide +kernel
theorem dX7_fits_91 : decode cX7_fits 91 = .ok (.getfield 37, 3) := by decide +kernel
theorem dX7_fits_94 : decode cX7_fits 94 = .ok (.getfield 97, 3) := by decide +kernel
theorem dX7_fits_97 : decode cX7_fits 97 = .ok (.iload_n 2, 1) := by decide +kernel
theorem dX7_fits_98 : decode cX7_fits 98 = .ok (.invokestatic 74, 3) := by decide +kernel
theorem dX7_fits_101 : decode cX7_fits 101 = .ok (.iload 4, 2) := by decide +kernel
theorem dX7_fits_103 : decode cX7_fits 103 = .ok (.ishr, 1) := by decide +kernel
theorem dX7_fits_104 : decode cX7_fits 104 = .ok (.iconst 1, 1) := by decide +kernel
theorem dX7_fits_105 : decode cX7_fits 105 = .ok (.iand, 1) := by decide +kernel
theorem dX7_fits_106 : decode cX7_fits 106 = .ok (.if_icmp .eq 5, 3) := by decide +kernel
theorem dX7_fits_109 : decode cX7_fits 109 = .ok (.iconst 0, 1) := by decide +kernel
theorem dX7_fits_110 : decode cX7_fits 110 = .ok (.ireturn, 1) := by decide +kernel
theorem dX7_fits_111 : decode cX7_fits 111 = .ok (.iinc 3 1, 3) := by decide +kernel
theorem dX7_fits_114 : decode cX7_fits 114 = .ok (.goto (-66), 3) := by decide +kernel
theorem dX7_fits_117 : decode cX7_fits 117 = .ok (.iconst 1, 1) := by decide +kernel
theorem dX7_fits_118 : decode cX7_fits 118 = .ok (.ireturn, 1) := by decide +kernel
theorem dX7_takeCycleBack_0 : decode cX7_takeCycleBack 0 = .ok (.iload_n 1, 1) := by decide +kernel
theorem dX7_takeCycleBack_1 : decode cX7_takeCycleBack 1 = .ok (.istore_n 2, 1) := by decide +kernel
theorem dX7_takeCycleBack_2 : decode cX7_takeCycleBack 2 = .ok (.iconst 0, 1) := by decide +kernel
theorem dX7_takeCycleBack_3 : decode cX7_takeCycleBack 3 = .ok (.istore_n 3, 1) := by decide +kernel
theorem dX7_takeCycleBack_4 : decode cX7_takeCycleBack 4 = .ok (.iload_n 3, 1) := by decide +kernel
theorem dX7_takeCycleBack_5 : decode cX7_takeCycleBack 5 = .ok (.aload_n 0, 1) := by decide +kernel
theorem dX7_takeCycleBack_6 : decode cX7_takeCycleBack 6 = .ok (.getfield 33, 3) := by decide +kernel
theorem dX7_takeCycleBack_9 : decode cX7_takeCycleBack 9 = .ok (.getfield 40, 3) := by decide +kernel
theorem dX7_takeCycleBack_12 : decode cX7_takeCycleBack 12 = .ok (.if_icmp .ge 63, 3) := by decide +kernel
theorem dX7_takeCycleBack_15 : decode cX7_takeCycleBack 15 = .ok (.aload_n 0, 1) := by decide +kernel
theorem dX7_takeCycleBack_16 : decode cX7_takeCycleBack 16 = .ok (.getfield 9, 3) := by decide +kernel
theorem dX7_takeCycleBack_19 : decode cX7_takeCycleBack 19 = .ok (.iload_n 2, 1) := by decide +kernel
theorem dX7_takeCycleBack_20 : decode cX7_takeCycleBack 20 = .ok (.invokestatic 74, 3) := by decide +kernel
theorem dX7_takeCycleBack_23 : decode cX7_takeCycleBack 23 = .ok (.iconst (-1), 1) := by decide +kernel
theorem dX7_takeCycleBack_24 : decode cX7_takeCycleBack 24 = .ok (.if_icmp .eq 51, 3) := by decide +kernel
theorem dX7_takeCycleBack_27 : decode cX7_takeCycleBack 27 = .ok (.aload_n 0, 1) := by decide +kernel
theorem dX7_takeCycleBack_28 : decode cX7_takeCycleBack 28 = .ok (.dup, 1) := by decide +kernel
theorem dX7_takeCycleBack_29 : decode cX7_takeCycleBack 29 = .ok (.getfield 54, 3) := by decide +kernel
theorem dX7_takeCycleBack_32 : decode cX7_takeCycleBack 32 = .ok (.iconst 1, 1) := by decide +kernel
theorem dX7_takeCycleBack_33 : decode cX7_takeCycleBack 33 = .ok (.aload_n 0, 1) := by decide +kernel
theorem dX7_takeCycleBack_34 : decode cX7_takeCycleBack 34 = .ok (.getfield 9, 3) := by decide +kernel
theorem dX7_takeCycleBack_37 : decode cX7_takeCycleBack 37 = .ok (.iload_n 2, 1) := by decide +kernel
theorem dX7_takeCycleBack_38 : decode cX7_takeCycleBack 38 = .ok (.invokestatic 74, 3) := by decide +kernel
theorem dX7_takeCycleBack_41 : decode cX7_takeCycleBack 41 = .ok (.ishl, 1) := by decide +kernel
theorem dX7_takeCycleBack_42 : decode cX7_takeCycleBack 42 = .ok (.iconst (-1), 1) := by decide +kernel
theorem dX7_takeCycleBack_43 : decode cX7_takeCycleBack 43 = .ok (.ixor, 1) := by decide +kernel
theorem dX7_takeCycleBack_44 : decode cX7_takeCycleBack 44 = .ok (.iand, 1) := by decide +kernel
theorem dX7_takeCycleBack_45 : decode cX7_takeCycleBack 45 = .ok (.putfield 54, 3) := by decide +kernel
theorem dX7_takeCycleBack_48 : decode cX7_takeCycleBack 48 = .ok (.aload_n 0, 1) := by decide +kernel
theorem dX7_takeCycleBack_49 : decode cX7_takeCycleBack 49 = .ok (.getfield 9, 3) := by decide +kernel
theorem dX7_takeCycleBack_52 : decode cX7_takeCycleBack 52 = .ok (.iload_n 2, 1) := by decide +kernel
theorem dX7_takeCycleBack_53 : decode cX7_takeCycleBack 53 = .ok (.iconst (-1), 1) := by decide +kernel
theorem dX7_takeCycleBack_54 : decode cX7_takeCycleBack 54 = .ok (.invokestatic 81, 3) := by decide +kernel
theorem dX7_takeCycleBack_57 : decode cX7_takeCycleBack 57 = .ok (.aload_n 0, 1) := by decide +kernel
theorem dX7_takeCycleBack_58 : decode cX7_takeCycleBack 58 = .ok (.getfield 33, 3) := by decide +kernel
theorem dX7_takeCycleBack_61 : decode cX7_takeCycleBack 61 = .ok (.getfield 65, 3) := by decide +kernel
theorem dX7_takeCycleBack_64 : decode cX7_takeCycleBack 64 = .ok (.iload_n 2, 1) := by decide +kernel
theorem dX7_takeCycleBack_65 : decode cX7_takeCycleBack 65 = .ok (.invokestatic 74, 3) := by decide +kernel
theorem dX7_takeCycleBack_68 : decode cX7_takeCycleBack 68 = .ok (.istore_n 2, 1) := by decide +kernel
theorem dX7_takeCycleBack_69 : decode cX7_takeCycleBack 69 = .ok (.iinc 3 1, 3) := by decide +kernel
theorem dX7_takeCycleBack_72 : decode cX7_takeCycleBack 72 = .ok (.goto (-68), 3) := by decide +kernel
theorem dX7_takeCycleBack_75 : decode cX7_takeCycleBack 75 = .ok (.return_, 1) := by decide +kernel
theorem dX8_init_0 : decode cX8_init 0 = .ok (.aload_n 0, 1) := by decide +kernel
theorem dX8_init_1 : decode cX8_init 1 = .ok (.invokespecial 3, 3) := by decide +kernel
theorem dX8_init_4 : decode cX8_init 4 = .ok (.aload_n 0, 1) := by decide +kernel
theorem dX8_init_5 : decode cX8_init 5 = .ok (.new 9, 3) := by decide +kernel
theorem dX8_init_8 : decode cX8_init 8 = .ok (.dup, 1) := by decide +kernel
theorem dX8_init_9 : decode cX8_init 9 = .ok (.invokespecial 11, 3) := by decide +kernel
theorem dX8_init_12 : decode cX8_init 12 = .ok (.putfield 12, 3) := by decide +kernel
theorem dX8_init_15 : decode cX8_init 15 = .ok (.aload_n 0, 1) := by decide +kernel
theorem dX8_init_16 : decode cX8_init 16 = .ok (.new 18, 3) := by decide +kernel
theorem dX8_init_19 : decode cX8_init 19 = .ok (.dup, 1) := by decide +kernel
theorem dX8_init_20 : decode cX8_init 20 = .ok (.invokespecial 20, 3) := by decide +kernel
theorem dX8_init_23 : decode cX8_init 23 = .ok (.putfield 21, 3) := by decide +kernel
theorem dX8_init_26 : decode cX8_init 26 = .ok (.aload_n 0, 1) := by decide +kernel
theorem dX8_init_27 : decode cX8_init 27 = .ok (.bipush 12, 2) := by decide +kernel
theorem dX8_init_29 : decode cX8_init 29 = .ok (.newarray .long, 2) := by decide +kernel
theorem dX8_init_31 : decode cX8_init 31 = .ok (.putfield 25, 3) := by decide +kernel
theorem dX8_init_34 : decode cX8_init 34 = .ok (.aload_n 0, 1) := by decide +kernel
theorem dX8_init_35 : decode cX8_init 35 = .ok (.aload_n 1, 1) := by decide +kernel
theorem dX8_init_36 : decode cX8_init 36 = .ok (.putfield 29, 3) := by decide +kernel
theorem dX8_init_39 : decode cX8_init 39 = .ok (.return_, 1) := by decide +kernel
theorem dX8_read_0 : decode cX8_read 0 = .ok (.aload_n 0, 1) := by decide +kernel
theorem dX8_read_1 : decode cX8_read 1 = .ok (.getfield 29, 3) := by decide +kernel
theorem dX8_read_4 : decode cX8_read 4 = .ok (.invokevirtual 33, 3) := by decide +kernel
theorem dX8_read_7 : decode cX8_read 7 = .ok (.aload_n 0, 1) := by decide +kernel
theorem dX8_read_8 : decode cX8_read 8 = .ok (.iconst 0, 1) := by decide +kernel
theorem dX8_read_9 : decode cX8_read 9 = .ok (.putfield 38, 3) := by decide +kernel
theorem dX8_read_12 : decode cX8_read 12 = .ok (.aload_n 0, 1) := by decide +kernel
theorem dX8_read_13 : decode cX8_read 13 = .ok (.getfield 12, 3) := by decide +kernel
theorem dX8_read_16 : decode cX8_read 16 = .ok (.iconst 0, 1) := by decide +kernel
theorem dX8_read_17 : decode cX8_read 17 = .ok (.putfield 42, 3) := by decide +kernel
theorem dX8_read_20 : decode cX8_read 20 = .ok (.aload_n 0, 1) := by decide +kernel
theorem dX8_read_21 : decode cX8_read 21 = .ok (.iconst 0, 1) := by decide +kernel
theorem dX8_read_22 : decode cX8_read 22 = .ok (.invokevirtual 45, 3) := by decide +kernel
theorem dX8_read_25 : decode cX8_read 25 = .ok (.aload_n 0, 1) := by decide +kernel
theorem dX8_read_26 : decode cX8_read 26 = .ok (.sipush 128, 3) := by decide +kernel
theorem dX8_read_29 : decode cX8_read 29 = .ok (.invokevirtual 49, 3) := by decide +kernel
theorem dX8_read_32 : decode cX8_read 32 = .ok (.ifCond .eq 18, 3) := by decide +kernel
theorem dX8_read_35 : decode cX8_read 35 = .ok (.aload_n 0, 1) := by decide +kernel
theorem dX8_read_36 : decode cX8_read 36 = .ok (.iconst 1, 1) := by decide +kernel
theorem dX8_read_37 : decode cX8_read 37 = .ok (.bipush 12, 2) := by decide +kernel
theorem dX8_read_39 : decode cX8_read 39 = .ok (.iconst (-1), 1) := by decide +kernel
theorem dX8_read_40 : decode cX8_read 40 = .ok (.invokevirtual 53, 3) := by decide +kernel
theorem dX8_read_43 : decode cX8_read 43 = .ok (.ifCond .eq 7, 3) := by decide +kernel
theorem dX8_read_46 : decode cX8_read 46 = .ok (.iconst 1, 1) := by decide +kernel
theorem dX8_read_47 : decode cX8_read 47 = .ok (.goto 4, 3) := by decide +kernel
theorem dX8_read_50 : decode cX8_read 50 = .ok (.iconst 0, 1) := by decide +kernel
theorem dX8_read_51 : decode cX8_read 51 = .ok (.istore_n 1, 1) := by decide +kernel
theorem dX8_read_52 : decode cX8_read 52 = .ok (.aload_n 0, 1) := by decide +kernel
theorem dX8_read_53 : decode cX8_read 53 = .ok (.getfield 21, 3) := by decide +kernel
theorem dX8_read_56 : decode cX8_read 56 = .ok (.iload_n 1, 1) := by decide +kernel
theorem dX8_read_57 : decode cX8_read 57 = .ok (.ifCond .eq 10, 3) := by decide +kernel
theorem dX8_read_60 : decode cX8_read 60 = .ok (.aload_n 0, 1) := by decide +kernel
theorem dX8_read_61 : decode cX8_read 61 = .ok (.getfield 57, 3) := by decide +kernel
theorem dX8_read_64 : decode cX8_read 64 = .ok (.goto 4, 3) := by decide +kernel
theorem dX8_read_67 : decode cX8_read 67 = .ok (.iconst 1, 1) := by decide +kernel
theorem dX8_read_68 : decode cX8_read 68 = .ok (.invokevirtual 60, 3) := by decide +kernel
theorem dX8_read_71 : decode cX8_read 71 = .ok (.iload_n 1, 1) := by decide +kernel
theorem dX8_read_72 : decode cX8_read 72 = .ok (.ifCond .eq 16, 3) := by decide +kernel
theorem dX8_read_75 : decode cX8_read 75 = .ok (.aload_n 0, 1) := by decide +kernel
theorem dX8_read_76 : decode cX8_read 76 = .ok (.bipush 59, 2) := by decide +kernel
theorem dX8_read_78 : decode cX8_read 78 = .ok (.invokevirtual 49, 3) := by decide +kernel
theorem dX8_read_81 : decode cX8_read 81 = .ok (.ifCond .eq 7, 3) := by decide +kernel
theorem dX8_read_84 : decode cX8_read 84 = .ok (.iconst 1, 1) := by decide +kernel
theorem dX8_read_85 : decode cX8_read 85 = .ok (.goto 4, 3) := by decide +kernel
theorem dX8_read_88 : decode cX8_read 88 = .ok (.iconst 0, 1) := by decide +kernel
theorem dX8_read_89 : decode cX8_read 89 = .ok (.istore_n 1, 1) := by decide +kernel
theorem dX8_read_90 : decode cX8_read 90 = .ok (.iconst 0, 1) := by decide +kernel
theorem dX8_read_91 : decode cX8_read 91 = .ok (.istore_n 2, 1) := by decide +kernel
theorem dX8_read_92 : decode cX8_read 92 = .ok (.iload_n 2, 1) := by decide +kernel
theorem dX8_read_93 : decode cX8_read 93 = .ok (.sipush 1000, 3) := by decide +kernel
theorem dX8_read_96 : decode cX8_read 96 = .ok (.if_icmp .ge 42, 3) := by decide +kernel
theorem dX8_read_99 : decode cX8_read 99 = .ok (.iload_n 1, 1) := by decide +kernel
theorem dX8_read_100 : decode cX8_read 100 = .ok (.ifCond .eq 38, 3) := by decide +kernel
theorem dX8_read_103 : decode cX8_read 103 = .ok (.aload_n 0, 1) := by decide +kernel
theorem dX8_read_104 : decode cX8_read 104 = .ok (.getfield 63, 3) := by decide +kernel
theorem dX8_read_107 : decode cX8_read 107 = .ok (.ifCond .eq 31, 3) := by decide +kernel
theorem dX8_read_110 : decode cX8_read 110 = .ok (.aload_n 0, 1) := by decide +kernel
theorem dX8_read_111 : decode cX8_read 111 = .ok (.invokevirtual 66, 3) := by decide +kernel
theorem dX8_read_114 : decode cX8_read 114 = .ok (.ifCond .eq 16, 3) := by decide +kernel
theorem dX8_read_117 : decode cX8_read 117 = .ok (.aload_n 0, 1) := by decide +kernel
theorem dX8_read_118 : decode cX8_read 118 = .ok (.bipush 59, 2) := by decide +kernel
theorem dX8_read_120 : decode cX8_read 120 = .ok (.invokevirtual 49, 3) := by decide +kernel
theorem dX8_read_123 : decode cX8_read 123 = .ok (.ifCond .eq 7, 3) := by decide +kernel
theorem dX8_read_126 : decode cX8_read 126 = .ok (.iconst 1, 1) := by decide +kernel
theorem dX8_read_127 : decode cX8_read 127 = .ok (.goto 4, 3) := by decide +kernel
theorem dX8_read_130 : decode cX8_read 130 = .ok (.iconst 0, 1) := by decide +kernel
theorem dX8_read_131 : decode cX8_read 131 = .ok (.istore_n 1, 1) := by decide +kernel
theorem dX8_read_132 : decode cX8_read 132 = .ok (.iinc 2 1, 3) := by decide +kernel
theorem dX8_read_135 : decode cX8_read 135 = .ok (.goto (-43), 3) := by decide +kernel
theorem dX8_read_138 : decode cX8_read 138 = .ok (.iload_n 1, 1) := by decide +kernel
theorem dX8_read_139 : decode cX8_read 139 = .ok (.ifCond .eq 14, 3) := by decide +kernel
theorem dX8_read_142 : decode cX8_read 142 = .ok (.aload_n 0, 1) := by decide +kernel
theorem dX8_read_143 : decode cX8_read 143 = .ok (.getfield 12, 3) := by decide +kernel
theorem dX8_read_146 : decode cX8_read 146 = .ok (.aload_n 0, 1) := by decide +kernel
theorem dX8_read_147 : decode cX8_read 147 = .ok (.getfield 21, 3) := by decide +kernel
theorem dX8_read_150 : decode cX8_read 150 = .ok (.invokevirtual 70, 3) := by decide +kernel
theorem dX8_read_153 : decode cX8_read 153 = .ok (.aload_n 0, 1) := by decide +kernel
theorem dX8_read_154 : decode cX8_read 154 = .ok (.getfield 38, 3) := by decide +kernel
theorem dX8_read_157 : decode cX8_read 157 = .ok (.ireturn, 1) := by decide +kernel
theorem dX8_readLine_0 : decode cX8_readLine 0 = .ok (.aload_n 0, 1) := by decide +kernel
theorem dX8_readLine_1 : decode cX8_readLine 1 = .ok (.getfield 63, 3) := by decide +kernel
theorem dX8_readLine_4 : decode cX8_readLine 4 = .ok (.tableswitch 106 129 143 #[76, 106, 106, 106, 106, 106, 106, 81, 86, 106, 91, 96, 106, 106, 101], 76) := by decide +kernel
theorem dX8_readLine_80 : decode cX8_readLine 80 = .ok (.aload_n 0, 1) := by decide +kernel
theorem dX8_readLine_81 : decode cX8_readLine 81 = .ok (.invokevirtual 74, 3) := by decide +kernel
theorem dX8_readLine_84 : decode cX8_readLine 84 = .ok (.ireturn, 1) := by decide +kernel
theorem dX8_readLine_85 : decode cX8_readLine 85 = .ok (.aload_n 0, 1) := by decide +kernel
theorem dX8_readLine_86 : decode cX8_readLine 86 = .ok (.invokevirtual 77, 3) := by decide +kernel
theorem dX8_readLine_89 : decode cX8_readLine 89 = .ok (.ireturn, 1) := by decide +kernel
theorem dX8_readLine_90 : decode cX8_readLine 90 = .ok (.aload_n 0, 1) := by decide +kernel
theorem dX8_readLine_91 : decode cX8_readLine 91 = .ok (.invokevirtual 80, 3) := by decide +kernel
theorem dX8_readLine_94 : decode cX8_readLine 94 = .ok (.ireturn, 1) := by decide +kernel
theorem dX8_readLine_95 : decode cX8_readLine 95 = .ok (.aload_n 0, 1) := by decide +kernel
theorem dX8_readLine_96 : decode cX8_readLine 96 = .ok (.invokevirtual 83, 3) := by decide +kernel
theorem dX8_readLine_99 : decode cX8_readLine 99 = .ok (.ireturn, 1) := by decide +kernel
theorem dX8_readLine_100 : decode cX8_readLine 100 = .ok (.aload_n 0, 1) := by decide +kernel
theorem dX8_readLine_101 : decode cX8_readLine 101 = .ok (.invokevirtual 86, 3) := by decide +kernel
theorem dX8_readLine_104 : decode cX8_readLine 104 = .ok (.ireturn, 1) := by decide +kernel
theorem dX8_readLine_105 : decode cX8_readLine 105 = .ok (.aload_n 0, 1) := by decide +kernel
theorem dX8_readLine_106 : decode cX8_readLine 106 = .ok (.invokevirtual 89, 3) := by decide +kernel
theorem dX8_readLine_109 : decode cX8_readLine 109 = .ok (.ireturn, 1) := by decide +kernel
theorem dX8_readLine_110 : decode cX8_readLine 110 = .ok (.aload_n 0, 1) := by decide +kernel
theorem dX8_readLine_111 : decode cX8_readLine 111 = .ok (.iconst 1, 1) := by decide +kernel
theorem dX8_readLine_112 : decode cX8_readLine 112 = .ok (.invokevirtual 92, 3) := by decide +kernel
theorem dX8_readLine_115 : decode cX8_readLine 115 = .ok (.ireturn, 1) := by decide +kernel
theorem dX8_readTurn_0 : decode cX8_readTurn 0 = .ok (.aload_n 0, 1) := by decide +kernel
theorem dX8_readTurn_1 : decode cX8_readTurn 1 = .ok (.aload_n 0, 1) := by decide +kernel
theorem dX8_readTurn_2 : decode cX8_readTurn 2 = .ok (.getfield 95, 3) := by decide +kernel
theorem dX8_readTurn_5 : decode cX8_readTurn 5 = .ok (.iconst 1, 1) := by decide +kernel
theorem dX8_readTurn_6 : decode cX8_readTurn 6 = .ok (.iadd, 1) := by decide +kernel
theorem dX8_readTurn_7 : decode cX8_readTurn 7 = .ok (.invokevirtual 45, 3) := by decide +kernel
theorem dX8_readTurn_10 : decode cX8_readTurn 10 = .ok (.aload_n 0, 1) := by decide +kernel
theorem dX8_readTurn_11 : decode cX8_readTurn 11 = .ok (.invokevirtual 98, 3) := by decide +kernel
theorem dX8_readTurn_14 : decode cX8_readTurn 14 = .ok (.istore_n 1, 1) := by decide +kernel
theorem dX8_readTurn_15 : decode cX8_readTurn 15 = .ok (.iconst 0, 1) := by decide +kernel
theorem dX8_readTurn_16 : decode cX8_readTurn 16 = .ok (.istore_n 2, 1) := by decide +kernel
theorem dX8_readTurn_17 : decode cX8_readTurn 17 = .ok (.iload_n 2, 1) := by decide +kernel
theorem dX8_readTurn_18 : decode cX8_readTurn 18 = .ok (.bipush 8, 2) := by decide +kernel
theorem dX8_readTurn_20 : decode cX8_readTurn 20 = .ok (.if_icmp .ge 27, 3) := by decide +kernel
theorem dX8_readTurn_23 : decode cX8_readTurn 23 = .ok (.iload_n 1, 1) := by decide +kernel
theorem dX8_readTurn_24 : decode cX8_readTurn 24 = .ok (.ifCond .eq 23, 3) := by decide +kernel
theorem dX8_readTurn_27 : decode cX8_readTurn 27 = .ok (.aload_n 0, 1) := by decide +kernel
theorem dX8_readTurn_28 : decode cX8_readTurn 28 = .ok (.getfield 63, 3) := by decide +kernel
theorem dX8_readTurn_31 : decode cX8_readTurn 31 = .ok (.bipush 59, 2) := by decide +kernel
theorem dX8_readTurn_33 : decode cX8_readTurn 33 = .ok (.if_icmp .eq 14, 3) := by decide +kernel
theorem dX8_readTurn_36 : decode cX8_readTurn 36 = .ok (.aload_n 0, 1) := by decide +kernel
theorem dX8_readTurn_37 : decode cX8_readTurn 37 = .ok (.invokevirtual 98, 3) := by decide +kernel
theorem dX8_readTurn_40 : decode cX8_readTurn 40 = .ok (.istore_n 1, 1) := by decide +kernel
theorem dX8_readTurn_41 : decode cX8_readTurn 41 = .ok (.iinc 2 1, 3) := by decide +kernel
theorem dX8_readTurn_44 : decode cX8_readTurn 44 = .ok (.goto (-27), 3) := by decide +kernel
theorem dX8_readTurn_47 : decode cX8_readTurn 47 = .ok (.iload_n 1, 1) := by decide +kernel
theorem dX8_readTurn_48 : decode cX8_readTurn 48 = .ok (.ireturn, 1) := by decide +kernel
theorem dX8_readStep_0 : decode cX8_readStep 0 = .ok (.aload_n 0, 1) := by decide +kernel
theorem dX8_readStep_1 : decode cX8_readStep 1 = .ok (.getfield 63, 3) := by decide +kernel
theorem dX8_readStep_4 : decode cX8_readStep 4 = .ok (.istore_n 1, 1) := by decide +kernel
theorem dX8_readStep_5 : decode cX8_readStep 5 = .ok (.iload_n 1, 1) := by decide +kernel
theorem dX8_readStep_6 : decode cX8_readStep 6 = .ok (.sipush 130, 3) := by decide +kernel
theorem dX8_readStep_9 : decode cX8_readStep 9 = .ok (.if_icmp .lt 10, 3) := by decide +kernel
theorem dX8_readStep_12 : decode cX8_readStep 12 = .ok (.iload_n 1, 1) := by decide +kernel
theorem dX8_readStep_13 : decode cX8_readStep 13 = .ok (.sipush 135, 3) := by decide +kernel
theorem dX8_readStep_16 : decode cX8_readStep 16 = .ok (.if_icmp .le 9, 3) := by decide +kernel
theorem dX8_readStep_19 : decode cX8_readStep 19 = .ok (.aload_n 0, 1) := by decide +kernel
theorem dX8_readStep_20 : decode cX8_readStep 20 = .ok (.iconst 1, 1) := by decide +kernel
theorem dX8_readStep_21 : decode cX8_readStep 21 = .ok (.invokevirtual 92, 3) := by decide +kernel
theorem dX8_readStep_24 : decode cX8_readStep 24 = .ok (.ireturn, 1) := by decide +kernel
theorem dX8_readStep_25 : decode cX8_readStep 25 = .ok (.aload_n 0, 1) := by decide +kernel
theorem dX8_readStep_26 : decode cX8_readStep 26 = .ok (.getfield 21, 3) := by decide +kernel
theorem dX8_readStep_29 : decode cX8_readStep 29 = .ok (.getfield 101, 3) := by decide +kernel
theorem dX8_readStep_32 : decode cX8_readStep 32 = .ok (.bipush 8, 2) := by decide +kernel
theorem dX8_readStep_34 : decode cX8_readStep 34 = .ok (.if_icmp .lt 9, 3) := by decide +kernel
theorem dX8_readStep_37 : decode cX8_readStep 37 = .ok (.aload_n 0, 1) := by decide +kernel
theorem dX8_readStep_38 : decode cX8_readStep 38 = .ok (.iconst 5, 1) := by decide +kernel
theorem dX8_readStep_39 : decode cX8_readStep 39 = .ok (.invokevirtual 92, 3) := by decide +kernel
theorem dX8_readStep_42 : decode cX8_readStep 42 = .ok (.ireturn, 1) := by decide +kernel
theorem dX8_readStep_43 : decode cX8_readStep 43 = .ok (.aload_n 0, 1) := by decide +kernel
theorem dX8_readStep_44 : decode cX8_readStep 44 = .ok (.aload_n 0, 1) := by decide +kernel
theorem dX8_readStep_45 : decode cX8_readStep 45 = .ok (.getfield 95, 3) := by decide +kernel
theorem dX8_readStep_48 : decode cX8_readStep 48 = .ok (.iconst 1, 1) := by decide +kernel
theorem dX8_readStep_49 : decode cX8_readStep 49 = .ok (.iadd, 1) := by decide +kernel
theorem dX8_readStep_50 : decode cX8_readStep 50 = .ok (.invokevirtual 45, 3) := by decide +kernel
theorem dX8_readStep_53 : decode cX8_readStep 53 = .ok (.iconst (-1), 1) := by decide +kernel
theorem dX8_readStep_54 : decode cX8_readStep 54 = .ok (.istore_n 2, 1) := by decide +kernel
theorem dX8_readStep_55 : decode cX8_readStep 55 = .ok (.iload_n 1, 1) := by decide +kernel
theorem dX8_readStep_56 : decode cX8_readStep 56 = .ok (.sipush 135, 3) := by decide +kernel
theorem dX8_readStep_59 : decode cX8_readStep 59 = .ok (.if_icmp .ne 28, 3) := by decide +kernel
theorem dX8_readStep_62 : decode cX8_readStep 62 = .ok (.aload_n 0, 1) := by decide +kernel
theorem dX8_readStep_63 : decode cX8_readStep 63 = .ok (.iconst 0, 1) := by decide +kernel
theorem dX8_readStep_64 : decode cX8_readStep 64 = .ok (.aload_n 0, 1) := by decide +kernel
theorem dX8_readStep_65 : decode cX8_readStep 65 = .ok (.getfield 21, 3) := by decide +kernel
theorem dX8_readStep_68 : decode cX8_readStep 68 = .ok (.getfield 104, 3) := by decide +kernel
theorem dX8_readStep_71 : decode cX8_readStep 71 = .ok (.iconst 1, 1) := by decide +kernel
theorem dX8_readStep_72 : decode cX8_readStep 72 = .ok (.isub, 1) := by decide +kernel
theorem dX8_readStep_73 : decode cX8_readStep 73 = .ok (.iconst (-1), 1) := by decide +kernel
theorem dX8_readStep_74 : decode cX8_readStep 74 = .ok (.invokevirtual 53, 3) := by decide +kernel
theorem dX8_readStep_77 : decode cX8_readStep 77 = .ok (.ifCond .ne 5, 3) := by decide +kernel
theorem dX8_readStep_80 : decode cX8_readStep 80 = .ok (.iconst 0, 1) := by decide +kernel
theorem dX8_readStep_81 : decode cX8_readStep 81 = .ok (.ireturn, 1) := by decide +kernel
theorem dX8_readStep_82 : decode cX8_readStep 82 = .ok (.aload_n 0, 1) := by decide +kernel
theorem dX8_readStep_83 : decode cX8_readStep 83 = .ok (.getfield 57, 3) := by decide +kernel
theorem dX8_readStep_86 : decode cX8_readStep 86 = .ok (.istore_n 2, 1) := by decide +kernel
theorem dX8_readStep_87 : decode cX8_readStep 87 = .ok (.iload_n 1, 1) := by decide +kernel
theorem dX8_readStep_88 : decode cX8_readStep 88 = .ok (.sipush 135, 3) := by decide +kernel
theorem dX8_readStep_91 : decode cX8_readStep 91 = .ok (.if_icmp .ne 15, 3) := by decide +kernel
theorem dX8_readStep_94 : decode cX8_readStep 94 = .ok (.aload_n 0, 1) := by decide +kernel
theorem dX8_readStep_95 : decode cX8_readStep 95 = .ok (.getfield 21, 3) := by decide +kernel
theorem dX8_readStep_98 : decode cX8_readStep 98 = .ok (.getfield 104, 3) := by decide +kernel
theorem dX8_readStep_101 : decode cX8_readStep 101 = .ok (.iconst 1, 1) := by decide +kernel
theorem dX8_readStep_102 : decode cX8_readStep 102 = .ok (.isub, 1) := by decide +kernel
theorem dX8_readStep_103 : decode cX8_readStep 103 = .ok (.goto 5, 3) := by decide +kernel
theorem dX8_readStep_106 : decode cX8_readStep 106 = .ok (.bipush 11, 2) := by decide +kernel
theorem dX8_readStep_108 : decode cX8_readStep 108 = .ok (.istore_n 3, 1) := by decide +kernel
theorem dX8_readStep_109 : decode cX8_readStep 109 = .ok (.iload_n 1, 1) := by decide +kernel
theorem dX8_readStep_110 : decode cX8_readStep 110 = .ok (.sipush 134, 3) := by decide +kernel
theorem dX8_readStep_113 : decode cX8_readStep 113 = .ok (.if_icmp .lt 15, 3) := by decide +kernel
theorem dX8_readStep_116 : decode cX8_readStep 116 = .ok (.aload_n 0, 1) := by decide +kernel
theorem dX8_readStep_117 : decode cX8_readStep 117 = .ok (.iconst 0, 1) := by decide +kernel
theorem dX8_readStep_118 : decode cX8_readStep 118 = .ok (.iload_n 3, 1) := by decide +kernel
theorem dX8_readStep_119 : decode cX8_readStep 119 = .ok (.iload_n 2, 1) := by decide +kernel
theorem dX8_readStep_120 : decode cX8_readStep 120 = .ok (.invokevirtual 53, 3) := by decide +kernel
theorem dX8_readStep_123 : decode cX8_readStep 123 = .ok (.ifCond .ne 5, 3) := by decide +kernel
theorem dX8_readStep_126 : decode cX8_readStep 126 = .ok (.iconst 0, 1) := by decide +kernel
theorem dX8_readStep_127 : decode cX8_readStep 127 = .ok (.ireturn, 1) := by decide +kernel
theorem dX8_readStep_128 : decode cX8_readStep 128 = .ok (.aload_n 0, 1) := by decide +kernel
theorem dX8_readStep_129 : decode cX8_readStep 129 = .ok (.getfield 21, 3) := by decide +kernel
theorem dX8_readStep_132 : decode cX8_readStep 132 = .ok (.iload_n 1, 1) := by decide +kernel
theorem dX8_readStep_133 : decode cX8_readStep 133 = .ok (.iload_n 2, 1) := by decide +kernel
theorem dX8_readStep_134 : decode cX8_readStep 134 = .ok (.aload_n 0, 1) := by decide +kernel
theorem dX8_readStep_135 : decode cX8_readStep 135 = .ok (.getfield 57, 3) := by decide +kernel
theorem dX8_readStep_138 : decode cX8_readStep 138 = .ok (.invokevirtual 107, 3) := by decide +kernel
theorem dX8_readStep_141 : decode cX8_readStep 141 = .ok (.iconst 1, 1) := by decide +kernel
theorem dX8_readStep_142 : decode cX8_readStep 142 = .ok (.ireturn, 1) := by decide +kernel
theorem dX8_readRhyme_0 : decode cX8_readRhyme 0 = .ok (.aload_n 0, 1) := by decide +kernel
theorem dX8_readRhyme_1 : decode cX8_readRhyme 1 = .ok (.getfield 21, 3) := by decide +kernel
theorem dX8_readRhyme_4 : decode cX8_readRhyme 4 = .ok (.getfield 111, 3) := by decide +kernel
theorem dX8_readRhyme_7 : decode cX8_readRhyme 7 = .ok (.bipush 8, 2) := by decide +kernel
theorem dX8_readRhyme_9 : decode cX8_readRhyme 9 = .ok (.if_icmp .lt 9, 3) := by decide +kernel
theorem dX8_readRhyme_12 : decode cX8_readRhyme 12 = .ok (.aload_n 0, 1) := by decide +kernel
theorem dX8_readRhyme_13 : decode cX8_readRhyme 13 = .ok (.iconst 5, 1) := by decide +kernel
theorem dX8_readRhyme_14 : decode cX8_readRhyme 14 = .ok (.invokevirtual 92, 3) := by decide +kernel
theorem dX8_readRhyme_17 : decode cX8_readRhyme 17 = .ok (.ireturn, 1) := by decide +kernel
theorem dX8_readRhyme_18 : decode cX8_readRhyme 18 = .ok (.aload_n 0, 1) := by decide +kernel
theorem dX8_readRhyme_19 : decode cX8_readRhyme 19 = .ok (.aload_n 0, 1) := by decide +kernel
theorem dX8_readRhyme_20 : decode cX8_readRhyme 20 = .ok (.getfield 95, 3) := by decide +kernel
theorem dX8_readRhyme_23 : decode cX8_readRhyme 23 = .ok (.iconst 1, 1) := by decide +kernel
theorem dX8_readRhyme_24 : decode cX8_readRhyme 24 = .ok (.iadd, 1) := by decide +kernel
theorem dX8_readRhyme_25 : decode cX8_readRhyme 25 = .ok (.invokevirtual 45, 3) := by decide +kernel
theorem dX8_readRhyme_28 : decode cX8_readRhyme 28 = .ok (.aload_n 0, 1) := by decide +kernel
theorem dX8_readRhyme_29 : decode cX8_readRhyme 29 = .ok (.iconst 0, 1) := by decide +kernel
theorem dX8_readRhyme_30 : decode cX8_readRhyme 30 = .ok (.aload_n 0, 1) := by decide +kernel
theorem dX8_readRhyme_31 : decode cX8_readRhyme 31 = .ok (.getfield 21, 3) := by decide +kernel
theorem dX8_readRhyme_34 : decode cX8_readRhyme 34 = .ok (.getfield 104, 3) := by decide +kernel
theorem dX8_readRhyme_37 : decode cX8_readRhyme 37 = .ok (.iconst 1, 1) := by decide +kernel
theorem dX8_readRhyme_38 : decode cX8_readRhyme 38 = .ok (.isub, 1) := by decide +kernel
theorem dX8_readRhyme_39 : decode cX8_readRhyme 39 = .ok (.iconst (-1), 1) := by decide +kernel
theorem dX8_readRhyme_40 : decode cX8_readRhyme 40 = .ok (.invokevirtual 53, 3) := by decide +kernel
theorem dX8_readRhyme_43 : decode cX8_readRhyme 43 = .ok (.ifCond .ne 5, 3) := by decide +kernel
theorem dX8_readRhyme_46 : decode cX8_readRhyme 46 = .ok (.iconst 0, 1) := by decide +kernel
theorem dX8_readRhyme_47 : decode cX8_readRhyme 47 = .ok (.ireturn, 1) := by decide +kernel
theorem dX8_readRhyme_48 : decode cX8_readRhyme 48 = .ok (.aload_n 0, 1) := by decide +kernel
theorem dX8_readRhyme_49 : decode cX8_readRhyme 49 = .ok (.getfield 57, 3) := by decide +kernel
theorem dX8_readRhyme_52 : decode cX8_readRhyme 52 = .ok (.istore_n 1, 1) := by decide +kernel
theorem dX8_readRhyme_53 : decode cX8_readRhyme 53 = .ok (.aload_n 0, 1) := by decide +kernel
theorem dX8_readRhyme_54 : decode cX8_readRhyme 54 = .ok (.iconst 0, 1) := by decide +kernel
theorem dX8_readRhyme_55 : decode cX8_readRhyme 55 = .ok (.aload_n 0, 1) := by decide +kernel
theorem dX8_readRhyme_56 : decode cX8_readRhyme 56 = .ok (.getfield 21, 3) := by decide +kernel
theorem dX8_readRhyme_59 : decode cX8_readRhyme 59 = .ok (.getfield 104, 3) := by decide +kernel
theorem dX8_readRhyme_62 : decode cX8_readRhyme 62 = .ok (.iconst 1, 1) := by decide +kernel
theorem dX8_readRhyme_63 : decode cX8_readRhyme 63 = .ok (.isub, 1) := by decide +kernel
theorem dX8_readRhyme_64 : decode cX8_readRhyme 64 = .ok (.iload_n 1, 1) := by decide +kernel
theorem dX8_readRhyme_65 : decode cX8_readRhyme 65 = .ok (.invokevirtual 53, 3) := by decide +kernel
theorem dX8_readRhyme_68 : decode cX8_readRhyme 68 = .ok (.ifCond .ne 5, 3) := by decide +kernel
theorem dX8_readRhyme_71 : decode cX8_readRhyme 71 = .ok (.iconst 0, 1) := by decide +kernel
theorem dX8_readRhyme_72 : decode cX8_readRhyme 72 = .ok (.ireturn, 1) := by decide +kernel
theorem dX8_readRhyme_73 : decode cX8_readRhyme 73 = .ok (.aload_n 0, 1) := by decide +kernel
theorem dX8_readRhyme_74 : decode cX8_readRhyme 74 = .ok (.getfield 21, 3) := by decide +kernel
theorem dX8_readRhyme_77 : decode cX8_readRhyme 77 = .ok (.iload_n 1, 1) := by decide +kernel
theorem dX8_readRhyme_78 : decode cX8_readRhyme 78 = .ok (.aload_n 0, 1) := by decide +kernel
theorem dX8_readRhyme_79 : decode cX8_readRhyme 79 = .ok (.getfield 57, 3) := by decide +kernel
theorem dX8_readRhyme_82 : decode cX8_readRhyme 82 = .ok (.invokevirtual 114, 3) := by decide +kernel
theorem dX8_readRhyme_85 : decode cX8_readRhyme 85 = .ok (.iconst 1, 1) := by decide +kernel
theorem dX8_readRhyme_86 : decode cX8_readRhyme 86 = .ok (.ireturn, 1) := by decide +kernel
theorem dX8_readWhole_0 : decode cX8_readWhole 0 = .ok (.aload_n 0, 1) := by decide +kernel
theorem dX8_readWhole_1 : decode cX8_readWhole 1 = .ok (.aload_n 0, 1) := by decide +kernel
theorem dX8_readWhole_2 : decode cX8_readWhole 2 = .ok (.getfield 95, 3) := by decide +kernel
theorem dX8_readWhole_5 : decode cX8_readWhole 5 = .ok (.iconst 1, 1) := by decide +kernel
theorem dX8_readWhole_6 : decode cX8_readWhole 6 = .ok (.iadd, 1) := by decide +kernel
theorem dX8_readWhole_7 : decode cX8_readWhole 7 = .ok (.invokevirtual 45, 3) := by decide +kernel
theorem dX8_readWhole_10 : decode cX8_readWhole 10 = .ok (.aload_n 0, 1) := by decide +kernel
theorem dX8_readWhole_11 : decode cX8_readWhole 11 = .ok (.getfield 63, 3) := by decide +kernel
theorem dX8_readWhole_14 : decode cX8_readWhole 14 = .ok (.iconst 2, 1) := by decide +kernel
theorem dX8_readWhole_15 : decode cX8_readWhole 15 = .ok (.if_icmp .ne 29, 3) := by decide +kernel
theorem dX8_readWhole_18 : decode cX8_readWhole 18 = .ok (.aload_n 0, 1) := by decide +kernel
theorem dX8_readWhole_19 : decode cX8_readWhole 19 = .ok (.getfield 21, 3) := by decide +kernel
theorem dX8_readWhole_22 : decode cX8_readWhole 22 = .ok (.getfield 118, 3) := by decide +kernel
theorem dX8_readWhole_25 : decode cX8_readWhole 25 = .ok (.aload_n 0, 1) := by decide +kernel
theorem dX8_readWhole_26 : decode cX8_readWhole 26 = .ok (.getfield 122, 3) := by decide +kernel
theorem dX8_readWhole_29 : decode cX8_readWhole 29 = .ok (.l2i, 1) := by decide +kernel
theorem dX8_readWhole_30 : decode cX8_readWhole 30 = .ok (.invokestatic 126, 3) := by decide +kernel
theorem dX8_readWhole_33 : decode cX8_readWhole 33 = .ok (.ifCond .le 11, 3) := by decide +kernel
theorem dX8_readWhole_36 : decode cX8_readWhole 36 = .ok (.aload_n 0, 1) := by decide +kernel
theorem dX8_readWhole_37 : decode cX8_readWhole 37 = .ok (.getfield 122, 3) := by decide +kernel
theorem dX8_readWhole_40 : decode cX8_readWhole 40 = .ok (.l2i, 1) := by decide +kernel
theorem dX8_readWhole_41 : decode cX8_readWhole 41 = .ok (.goto 4, 3) := by decide +kernel
theorem dX8_readWhole_44 : decode cX8_readWhole 44 = .ok (.iconst (-1), 1) := by decide +kernel
theorem dX8_readWhole_45 : decode cX8_readWhole 45 = .ok (.istore_n 1, 1) := by decide +kernel
theorem dX8_readWhole_46 : decode cX8_readWhole 46 = .ok (.aload_n 0, 1) := by decide +kernel
theorem dX8_readWhole_47 : decode cX8_readWhole 47 = .ok (.iconst 0, 1) := by decide +kernel
theorem dX8_readWhole_48 : decode cX8_readWhole 48 = .ok (.aload_n 0, 1) := by decide +kernel
theorem dX8_readWhole_49 : decode cX8_readWhole 49 = .ok (.getfield 21, 3) := by decide +kernel
theorem dX8_readWhole_52 : decode cX8_readWhole 52 = .ok (.getfield 104, 3) := by decide +kernel
theorem dX8_readWhole_55 : decode cX8_readWhole 55 = .ok (.iconst 1, 1) := by decide +kernel
theorem dX8_readWhole_56 : decode cX8_readWhole 56 = .ok (.isub, 1) := by decide +kernel
theorem dX8_readWhole_57 : decode cX8_readWhole 57 = .ok (.iload_n 1, 1) := by decide +kernel
theorem dX8_readWhole_58 : decode cX8_readWhole 58 = .ok (.invokevirtual 53, 3) := by decide +kernel
theorem dX8_readWhole_61 : decode cX8_readWhole 61 = .ok (.ifCond .ne 5, 3) := by decide +kernel
theorem dX8_readWhole_64 : decode cX8_readWhole 64 = .ok (.iconst 0, 1) := by decide +kernel
theorem dX8_readWhole_65 : decode cX8_readWhole 65 = .ok (.ireturn, 1) := by decide +kernel
theorem dX8_readWhole_66 : decode cX8_readWhole 66 = .ok (.aload_n 0, 1) := by decide +kernel
theorem dX8_readWhole_67 : decode cX8_readWhole 67 = .ok (.getfield 57, 3) := by decide +kernel
theorem dX8_readWhole_70 : decode cX8_readWhole 70 = .ok (.istore_n 2, 1) := by decide +kernel
theorem dX8_readWhole_71 : decode cX8_readWhole 71 = .ok (.aload_n 0, 1) := by decide +kernel
theorem dX8_readWhole_72 : decode cX8_readWhole 72 = .ok (.sipush 138, 3) := by decide +kernel
theorem dX8_readWhole_75 : decode cX8_readWhole 75 = .ok (.invokevirtual 49, 3) := by decide +kernel
theorem dX8_readWhole_78 : decode cX8_readWhole 78 = .ok (.ifCond .eq 14, 3) := by decide +kernel
theorem dX8_readWhole_81 : decode cX8_readWhole 81 = .ok (.aload_n 0, 1) := by decide +kernel
theorem dX8_readWhole_82 : decode cX8_readWhole 82 = .ok (.iconst 1, 1) := by decide +kernel
theorem dX8_readWhole_83 : decode cX8_readWhole 83 = .ok (.bipush 99, 2) := by decide +kernel
theorem dX8_readWhole_85 : decode cX8_readWhole 85 = .ok (.iconst (-1), 1) := by decide +kernel
theorem dX8_readWhole_86 : decode cX8_readWhole 86 = .ok (.invokevirtual 53, 3) := by decide +kernel
theorem dX8_readWhole_89 : decode cX8_readWhole 89 = .ok (.ifCond .ne 5, 3) := by decide +kernel
theorem dX8_readWhole_92 : decode cX8_readWhole 92 = .ok (.iconst 0, 1) := by decide +kernel
theorem dX8_readWhole_93 : decode cX8_readWhole 93 = .ok (.ireturn, 1) := by decide +kernel
theorem dX8_readWhole_94 : decode cX8_readWhole 94 = .ok (.aload_n 0, 1) := by decide +kernel
theorem dX8_readWhole_95 : decode cX8_readWhole 95 = .ok (.getfield 21, 3) := by decide +kernel
theorem dX8_readWhole_98 : decode cX8_readWhole 98 = .ok (.iload_n 2, 1) := by decide +kernel
theorem dX8_readWhole_99 : decode cX8_readWhole 99 = .ok (.aload_n 0, 1) := by decide +kernel
theorem dX8_readWhole_100 : decode cX8_readWhole 100 = .ok (.getfield 57, 3) := by decide +kernel
theorem dX8_readWhole_103 : decode cX8_readWhole 103 = .ok (.invokevirtual 130, 3) := by decide +kernel
theorem dX8_readWhole_106 : decode cX8_readWhole 106 = .ok (.iconst 1, 1) := by decide +kernel
theorem dX8_readWhole_107 : decode cX8_readWhole 107 = .ok (.ireturn, 1) := by decide +kernel
theorem dX8_readFeet_0 : decode cX8_readFeet 0 = .ok (.aload_n 0, 1) := by decide +kernel
theorem dX8_readFeet_1 : decode cX8_readFeet 1 = .ok (.getfield 21, 3) := by decide +kernel
theorem dX8_readFeet_4 : decode cX8_readFeet 4 = .ok (.getfield 133, 3) := by decide +kernel
theorem dX8_readFeet_7 : decode cX8_readFeet 7 = .ok (.ifCond .le 9, 3) := by decide +kernel
theorem dX8_readFeet_10 : decode cX8_readFeet 10 = .ok (.aload_n 0, 1) := by decide +kernel
theorem dX8_readFeet_11 : decode cX8_readFeet 11 = .ok (.iconst 3, 1) := by decide +kernel
theorem dX8_readFeet_12 : decode cX8_readFeet 12 = .ok (.invokevirtual 92, 3) := by decide +kernel
theorem dX8_readFeet_15 : decode cX8_readFeet 15 = .ok (.ireturn, 1) := by decide +kernel
theorem dX8_readFeet_16 : decode cX8_readFeet 16 = .ok (.aload_n 0, 1) := by decide +kernel
theorem dX8_readFeet_17 : decode cX8_readFeet 17 = .ok (.aload_n 0, 1) := by decide +kernel
theorem dX8_readFeet_18 : decode cX8_readFeet 18 = .ok (.getfield 95, 3) := by decide +kernel
theorem dX8_readFeet_21 : decode cX8_readFeet 21 = .ok (.iconst 1, 1) := by decide +kernel
theorem dX8_readFeet_22 : decode cX8_readFeet 22 = .ok (.iadd, 1) := by decide +kernel
theorem dX8_readFeet_23 : decode cX8_readFeet 23 = .ok (.invokevirtual 45, 3) := by decide +kernel
theorem dX8_readFeet_26 : decode cX8_readFeet 26 = .ok (.aload_n 0, 1) := by decide +kernel
theorem dX8_readFeet_27 : decode cX8_readFeet 27 = .ok (.iconst 1, 1) := by decide +kernel
theorem dX8_readFeet_28 : decode cX8_readFeet 28 = .ok (.bipush 99, 2) := by decide +kernel
theorem dX8_readFeet_30 : decode cX8_readFeet 30 = .ok (.iconst (-1), 1) := by decide +kernel
theorem dX8_readFeet_31 : decode cX8_readFeet 31 = .ok (.invokevirtual 53, 3) := by decide +kernel
theorem dX8_readFeet_34 : decode cX8_readFeet 34 = .ok (.ifCond .ne 5, 3) := by decide +kernel
theorem dX8_readFeet_37 : decode cX8_readFeet 37 = .ok (.iconst 0, 1) := by decide +kernel
theorem dX8_readFeet_38 : decode cX8_readFeet 38 = .ok (.ireturn, 1) := by decide +kernel
theorem dX8_readFeet_39 : decode cX8_readFeet 39 = .ok (.aload_n 0, 1) := by decide +kernel
theorem dX8_readFeet_40 : decode cX8_readFeet 40 = .ok (.getfield 21, 3) := by decide +kernel
theorem dX8_readFeet_43 : decode cX8_readFeet 43 = .ok (.aload_n 0, 1) := by decide +kernel
theorem dX8_readFeet_44 : decode cX8_readFeet 44 = .ok (.getfield 57, 3) := by decide +kernel
theorem dX8_readFeet_47 : decode cX8_readFeet 47 = .ok (.putfield 133, 3) := by decide +kernel
theorem dX8_readFeet_50 : decode cX8_readFeet 50 = .ok (.iconst 1, 1) := by decide +kernel
theorem dX8_readFeet_51 : decode cX8_readFeet 51 = .ok (.ireturn, 1) := by decide +kernel
theorem dX8_readWord_0 : decode cX8_readWord 0 = .ok (.aload_n 0, 1) := by decide +kernel
theorem dX8_readWord_1 : decode cX8_readWord 1 = .ok (.getfield 21, 3) := by decide +kernel
theorem dX8_readWord_4 : decode cX8_readWord 4 = .ok (.getfield 136, 3) := by decide +kernel
theorem dX8_readWord_7 : decode cX8_readWord 7 = .ok (.bipush 12, 2) := by decide +kernel
theorem dX8_readWord_9 : decode cX8_readWord 9 = .ok (.if_icmp .lt 9, 3) := by decide +kernel
theorem dX8_readWord_12 : decode cX8_readWord 12 = .ok (.aload_n 0, 1) := by decide +kernel
theorem dX8_readWord_13 : decode cX8_readWord 13 = .ok (.iconst 5, 1) := by decide +kernel
theorem dX8_readWord_14 : decode cX8_readWord 14 = .ok (.invokevirtual 92, 3) := by decide +kernel
theorem dX8_readWord_17 : decode cX8_readWord 17 = .ok (.ireturn, 1) := by decide +kernel
theorem dX8_readWord_18 : decode cX8_readWord 18 = .ok (.aload_n 0, 1) := by decide +kernel
theorem dX8_readWord_19 : decode cX8_readWord 19 = .ok (.aload_n 0, 1) := by decide +kernel
theorem dX8_readWord_20 : decode cX8_readWord 20 = .ok (.getfield 95, 3) := by decide +kernel
theorem dX8_readWord_23 : decode cX8_readWord 23 = .ok (.iconst 1, 1) := by decide +kernel
theorem dX8_readWord_24 : decode cX8_readWord 24 = .ok (.iadd, 1) := by decide +kernel
theorem dX8_readWord_25 : decode cX8_readWord 25 = .ok (.invokevirtual 45, 3) := by decide +kernel
theorem dX8_readWord_28 : decode cX8_readWord 28 = .ok (.aload_n 0, 1) := by decide +kernel
theorem dX8_readWord_29 : decode cX8_readWord 29 = .ok (.invokevirtual 139, 3) := by decide +kernel
theorem dX8_readWord_32 : decode cX8_readWord 32 = .ok (.ifCond .eq 24, 3) := by decide +kernel
theorem dX8_readWord_35 : decode cX8_readWord 35 = .ok (.aload_n 0, 1) := by decide +kernel
theorem dX8_readWord_36 : decode cX8_readWord 36 = .ok (.sipush 136, 3) := by decide +kernel
theorem dX8_readWord_39 : decode cX8_readWord 39 = .ok (.invokevirtual 49, 3) := by decide +kernel
theorem dX8_readWord_42 : decode cX8_readWord 42 = .ok (.ifCond .eq 14, 3) := by decide +kernel
theorem dX8_readWord_45 : decode cX8_readWord 45 = .ok (.aload_n 0, 1) := by decide +kernel
theorem dX8_readWord_46 : decode cX8_readWord 46 = .ok (.iconst 0, 1) := by decide +kernel
theorem dX8_readWord_47 : decode cX8_readWord 47 = .ok (.bipush 99, 2) := by decide +kernel
theorem dX8_readWord_49 : decode cX8_readWord 49 = .ok (.iconst (-1), 1) := by decide +kernel
theorem dX8_readWord_50 : decode cX8_readWord 50 = .ok (.invokevirtual 53, 3) := by decide +kernel
theorem dX8_readWord_53 : decode cX8_readWord 53 = .ok (.ifCond .ne 5, 3) := by decide +kernel
theorem dX8_readWord_56 : decode cX8_readWord 56 = .ok (.iconst 0, 1) := by decide +kernel
theorem dX8_readWord_57 : decode cX8_readWord 57 = .ok (.ireturn, 1) := by decide +kernel
theorem dX8_readWord_58 : decode cX8_readWord 58 = .ok (.aload_n 0, 1) := by decide +kernel
theorem dX8_readWord_59 : decode cX8_readWord 59 = .ok (.getfield 57, 3) := by decide +kernel
theorem dX8_readWord_62 : decode cX8_readWord 62 = .ok (.istore_n 1, 1) := by decide +kernel
theorem dX8_readWord_63 : decode cX8_readWord 63 = .ok (.aload_n 0, 1) := by decide +kernel
theorem dX8_readWord_64 : decode cX8_readWord 64 = .ok (.sipush 141, 3) := by decide +kernel
theorem dX8_readWord_67 : decode cX8_readWord 67 = .ok (.invokevirtual 49, 3) := by decide +kernel
theorem dX8_readWord_70 : decode cX8_readWord 70 = .ok (.ifCond .eq 14, 3) := by decide +kernel
theorem dX8_readWord_73 : decode cX8_readWord 73 = .ok (.aload_n 0, 1) := by decide +kernel
theorem dX8_readWord_74 : decode cX8_readWord 74 = .ok (.iconst 1, 1) := by decide +kernel
theorem dX8_readWord_75 : decode cX8_readWord 75 = .ok (.bipush 9, 2) := by decide +kernel
theorem dX8_readWord_77 : decode cX8_readWord 77 = .ok (.iconst (-1), 1) := by decide +kernel
theorem dX8_readWord_78 : decode cX8_readWord 78 = .ok (.invokevirtual 53, 3) := by decide +kernel
theorem dX8_readWord_81 : decode cX8_readWord 81 = .ok (.ifCond .ne 5, 3) := by decide +kernel
theorem dX8_readWord_84 : decode cX8_readWord 84 = .ok (.iconst 0, 1) := by decide +kernel
theorem dX8_readWord_85 : decode cX8_readWord 85 = .ok (.ireturn, 1) := by decide +kernel
theorem dX8_readWord_86 : decode cX8_readWord 86 = .ok (.aload_n 0, 1) := by decide +kernel
theorem dX8_readWord_87 : decode cX8_readWord 87 = .ok (.getfield 57, 3) := by decide +kernel
theorem dX8_readWord_90 : decode cX8_readWord 90 = .ok (.istore_n 2, 1) := by decide +kernel
theorem dX8_readWord_91 : decode cX8_readWord 91 = .ok (.aload_n 0, 1) := by decide +kernel
theorem dX8_readWord_92 : decode cX8_readWord 92 = .ok (.sipush 142, 3) := by decide +kernel
theorem dX8_readWord_95 : decode cX8_readWord 95 = .ok (.invokevirtual 49, 3) := by decide +kernel
theorem dX8_readWord_98 : decode cX8_readWord 98 = .ok (.ifCond .eq 14, 3) := by decide +kernel
theorem dX8_readWord_101 : decode cX8_readWord 101 = .ok (.aload_n 0, 1) := by decide +kernel
theorem dX8_readWord_102 : decode cX8_readWord 102 = .ok (.iconst 0, 1) := by decide +kernel
theorem dX8_readWord_103 : decode cX8_readWord 103 = .ok (.bipush 99, 2) := by decide +kernel
theorem dX8_readWord_105 : decode cX8_readWord 105 = .ok (.iconst (-1), 1) := by decide +kernel
theorem dX8_readWord_106 : decode cX8_readWord 106 = .ok (.invokevirtual 53, 3) := by decide +kernel
theorem dX8_readWord_109 : decode cX8_readWord 109 = .ok (.ifCond .ne 5, 3) := by decide +kernel
theorem dX8_readWord_112 : decode cX8_readWord 112 = .ok (.iconst 0, 1) := by decide +kernel
theorem dX8_readWord_113 : decode cX8_readWord 113 = .ok (.ireturn, 1) := by decide +kernel
theorem dX8_readWord_114 : decode cX8_readWord 114 = .ok (.aload_n 0, 1) := by decide +kernel
theorem dX8_readWord_115 : decode cX8_readWord 115 = .ok (.getfield 21, 3) := by decide +kernel
theorem dX8_readWord_118 : decode cX8_readWord 118 = .ok (.iload_n 1, 1) := by decide +kernel
theorem dX8_readWord_119 : decode cX8_readWord 119 = .ok (.iload_n 2, 1) := by decide +kernel
theorem dX8_readWord_120 : decode cX8_readWord 120 = .ok (.aload_n 0, 1) := by decide +kernel
theorem dX8_readWord_121 : decode cX8_readWord 121 = .ok (.getfield 57, 3) := by decide +kernel
theorem dX8_readWord_124 : decode cX8_readWord 124 = .ok (.invokevirtual 142, 3) := by decide +kernel
theorem dX8_readWord_127 : decode cX8_readWord 127 = .ok (.iconst 1, 1) := by decide +kernel
theorem dX8_readWord_128 : decode cX8_readWord 128 = .ok (.ireturn, 1) := by decide +kernel
theorem dX8_takeName_0 : decode cX8_takeName 0 = .ok (.aload_n 0, 1) := by decide +kernel
theorem dX8_takeName_1 : decode cX8_takeName 1 = .ok (.getfield 63, 3) := by decide +kernel
theorem dX8_takeName_4 : decode cX8_takeName 4 = .ok (.iconst 3, 1) := by decide +kernel
theorem dX8_takeName_5 : decode cX8_takeName 5 = .ok (.if_icmp .eq 19, 3) := by decide +kernel
theorem dX8_takeName_8 : decode cX8_takeName 8 = .ok (.aload_n 0, 1) := by decide +kernel
theorem dX8_takeName_9 : decode cX8_takeName 9 = .ok (.getfield 63, 3) := by decide +kernel
theorem dX8_takeName_12 : decode cX8_takeName 12 = .ok (.sipush 147, 3) := by decide +kernel
theorem dX8_takeName_15 : decode cX8_takeName 15 = .ok (.if_icmp .ge 9, 3) := by decide +kernel
theorem dX8_takeName_18 : decode cX8_takeName 18 = .ok (.aload_n 0, 1) := by decide +kernel
theorem dX8_takeName_19 : decode cX8_takeName 19 = .ok (.iconst 1, 1) := by decide +kernel
theorem dX8_takeName_20 : decode cX8_takeName 20 = .ok (.invokevirtual 92, 3) := by decide +kernel
theorem dX8_takeName_23 : decode cX8_takeName 23 = .ok (.ireturn, 1) := by decide +kernel
theorem dX8_takeName_24 : decode cX8_takeName 24 = .ok (.iconst 0, 1) := by decide +kernel
theorem dX8_takeName_25 : decode cX8_takeName 25 = .ok (.istore_n 1, 1) := by decide +kernel
theorem dX8_takeName_26 : decode cX8_takeName 26 = .ok (.iload_n 1, 1) := by decide +kernel
theorem dX8_takeName_27 : decode cX8_takeName 27 = .ok (.aload_n 0, 1) := by decide +kernel
theorem dX8_takeName_28 : decode cX8_takeName 28 = .ok (.getfield 21, 3) := by decide +kernel
theorem dX8_takeName_31 : decode cX8_takeName 31 = .ok (.getfield 136, 3) := by decide +kernel
theorem dX8_takeName_34 : decode cX8_takeName 34 = .ok (.if_icmp .ge 38, 3) := by decide +kernel
theorem dX8_takeName_37 : decode cX8_takeName 37 = .ok (.iload_n 1, 1) := by decide +kernel
theorem dX8_takeName_38 : decode cX8_takeName 38 = .ok (.aload_n 0, 1) := by decide +kernel
theorem dX8_takeName_39 : decode cX8_takeName 39 = .ok (.getfield 25, 3) := by decide +kernel
theorem dX8_takeName_42 : decode cX8_takeName 42 = .ok (.arraylength, 1) := by decide +kernel
theorem dX8_takeName_43 : decode cX8_takeName 43 = .ok (.if_icmp .ge 29, 3) := by decide +kernel
theorem dX8_takeName_46 : decode cX8_takeName 46 = .ok (.aload_n 0, 1) := by decide +kernel
theorem dX8_takeName_47 : decode cX8_takeName 47 = .ok (.getfield 25, 3) := by decide +kernel
theorem dX8_takeName_50 : decode cX8_takeName 50 = .ok (.iload_n 1, 1) := by decide +kernel
theorem dX8_takeName_51 : decode cX8_takeName 51 = .ok (.laload, 1) := by decide +kernel
theorem dX8_takeName_52 : decode cX8_takeName 52 = .ok (.aload_n 0, 1) := by decide +kernel
theorem dX8_takeName_53 : decode cX8_takeName 53 = .ok (.getfield 122, 3) := by decide +kernel
theorem dX8_takeName_56 : decode cX8_takeName 56 = .ok (.lcmp, 1) := by decide +kernel
theorem dX8_takeName_57 : decode cX8_takeName 57 = .ok (.ifCond .ne 9, 3) := by decide +kernel
theorem dX8_takeName_60 : decode cX8_takeName 60 = .ok (.aload_n 0, 1) := by decide +kernel
theorem dX8_takeName_61 : decode cX8_takeName 61 = .ok (.iconst 3, 1) := by decide +kernel
theorem dX8_takeName_62 : decode cX8_takeName 62 = .ok (.invokevirtual 92, 3) := by decide +kernel
theorem dX8_takeName_65 : decode cX8_takeName 65 = .ok (.ireturn, 1) := by decide +kernel
theorem dX8_takeName_66 : decode cX8_takeName 66 = .ok (.iinc 1 1, 3) := by decide +kernel
theorem dX8_takeName_69 : decode cX8_takeName 69 = .ok (.goto (-43), 3) := by decide +kernel
theorem dX8_takeName_72 : decode cX8_takeName 72 = .ok (.aload_n 0, 1) := by decide +kernel
theorem dX8_takeName_73 : decode cX8_takeName 73 = .ok (.getfield 21, 3) := by decide +kernel
theorem dX8_takeName_76 : decode cX8_takeName 76 = .ok (.getfield 136, 3) := by decide +kernel
theorem dX8_takeName_79 : decode cX8_takeName 79 = .ok (.ifCond .lt 34, 3) := by decide +kernel
theorem dX8_takeName_82 : decode cX8_takeName 82 = .ok (.aload_n 0, 1) := by decide +kernel
theorem dX8_takeName_83 : decode cX8_takeName 83 = .ok (.getfield 21, 3) := by decide +kernel
theorem dX8_takeName_86 : decode cX8_takeName 86 = .ok (.getfield 136, 3) := by decide +kernel
theorem dX8_takeName_89 : decode cX8_takeName 89 = .ok (.aload_n 0, 1) := by decide +kernel
theorem dX8_takeName_90 : decode cX8_takeName 90 = .ok (.getfield 25, 3) := by decide +kernel
theorem dX8_takeName_93 : decode cX8_takeName 93 = .ok (.arraylength, 1) := by decide +kernel
theorem dX8_takeName_94 : decode cX8_takeName 94 = .ok (.if_icmp .ge 19, 3) := by decide +kernel
theorem dX8_takeName_97 : decode cX8_takeName 97 = .ok (.aload_n 0, 1) := by decide +kernel
theorem dX8_takeName_98 : decode cX8_takeName 98 = .ok (.getfield 25, 3) := by decide +kernel
theorem dX8_takeName_101 : decode cX8_takeName 101 = .ok (.aload_n 0, 1) := by decide +kernel
theorem dX8_takeName_102 : decode cX8_takeName 102 = .ok (.getfield 21, 3) := by decide +kernel
theorem dX8_takeName_105 : decode cX8_takeName 105 = .ok (.getfield 136, 3) := by decide +kernel
theorem dX8_takeName_108 : decode cX8_takeName 108 = .ok (.aload_n 0, 1) := by decide +kernel
theorem dX8_takeName_109 : decode cX8_takeName 109 = .ok (.getfield 122, 3) := by decide +kernel
theorem dX8_takeName_112 : decode cX8_takeName 112 = .ok (.lastore, 1) := by decide +kernel
theorem dX8_takeName_113 : decode cX8_takeName 113 = .ok (.aload_n 0, 1) := by decide +kernel
theorem dX8_takeName_114 : decode cX8_takeName 114 = .ok (.aload_n 0, 1) := by decide +kernel
theorem dX8_takeName_115 : decode cX8_takeName 115 = .ok (.getfield 95, 3) := by decide +kernel
theorem dX8_takeName_118 : decode cX8_takeName 118 = .ok (.iconst 1, 1) := by decide +kernel
theorem dX8_takeName_119 : decode cX8_takeName 119 = .ok (.iadd, 1) := by decide +kernel
theorem dX8_takeName_120 : decode cX8_takeName 120 = .ok (.invokevirtual 45, 3) := by decide +kernel
theorem dX8_takeName_123 : decode cX8_takeName 123 = .ok (.iconst 1, 1) := by decide +kernel
theorem dX8_takeName_124 : decode cX8_takeName 124 = .ok (.ireturn, 1) := by decide +kernel
theorem dX8_readBar_0 : decode cX8_readBar 0 = .ok (.aload_n 0, 1) := by decide +kernel
theorem dX8_readBar_1 : decode cX8_readBar 1 = .ok (.getfield 21, 3) := by decide +kernel
theorem dX8_readBar_4 : decode cX8_readBar 4 = .ok (.getfield 145, 3) := by decide +kernel
theorem dX8_readBar_7 : decode cX8_readBar 7 = .ok (.iconst 4, 1) := by decide +kernel
theorem dX8_readBar_8 : decode cX8_readBar 8 = .ok (.if_icmp .lt 9, 3) := by decide +kernel
theorem dX8_readBar_11 : decode cX8_readBar 11 = .ok (.aload_n 0, 1) := by decide +kernel
theorem dX8_readBar_12 : decode cX8_readBar 12 = .ok (.iconst 5, 1) := by decide +kernel
theorem dX8_readBar_13 : decode cX8_readBar 13 = .ok (.invokevirtual 92, 3) := by decide +kernel
theorem dX8_readBar_16 : decode cX8_readBar 16 = .ok (.ireturn, 1) := by decide +kernel
theorem dX8_readBar_17 : decode cX8_readBar 17 = .ok (.aload_n 0, 1) := by decide +kernel
theorem dX8_readBar_18 : decode cX8_readBar 18 = .ok (.aload_n 0, 1) := by decide +kernel
theorem dX8_readBar_19 : decode cX8_readBar 19 = .ok (.getfield 95, 3) := by decide +kernel
theorem dX8_readBar_22 : decode cX8_readBar 22 = .ok (.iconst 1, 1) := by decide +kernel
theorem dX8_readBar_23 : decode cX8_readBar 23 = .ok (.iadd, 1) := by decide +kernel
theorem dX8_readBar_24 : decode cX8_readBar 24 = .ok (.invokevirtual 45, 3) := by decide +kernel
theorem dX8_readBar_27 : decode cX8_readBar 27 = .ok (.aload_n 0, 1) := by decide +kernel
theorem dX8_readBar_28 : decode cX8_readBar 28 = .ok (.iconst 0, 1) := by decide +kernel
theorem dX8_readBar_29 : decode cX8_readBar 29 = .ok (.invokevirtual 147, 3) := by decide +kernel
theorem dX8_readBar_32 : decode cX8_readBar 32 = .ok (.ifCond .ne 5, 3) := by decide +kernel
theorem dX8_readBar_35 : decode cX8_readBar 35 = .ok (.iconst 0, 1) := by decide +kernel
theorem dX8_readBar_36 : decode cX8_readBar 36 = .ok (.ireturn, 1) := by decide +kernel
theorem dX8_readBar_37 : decode cX8_readBar 37 = .ok (.aload_n 0, 1) := by decide +kernel
theorem dX8_readBar_38 : decode cX8_readBar 38 = .ok (.getfield 12, 3) := by decide +kernel
theorem dX8_readBar_41 : decode cX8_readBar 41 = .ok (.sipush 10059, 3) := by decide +kernel
theorem dX8_readBar_44 : decode cX8_readBar 44 = .ok (.invokevirtual 150, 3) := by decide +kernel
theorem dX8_readBar_47 : decode cX8_readBar 47 = .ok (.aload_n 0, 1) := by decide +kernel
theorem dX8_readBar_48 : decode cX8_readBar 48 = .ok (.getfield 21, 3) := by decide +kernel
theorem dX8_readBar_51 : decode cX8_readBar 51 = .ok (.dup, 1) := by decide +kernel
theorem dX8_readBar_52 : decode cX8_readBar 52 = .ok (.getfield 145, 3) := by decide +kernel
theorem dX8_readBar_55 : decode cX8_readBar 55 = .ok (.iconst 1, 1) := by decide +kernel
theorem dX8_readBar_56 : decode cX8_readBar 56 = .ok (.iadd, 1) := by decide +kernel
theorem dX8_readBar_57 : decode cX8_readBar 57 = .ok (.putfield 145, 3) := by decide +kernel
theorem dX8_readBar_60 : decode cX8_readBar 60 = .ok (.iconst 1, 1) := by decide +kernel
theorem dX8_readBar_61 : decode cX8_readBar 61 = .ok (.ireturn, 1) := by decide +kernel
theorem dX8_readTests_0 : decode cX8_readTests 0 = .ok (.aload_n 0, 1) := by decide +kernel
theorem dX8_readTests_1 : decode cX8_readTests 1 = .ok (.iload_n 1, 1) := by decide +kernel
theorem dX8_readTests_2 : decode cX8_readTests 2 = .ok (.invokevirtual 153, 3) := by decide +kernel
theorem dX8_readTests_5 : decode cX8_readTests 5 = .ok (.istore_n 2, 1) := by decide +kernel
theorem dX8_readTests_6 : decode cX8_readTests 6 = .ok (.iconst 0, 1) := by decide +kernel
theorem dX8_readTests_7 : decode cX8_readTests 7 = .ok (.istore_n 3, 1) := by decide +kernel
theorem dX8_readTests_8 : decode cX8_readTests 8 = .ok (.iload_n 3, 1) := by decide +kernel
theorem dX8_readTests_9 : decode cX8_readTests 9 = .ok (.sipush 1000, 3) := by decide +kernel
theorem dX8_readTests_12 : decode cX8_readTests 12 = .ok (.if_icmp .ge 68, 3) := by decide +kernel
theorem dX8_readTests_15 : decode cX8_readTests 15 = .ok (.iload_n 2, 1) := by decide +kernel
theorem dX8_readTests_16 : decode cX8_readTests 16 = .ok (.ifCond .eq 64, 3) := by decide +kernel
theorem dX8_readTests_19 : decode cX8_readTests 19 = .ok (.aload_n 0, 1) := by decide +kernel
theorem dX8_readTests_20 : decode cX8_readTests 20 = .ok (.getfield 63, 3) := by decide +kernel
theorem dX8_readTests_23 : decode cX8_readTests 23 = .ok (.sipush 145, 3) := by decide +kernel
theorem dX8_readTests_26 : decode cX8_readTests 26 = .ok (.if_icmp .eq 13, 3) := by decide +kernel
theorem dX8_readTests_29 : decode cX8_readTests 29 = .ok (.aload_n 0, 1) := by decide +kernel
theorem dX8_readTests_30 : decode cX8_readTests 30 = .ok (.getfield 63, 3) := by decide +kernel
theorem dX8_readTests_33 : decode cX8_readTests 33 = .ok (.sipush 146, 3) := by decide +kernel
theorem dX8_readTests_36 : decode cX8_readTests 36 = .ok (.if_icmp .ne 44, 3) := by decide +kernel
theorem dX8_readTests_39 : decode cX8_readTests 39 = .ok (.aload_n 0, 1) := by decide +kernel
theorem dX8_readTests_40 : decode cX8_readTests 40 = .ok (.getfield 63, 3) := by decide +kernel
theorem dX8_readTests_43 : decode cX8_readTests 43 = .ok (.istore 4, 2) := by decide +kernel
theorem dX8_readTests_45 : decode cX8_readTests 45 = .ok (.aload_n 0, 1) := by decide +kernel
theorem dX8_readTests_46 : decode cX8_readTests 46 = .ok (.aload_n 0, 1) := by decide +kernel
theorem dX8_readTests_47 : decode cX8_readTests 47 = .ok (.getfield 95, 3) := by decide +kernel
theorem dX8_readTests_50 : decode cX8_readTests 50 = .ok (.iconst 1, 1) := by decide +kernel
theorem dX8_readTests_51 : decode cX8_readTests 51 = .ok (.iadd, 1) := by decide +kernel
theorem dX8_readTests_52 : decode cX8_readTests 52 = .ok (.invokevirtual 45, 3) := by decide +kernel
theorem dX8_readTests_55 : decode cX8_readTests 55 = .ok (.aload_n 0, 1) := by decide +kernel
theorem dX8_readTests_56 : decode cX8_readTests 56 = .ok (.iload_n 1, 1) := by decide +kernel
theorem dX8_readTests_57 : decode cX8_readTests 57 = .ok (.invokevirtual 153, 3) := by decide +kernel
theorem dX8_readTests_60 : decode cX8_readTests 60 = .ok (.istore_n 2, 1) := by decide +kernel
theorem dX8_readTests_61 : decode cX8_readTests 61 = .ok (.aload_n 0, 1) := by decide +kernel
theorem dX8_readTests_62 : decode cX8_readTests 62 = .ok (.getfield 12, 3) := by decide +kernel
theorem dX8_readTests_65 : decode cX8_readTests 65 = .ok (.sipush 10000, 3) := by decide +kernel
theorem dX8_readTests_68 : decode cX8_readTests 68 = .ok (.iload 4, 2) := by decide +kernel
theorem dX8_readTests_70 : decode cX8_readTests 70 = .ok (.iadd, 1) := by decide +kernel
theorem dX8_readTests_71 : decode cX8_readTests 71 = .ok (.invokevirtual 150, 3) := by decide +kernel
theorem dX8_readTests_74 : decode cX8_readTests 74 = .ok (.iinc 3 1, 3) := by decide +kernel
theorem dX8_readTests_77 : decode cX8_readTests 77 = .ok (.goto (-69), 3) := by decide +kernel
theorem dX8_readTests_80 : decode cX8_readTests 80 = .ok (.iload_n 2, 1) := by decide +kernel
theorem dX8_readTests_81 : decode cX8_readTests 81 = .ok (.ireturn, 1) := by decide +kernel
theorem dX8_readTest_0 : decode cX8_readTest 0 = .ok (.aload_n 0, 1) := by decide +kernel
theorem dX8_readTest_1 : decode cX8_readTest 1 = .ok (.iload_n 1, 1) := by decide +kernel
theorem dX8_readTest_2 : decode cX8_readTest 2 = .ok (.invokevirtual 156, 3) := by decide +kernel
theorem dX8_readTest_5 : decode cX8_readTest 5 = .ok (.istore_n 2, 1) := by decide +kernel
theorem dX8_readTest_6 : decode cX8_readTest 6 = .ok (.iload_n 2, 1) := by decide +kernel
theorem dX8_readTest_7 : decode cX8_readTest 7 = .ok (.ifCond .eq 54, 3) := by decide +kernel
theorem dX8_readTest_10 : decode cX8_readTest 10 = .ok (.aload_n 0, 1) := by decide +kernel
theorem dX8_readTest_11 : decode cX8_readTest 11 = .ok (.getfield 63, 3) := by decide +kernel
theorem dX8_readTest_14 : decode cX8_readTest 14 = .ok (.bipush 60, 2) := by decide +kernel
theorem dX8_readTest_16 : decode cX8_readTest 16 = .ok (.if_icmp .eq 12, 3) := by decide +kernel
theorem dX8_readTest_19 : decode cX8_readTest 19 = .ok (.aload_n 0, 1) := by decide +kernel
theorem dX8_readTest_20 : decode cX8_readTest 20 = .ok (.getfield 63, 3) := by decide +kernel
theorem dX8_readTest_23 : decode cX8_readTest 23 = .ok (.bipush 61, 2) := by decide +kernel
theorem dX8_readTest_25 : decode cX8_readTest 25 = .ok (.if_icmp .ne 36, 3) := by decide +kernel
theorem dX8_readTest_28 : decode cX8_readTest 28 = .ok (.aload_n 0, 1) := by decide +kernel
theorem dX8_readTest_29 : decode cX8_readTest 29 = .ok (.getfield 63, 3) := by decide +kernel
theorem dX8_readTest_32 : decode cX8_readTest 32 = .ok (.istore_n 3, 1) := by decide +kernel
theorem dX8_readTest_33 : decode cX8_readTest 33 = .ok (.aload_n 0, 1) := by decide +kernel
theorem dX8_readTest_34 : decode cX8_readTest 34 = .ok (.aload_n 0, 1) := by decide +kernel
theorem dX8_readTest_35 : decode cX8_readTest 35 = .ok (.getfield 95, 3) := by decide +kernel
theorem dX8_readTest_38 : decode cX8_readTest 38 = .ok (.iconst 1, 1) := by decide +kernel
theorem dX8_readTest_39 : decode cX8_readTest 39 = .ok (.iadd, 1) := by decide +kernel
theorem dX8_readTest_40 : decode cX8_readTest 40 = .ok (.invokevirtual 45, 3) := by decide +kernel
theorem dX8_readTest_43 : decode cX8_readTest 43 = .ok (.aload_n 0, 1) := by decide +kernel
theorem dX8_readTest_44 : decode cX8_readTest 44 = .ok (.iload_n 1, 1) := by decide +kernel
theorem dX8_readTest_45 : decode cX8_readTest 45 = .ok (.invokevirtual 156, 3) := by decide +kernel
theorem dX8_readTest_48 : decode cX8_readTest 48 = .ok (.istore_n 2, 1) := by decide +kernel
theorem dX8_readTest_49 : decode cX8_readTest 49 = .ok (.aload_n 0, 1) := by decide +kernel
theorem dX8_readTest_50 : decode cX8_readTest 50 = .ok (.getfield 12, 3) := by decide +kernel
theorem dX8_readTest_53 : decode cX8_readTest 53 = .ok (.sipush 10000, 3) := by decide +kernel
theorem dX8_readTest_56 : decode cX8_readTest 56 = .ok (.iload_n 3, 1) := by decide +kernel
theorem dX8_readTest_57 : decode cX8_readTest 57 = .ok (.iadd, 1) := by decide +kernel
theorem dX8_readTest_58 : decode cX8_readTest 58 = .ok (.invokevirtual 150, 3) := by decide +kernel
theorem dX8_readTest_61 : decode cX8_readTest 61 = .ok (.iload_n 2, 1) := by decide +kernel
theorem dX8_readTest_62 : decode cX8_readTest 62 = .ok (.ireturn, 1) := by decide +kernel
theorem dX8_readSum_0 : decode cX8_readSum 0 = .ok (.aload_n 0, 1) := by decide +kernel
theorem dX8_readSum_1 : decode cX8_readSum 1 = .ok (.iload_n 1, 1) := by decide +kernel
theorem dX8_readSum_2 : decode cX8_readSum 2 = .ok (.invokevirtual 159, 3) := by decide +kernel
theorem dX8_readSum_5 : decode cX8_readSum 5 = .ok (.istore_n 2, 1) := by decide +kernel
theorem dX8_readSum_6 : decode cX8_readSum 6 = .ok (.iconst 0, 1) := by decide +kernel
theorem dX8_readSum_7 : decode cX8_readSum 7 = .ok (.istore_n 3, 1) := by decide +kernel
theorem dX8_readSum_8 : decode cX8_readSum 8 = .ok (.iload_n 3, 1) := by decide +kernel
theorem dX8_readSum_9 : decode cX8_readSum 9 = .ok (.sipush 1000, 3) := by decide +kernel
theorem dX8_readSum_12 : decode cX8_readSum 12 = .ok (.if_icmp .ge 66, 3) := by decide +kernel
theorem dX8_readSum_15 : decode cX8_readSum 15 = .ok (.iload_n 2, 1) := by decide +kernel
theorem dX8_readSum_16 : decode cX8_readSum 16 = .ok (.ifCond .eq 62, 3) := by decide +kernel
theorem dX8_readSum_19 : decode cX8_readSum 19 = .ok (.aload_n 0, 1) := by decide +kernel
theorem dX8_readSum_20 : decode cX8_readSum 20 = .ok (.getfield 63, 3) := by decide +kernel
theorem dX8_readSum_23 : decode cX8_readSum 23 = .ok (.bipush 43, 2) := by decide +kernel
theorem dX8_readSum_25 : decode cX8_readSum 25 = .ok (.if_icmp .eq 12, 3) := by decide +kernel
theorem dX8_readSum_28 : decode cX8_readSum 28 = .ok (.aload_n 0, 1) := by decide +kernel
theorem dX8_readSum_29 : decode cX8_readSum 29 = .ok (.getfield 63, 3) := by decide +kernel
theorem dX8_readSum_32 : decode cX8_readSum 32 = .ok (.bipush 45, 2) := by decide +kernel
theorem dX8_readSum_34 : decode cX8_readSum 34 = .ok (.if_icmp .ne 44, 3) := by decide +kernel
theorem dX8_readSum_37 : decode cX8_readSum 37 = .ok (.aload_n 0, 1) := by decide +kernel
theorem dX8_readSum_38 : decode cX8_readSum 38 = .ok (.getfield 63, 3) := by decide +kernel
theorem dX8_readSum_41 : decode cX8_readSum 41 = .ok (.istore 4, 2) := by decide +kernel
theorem dX8_readSum_43 : decode cX8_readSum 43 = .ok (.aload_n 0, 1) := by decide +kernel
theorem dX8_readSum_44 : decode cX8_readSum 44 = .ok (.aload_n 0, 1) := by decide +kernel
theorem dX8_readSum_45 : decode cX8_readSum 45 = .ok (.getfield 95, 3) := by decide +kernel
theorem dX8_readSum_48 : decode cX8_readSum 48 = .ok (.iconst 1, 1) := by decide +kernel
theorem dX8_readSum_49 : decode cX8_readSum 49 = .ok (.iadd, 1) := by decide +kernel
theorem dX8_readSum_50 : decode cX8_readSum 50 = .ok (.invokevirtual 45, 3) := by decide +kernel
theorem dX8_readSum_53 : decode cX8_readSum 53 = .ok (.aload_n 0, 1) := by decide +kernel
theorem dX8_readSum_54 : decode cX8_readSum 54 = .ok (.iload_n 1, 1) := by decide +kernel
theorem dX8_readSum_55 : decode cX8_readSum 55 = .ok (.invokevirtual 159, 3) := by decide +kernel
theorem dX8_readSum_58 : decode cX8_readSum 58 = .ok (.istore_n 2, 1) := by decide +kernel
theorem dX8_readSum_59 : decode cX8_readSum 59 = .ok (.aload_n 0, 1) := by decide +kernel
theorem dX8_readSum_60 : decode cX8_readSum 60 = .ok (.getfield 12, 3) := by decide +kernel
theorem dX8_readSum_63 : decode cX8_readSum 63 = .ok (.sipush 10000, 3) := by decide +kernel
theorem dX8_readSum_66 : decode cX8_readSum 66 = .ok (.iload 4, 2) := by decide +kernel
theorem dX8_readSum_68 : decode cX8_readSum 68 = .ok (.iadd, 1) := by decide +kernel
theorem dX8_readSum_69 : decode cX8_readSum 69 = .ok (.invokevirtual 150, 3) := by decide +kernel
theorem dX8_readSum_72 : decode cX8_readSum 72 = .ok (.iinc 3 1, 3) := by decide +kernel
theorem dX8_readSum_75 : decode cX8_readSum 75 = .ok (.goto (-67), 3) := by decide +kernel
theorem dX8_readSum_78 : decode cX8_readSum 78 = .ok (.iload_n 2, 1) := by decide +kernel
theorem dX8_readSum_79 : decode cX8_readSum 79 = .ok (.ireturn, 1) := by decide +kernel
theorem dX8_readProduct_0 : decode cX8_readProduct 0 = .ok (.aload_n 0, 1) := by decide +kernel
theorem dX8_readProduct_1 : decode cX8_readProduct 1 = .ok (.iload_n 1, 1) := by decide +kernel
theorem dX8_readProduct_2 : decode cX8_readProduct 2 = .ok (.invokevirtual 162, 3) := by decide +kernel
theorem dX8_readProduct_5 : decode cX8_readProduct 5 = .ok (.istore_n 2, 1) := by decide +kernel
theorem dX8_readProduct_6 : decode cX8_readProduct 6 = .ok (.iconst 0, 1) := by decide +kernel
theorem dX8_readProduct_7 : decode cX8_readProduct 7 = .ok (.istore_n 3, 1) := by decide +kernel
theorem dX8_readProduct_8 : decode cX8_readProduct 8 = .ok (.iload_n 3, 1) := by decide +kernel
theorem dX8_readProduct_9 : decode cX8_readProduct 9 = .ok (.sipush 1000, 3) := by decide +kernel
theorem dX8_readProduct_12 : decode cX8_readProduct 12 = .ok (.if_icmp .ge 48, 3) := by decide +kernel
theorem dX8_readProduct_15 : decode cX8_readProduct 15 = .ok (.iload_n 2, 1) := by decide +kernel
theorem dX8_readProduct_16 : decode cX8_readProduct 16 = .ok (.ifCond .eq 44, 3) := by decide +kernel
theorem dX8_readProduct_19 : decode cX8_readProduct 19 = .ok (.aload_n 0, 1) := by decide +kernel
theorem dX8_readProduct_20 : decode cX8_readProduct 20 = .ok (.getfield 63, 3) := by decide +kernel
theorem dX8_readProduct_23 : decode cX8_readProduct 23 = .ok (.bipush 42, 2) := by decide +kernel
theorem dX8_readProduct_25 : decode cX8_readProduct 25 = .ok (.if_icmp .ne 35, 3) := by decide +kernel
theorem dX8_readProduct_28 : decode cX8_readProduct 28 = .ok (.aload_n 0, 1) := by decide +kernel
theorem dX8_readProduct_29 : decode cX8_readProduct 29 = .ok (.aload_n 0, 1) := by decide +kernel
theorem dX8_readProduct_30 : decode cX8_readProduct 30 = .ok (.getfield 95, 3) := by decide +kernel
theorem dX8_readProduct_33 : decode cX8_readProduct 33 = .ok (.iconst 1, 1) := by decide +kernel
theorem dX8_readProduct_34 : decode cX8_readProduct 34 = .ok (.iadd, 1) := by decide +kernel
theorem dX8_readProduct_35 : decode cX8_readProduct 35 = .ok (.invokevirtual 45, 3) := by decide +kernel
theorem dX8_readProduct_38 : decode cX8_readProduct 38 = .ok (.aload_n 0, 1) := by decide +kernel
theorem dX8_readProduct_39 : decode cX8_readProduct 39 = .ok (.iload_n 1, 1) := by decide +kernel
theorem dX8_readProduct_40 : decode cX8_readProduct 40 = .ok (.invokevirtual 162, 3) := by decide +kernel
theorem dX8_readProduct_43 : decode cX8_readProduct 43 = .ok (.istore_n 2, 1) := by decide +kernel
theorem dX8_readProduct_44 : decode cX8_readProduct 44 = .ok (.aload_n 0, 1) := by decide +kernel
theorem dX8_readProduct_45 : decode cX8_readProduct 45 = .ok (.getfield 12, 3) := by decide +kernel
theorem dX8_readProduct_48 : decode cX8_readProduct 48 = .ok (.sipush 10042, 3) := by decide +kernel
theorem dX8_readProduct_51 : decode cX8_readProduct 51 = .ok (.invokevirtual 150, 3) := by decide +kernel
theorem dX8_readProduct_54 : decode cX8_readProduct 54 = .ok (.iinc 3 1, 3) := by decide +kernel
theorem dX8_readProduct_57 : decode cX8_readProduct 57 = .ok (.goto (-49), 3) := by decide +kernel
theorem dX8_readProduct_60 : decode cX8_readProduct 60 = .ok (.iload_n 2, 1) := by decide +kernel
theorem dX8_readProduct_61 : decode cX8_readProduct 61 = .ok (.ireturn, 1) := by decide +kernel
theorem dX8_readPart_0 : decode cX8_readPart 0 = .ok (.aload_n 0, 1) := by decide +kernel
theorem dX8_readPart_1 : decode cX8_readPart 1 = .ok (.getfield 63, 3) := by decide +kernel
theorem dX8_readPart_4 : decode cX8_readPart 4 = .ok (.istore_n 2, 1) := by decide +kernel
theorem dX8_readPart_5 : decode cX8_readPart 5 = .ok (.iload_n 2, 1) := by decide +kernel
theorem dX8_readPart_6 : decode cX8_readPart 6 = .ok (.iconst 2, 1) := by decide +kernel
theorem dX8_readPart_7 : decode cX8_readPart 7 = .ok (.if_icmp .eq 29, 3) := by decide +kernel
theorem dX8_readPart_10 : decode cX8_readPart 10 = .ok (.iload_n 2, 1) := by decide +kernel
theorem dX8_readPart_11 : decode cX8_readPart 11 = .ok (.sipush 144, 3) := by decide +kernel
theorem dX8_readPart_14 : decode cX8_readPart 14 = .ok (.if_icmp .eq 22, 3) := by decide +kernel
theorem dX8_readPart_17 : decode cX8_readPart 17 = .ok (.iload_n 2, 1) := by decide +kernel
theorem dX8_readPart_18 : decode cX8_readPart 18 = .ok (.bipush 40, 2) := by decide +kernel
theorem dX8_readPart_20 : decode cX8_readPart 20 = .ok (.if_icmp .eq 16, 3) := by decide +kernel
theorem dX8_readPart_23 : decode cX8_readPart 23 = .ok (.iload_n 2, 1) := by decide +kernel
theorem dX8_readPart_24 : decode cX8_readPart 24 = .ok (.sipush 147, 3) := by decide +kernel
theorem dX8_readPart_27 : decode cX8_readPart 27 = .ok (.if_icmp .ge 9, 3) := by decide +kernel
theorem dX8_readPart_30 : decode cX8_readPart 30 = .ok (.aload_n 0, 1) := by decide +kernel
theorem dX8_readPart_31 : decode cX8_readPart 31 = .ok (.iconst 1, 1) := by decide +kernel
theorem dX8_readPart_32 : decode cX8_readPart 32 = .ok (.invokevirtual 92, 3) := by decide +kernel
theorem dX8_readPart_35 : decode cX8_readPart 35 = .ok (.ireturn, 1) := by decide +kernel
theorem dX8_readPart_36 : decode cX8_readPart 36 = .ok (.iload_n 1, 1) := by decide +kernel
theorem dX8_readPart_37 : decode cX8_readPart 37 = .ok (.iconst 5, 1) := by decide +kernel
theorem dX8_readPart_38 : decode cX8_readPart 38 = .ok (.if_icmp .lt 9, 3) := by decide +kernel
theorem dX8_readPart_41 : decode cX8_readPart 41 = .ok (.aload_n 0, 1) := by decide +kernel
theorem dX8_readPart_42 : decode cX8_readPart 42 = .ok (.iconst 5, 1) := by decide +kernel
theorem dX8_readPart_43 : decode cX8_readPart 43 = .ok (.invokevirtual 92, 3) := by decide +kernel
theorem dX8_readPart_46 : decode cX8_readPart 46 = .ok (.ireturn, 1) := by decide +kernel
theorem dX8_readPart_47 : decode cX8_readPart 47 = .ok (.aload_n 0, 1) := by decide +kernel
theorem dX8_readPart_48 : decode cX8_readPart 48 = .ok (.getfield 122, 3) := by decide +kernel
theorem dX8_readPart_51 : decode cX8_readPart 51 = .ok (.l2i, 1) := by decide +kernel
theorem dX8_readPart_52 : decode cX8_readPart 52 = .ok (.istore_n 3, 1) := by decide +kernel
theorem dX8_readPart_53 : decode cX8_readPart 53 = .ok (.aload_n 0, 1) := by decide +kernel
theorem dX8_readPart_54 : decode cX8_readPart 54 = .ok (.aload_n 0, 1) := by decide +kernel
theorem dX8_readPart_55 : decode cX8_readPart 55 = .ok (.getfield 95, 3) := by decide +kernel
theorem dX8_readPart_58 : decode cX8_readPart 58 = .ok (.iconst 1, 1) := by decide +kernel
theorem dX8_readPart_59 : decode cX8_readPart 59 = .ok (.iadd, 1) := by decide +kernel
theorem dX8_readPart_60 : decode cX8_readPart 60 = .ok (.invokevirtual 45, 3) := by decide +kernel
theorem dX8_readPart_63 : decode cX8_readPart 63 = .ok (.iload_n 2, 1) := by decide +kernel
theorem dX8_readPart_64 : decode cX8_readPart 64 = .ok (.bipush 40, 2) := by decide +kernel
theorem dX8_readPart_66 : decode cX8_readPart 66 = .ok (.if_icmp .ne 28, 3) := by decide +kernel
theorem dX8_readPart_69 : decode cX8_readPart 69 = .ok (.aload_n 0, 1) := by decide +kernel
theorem dX8_readPart_70 : decode cX8_readPart 70 = .ok (.iload_n 1, 1) := by decide +kernel
theorem dX8_readPart_71 : decode cX8_readPart 71 = .ok (.iconst 1, 1) := by decide +kernel
theorem dX8_readPart_72 : decode cX8_readPart 72 = .ok (.iadd, 1) := by decide +kernel
theorem dX8_readPart_73 : decode cX8_readPart 73 = .ok (.invokevirtual 147, 3) := by decide +kernel
theorem dX8_readPart_76 : decode cX8_readPart 76 = .ok (.ifCond .eq 16, 3) := by decide +kernel
theorem dX8_readPart_79 : decode cX8_readPart 79 = .ok (.aload_n 0, 1) := by decide +kernel
theorem dX8_readPart_80 : decode cX8_readPart 80 = .ok (.bipush 41, 2) := by decide +kernel
theorem dX8_readPart_82 : decode cX8_readPart 82 = .ok (.invokevirtual 49, 3) := by decide +kernel
theorem dX8_readPart_85 : decode cX8_readPart 85 = .ok (.ifCond .eq 7, 3) := by decide +kernel
theorem dX8_readPart_88 : decode cX8_readPart 88 = .ok (.iconst 1, 1) := by decide +kernel
theorem dX8_readPart_89 : decode cX8_readPart 89 = .ok (.goto 4, 3) := by decide +kernel
theorem dX8_readPart_92 : decode cX8_readPart 92 = .ok (.iconst 0, 1) := by decide +kernel
theorem dX8_readPart_93 : decode cX8_readPart 93 = .ok (.ireturn, 1) := by decide +kernel
theorem dX8_readPart_94 : decode cX8_readPart 94 = .ok (.iload_n 2, 1) := by decide +kernel
theorem dX8_readPart_95 : decode cX8_readPart 95 = .ok (.sipush 144, 3) := by decide +kernel
theorem dX8_readPart_98 : decode cX8_readPart 98 = .ok (.if_icmp .ne 15, 3) := by decide +kernel
theorem dX8_readPart_101 : decode cX8_readPart 101 = .ok (.aload_n 0, 1) := by decide +kernel
theorem dX8_readPart_102 : decode cX8_readPart 102 = .ok (.iload_n 1, 1) := by decide +kernel
theorem dX8_readPart_103 : decode cX8_readPart 103 = .ok (.iconst 1, 1) := by decide +kernel
theorem dX8_readPart_104 : decode cX8_readPart 104 = .ok (.iadd, 1) := by decide +kernel
theorem dX8_readPart_105 : decode cX8_readPart 105 = .ok (.invokevirtual 162, 3) := by decide +kernel
theorem dX8_readPart_108 : decode cX8_readPart 108 = .ok (.ifCond .ne 5, 3) := by decide +kernel
theorem dX8_readPart_111 : decode cX8_readPart 111 = .ok (.iconst 0, 1) := by decide +kernel
theorem dX8_readPart_112 : decode cX8_readPart 112 = .ok (.ireturn, 1) := by decide +kernel
theorem dX8_readPart_113 : decode cX8_readPart 113 = .ok (.aload_n 0, 1) := by decide +kernel
theorem dX8_readPart_114 : decode cX8_readPart 114 = .ok (.getfield 12, 3) := by decide +kernel
theorem dX8_readPart_117 : decode cX8_readPart 117 = .ok (.iload_n 2, 1) := by decide +kernel
theorem dX8_readPart_118 : decode cX8_readPart 118 = .ok (.iconst 2, 1) := by decide +kernel
theorem dX8_readPart_119 : decode cX8_readPart 119 = .ok (.if_icmp .ne 7, 3) := by decide +kernel
theorem dX8_readPart_122 : decode cX8_readPart 122 = .ok (.iload_n 3, 1) := by decide +kernel
theorem dX8_readPart_123 : decode cX8_readPart 123 = .ok (.goto 8, 3) := by decide +kernel
theorem dX8_readPart_126 : decode cX8_readPart 126 = .ok (.sipush 10000, 3) := by decide +kernel
theorem dX8_readPart_129 : decode cX8_readPart 129 = .ok (.iload_n 2, 1) := by decide +kernel
theorem dX8_readPart_130 : decode cX8_readPart 130 = .ok (.iadd, 1) := by decide +kernel
theorem dX8_readPart_131 : decode cX8_readPart 131 = .ok (.invokevirtual 150, 3) := by decide +kernel
theorem dX8_readPart_134 : decode cX8_readPart 134 = .ok (.iconst 1, 1) := by decide +kernel
theorem dX8_readPart_135 : decode cX8_readPart 135 = .ok (.ireturn, 1) := by decide +kernel
theorem dX8_holdToken_0 : decode cX8_holdToken 0 = .ok (.iload_n 1, 1) := by decide +kernel
theorem dX8_holdToken_1 : decode cX8_holdToken 1 = .ok (.ifCond .lt 59, 3) := by decide +kernel
theorem dX8_holdToken_4 : decode cX8_holdToken 4 = .ok (.iload_n 1, 1) := by decide +kernel
theorem dX8_holdToken_5 : decode cX8_holdToken 5 = .ok (.aload_n 0, 1) := by decide +kernel
theorem dX8_holdToken_6 : decode cX8_holdToken 6 = .ok (.getfield 29, 3) := by decide +kernel
theorem dX8_holdToken_9 : decode cX8_holdToken 9 = .ok (.getfield 165, 3) := by decide +kernel
theorem dX8_holdToken_12 : decode cX8_holdToken 12 = .ok (.if_icmp .ge 48, 3) := by decide +kernel
theorem dX8_holdToken_15 : decode cX8_holdToken 15 = .ok (.iload_n 1, 1) := by decide +kernel
theorem dX8_holdToken_16 : decode cX8_holdToken 16 = .ok (.aload_n 0, 1) := by decide +kernel
theorem dX8_holdToken_17 : decode cX8_holdToken 17 = .ok (.getfield 29, 3) := by decide +kernel
theorem dX8_holdToken_20 : decode cX8_holdToken 20 = .ok (.getfield 168, 3) := by decide +kernel
theorem dX8_holdToken_23 : decode cX8_holdToken 23 = .ok (.arraylength, 1) := by decide +kernel
theorem dX8_holdToken_24 : decode cX8_holdToken 24 = .ok (.if_icmp .ge 36, 3) := by decide +kernel
theorem dX8_holdToken_27 : decode cX8_holdToken 27 = .ok (.aload_n 0, 1) := by decide +kernel
theorem dX8_holdToken_28 : decode cX8_holdToken 28 = .ok (.iload_n 1, 1) := by decide +kernel
theorem dX8_holdToken_29 : decode cX8_holdToken 29 = .ok (.putfield 95, 3) := by decide +kernel
theorem dX8_holdToken_32 : decode cX8_holdToken 32 = .ok (.aload_n 0, 1) := by decide +kernel
theorem dX8_holdToken_33 : decode cX8_holdToken 33 = .ok (.aload_n 0, 1) := by decide +kernel
theorem dX8_holdToken_34 : decode cX8_holdToken 34 = .ok (.getfield 29, 3) := by decide +kernel
theorem dX8_holdToken_37 : decode cX8_holdToken 37 = .ok (.getfield 171, 3) := by decide +kernel
theorem dX8_holdToken_40 : decode cX8_holdToken 40 = .ok (.iload_n 1, 1) := by decide +kernel
theorem dX8_holdToken_41 : decode cX8_holdToken 41 = .ok (.invokestatic 126, 3) := by decide +kernel
theorem dX8_holdToken_44 : decode cX8_holdToken 44 = .ok (.putfield 63, 3) := by decide +kernel
theorem dX8_holdToken_47 : decode cX8_holdToken 47 = .ok (.aload_n 0, 1) := by decide +kernel
theorem dX8_holdToken_48 : decode cX8_holdToken 48 = .ok (.aload_n 0, 1) := by decide +kernel
theorem dX8_holdToken_49 : decode cX8_holdToken 49 = .ok (.getfield 29, 3) := by decide +kernel
theorem dX8_holdToken_52 : decode cX8_holdToken 52 = .ok (.getfield 168, 3) := by decide +kernel
theorem dX8_holdToken_55 : decode cX8_holdToken 55 = .ok (.iload_n 1, 1) := by decide +kernel
theorem dX8_holdToken_56 : decode cX8_holdToken 56 = .ok (.laload, 1) := by decide +kernel
theorem dX8_holdToken_57 : decode cX8_holdToken 57 = .ok (.putfield 122, 3) := by decide +kernel
theorem dX8_holdToken_60 : decode cX8_holdToken 60 = .ok (.return_, 1) := by decide +kernel
theorem dX8_takeKey_0 : decode cX8_takeKey 0 = .ok (.aload_n 0, 1) := by decide +kernel
theorem dX8_takeKey_1 : decode cX8_takeKey 1 = .ok (.getfield 63, 3) := by decide +kernel
theorem dX8_takeKey_4 : decode cX8_takeKey 4 = .ok (.iload_n 1, 1) := by decide +kernel
theorem dX8_takeKey_5 : decode cX8_takeKey 5 = .ok (.if_icmp .eq 9, 3) := by decide +kernel
theorem dX8_takeKey_8 : decode cX8_takeKey 8 = .ok (.aload_n 0, 1) := by decide +kernel
theorem dX8_takeKey_9 : decode cX8_takeKey 9 = .ok (.iconst 1, 1) := by decide +kernel
theorem dX8_takeKey_10 : decode cX8_takeKey 10 = .ok (.invokevirtual 92, 3) := by decide +kernel
theorem dX8_takeKey_13 : decode cX8_takeKey 13 = .ok (.ireturn, 1) := by decide +kernel
theorem dX8_takeKey_14 : decode cX8_takeKey 14 = .ok (.aload_n 0, 1) := by decide +kernel
theorem dX8_takeKey_15 : decode cX8_takeKey 15 = .ok (.aload_n 0, 1) := by decide +kernel
theorem dX8_takeKey_16 : decode cX8_takeKey 16 = .ok (.getfield 95, 3) := by decide +kernel
theorem dX8_takeKey_19 : decode cX8_takeKey 19 = .ok (.iconst 1, 1) := by decide +kernel
theorem dX8_takeKey_20 : decode cX8_takeKey 20 = .ok (.iadd, 1) := by decide +kernel
theorem dX8_takeKey_21 : decode cX8_takeKey 21 = .ok (.invokevirtual 45, 3) := by decide +kernel
theorem dX8_takeKey_24 : decode cX8_takeKey 24 = .ok (.iconst 1, 1) := by decide +kernel
theorem dX8_takeKey_25 : decode cX8_takeKey 25 = .ok (.ireturn, 1) := by decide +kernel
theorem dX8_takeNumber_0 : decode cX8_takeNumber 0 = .ok (.aload_n 0, 1) := by decide +kernel
theorem dX8_takeNumber_1 : decode cX8_takeNumber 1 = .ok (.getfield 63, 3) := by decide +kernel
theorem dX8_takeNumber_4 : decode cX8_takeNumber 4 = .ok (.iconst 2, 1) := by decide +kernel
theorem dX8_takeNumber_5 : decode cX8_takeNumber 5 = .ok (.if_icmp .eq 9, 3) := by decide +kernel
theorem dX8_takeNumber_8 : decode cX8_takeNumber 8 = .ok (.aload_n 0, 1) := by decide +kernel
theorem dX8_takeNumber_9 : decode cX8_takeNumber 9 = .ok (.iconst 1, 1) := by decide +kernel
theorem dX8_takeNumber_10 : decode cX8_takeNumber 10 = .ok (.invokevirtual 92, 3) := by decide +kernel
theorem dX8_takeNumber_13 : decode cX8_takeNumber 13 = .ok (.ireturn, 1) := by decide +kernel
theorem dX8_takeNumber_14 : decode cX8_takeNumber 14 = .ok (.aload_n 0, 1) := by decide +kernel
theorem dX8_takeNumber_15 : decode cX8_takeNumber 15 = .ok (.getfield 122, 3) := by decide +kernel
theorem dX8_takeNumber_18 : decode cX8_takeNumber 18 = .ok (.iload_n 3, 1) := by decide +kernel
theorem dX8_takeNumber_19 : decode cX8_takeNumber 19 = .ok (.i2l, 1) := by decide +kernel
theorem dX8_takeNumber_20 : decode cX8_takeNumber 20 = .ok (.lcmp, 1) := by decide +kernel
theorem dX8_takeNumber_21 : decode cX8_takeNumber 21 = .ok (.ifCond .ne 9, 3) := by decide +kernel
theorem dX8_takeNumber_24 : decode cX8_takeNumber 24 = .ok (.aload_n 0, 1) := by decide +kernel
theorem dX8_takeNumber_25 : decode cX8_takeNumber 25 = .ok (.iconst 3, 1) := by decide +kernel
theorem dX8_takeNumber_26 : decode cX8_takeNumber 26 = .ok (.invokevirtual 92, 3) := by decide +kernel
theorem dX8_takeNumber_29 : decode cX8_takeNumber 29 = .ok (.ireturn, 1) := by decide +kernel
theorem dX8_takeNumber_30 : decode cX8_takeNumber 30 = .ok (.aload_n 0, 1) := by decide +kernel
theorem dX8_takeNumber_31 : decode cX8_takeNumber 31 = .ok (.getfield 122, 3) := by decide +kernel
theorem dX8_takeNumber_34 : decode cX8_takeNumber 34 = .ok (.iload_n 1, 1) := by decide +kernel
theorem dX8_takeNumber_35 : decode cX8_takeNumber 35 = .ok (.i2l, 1) := by decide +kernel
theorem dX8_takeNumber_36 : decode cX8_takeNumber 36 = .ok (.lcmp, 1) := by decide +kernel
theorem dX8_takeNumber_37 : decode cX8_takeNumber 37 = .ok (.ifCond .lt 13, 3) := by decide +kernel
theorem dX8_takeNumber_40 : decode cX8_takeNumber 40 = .ok (.aload_n 0, 1) := by decide +kernel
theorem dX8_takeNumber_41 : decode cX8_takeNumber 41 = .ok (.getfield 122, 3) := by decide +kernel
theorem dX8_takeNumber_44 : decode cX8_takeNumber 44 = .ok (.iload_n 2, 1) := by decide +kernel
theorem dX8_takeNumber_45 : decode cX8_takeNumber 45 = .ok (.i2l, 1) := by decide +kernel
theorem dX8_takeNumber_46 : decode cX8_takeNumber 46 = .ok (.lcmp, 1) := by decide +kernel
theorem dX8_takeNumber_47 : decode cX8_takeNumber 47 = .ok (.ifCond .le 9, 3) := by decide +kernel
theorem dX8_takeNumber_50 : decode cX8_takeNumber 50 = .ok (.aload_n 0, 1) := by decide +kernel
theorem dX8_takeNumber_51 : decode cX8_takeNumber 51 = .ok (.iconst 4, 1) := by decide +kernel
theorem dX8_takeNumber_52 : decode cX8_takeNumber 52 = .ok (.invokevirtual 92, 3) := by decide +kernel
theorem dX8_takeNumber_55 : decode cX8_takeNumber 55 = .ok (.ireturn, 1) := by decide +kernel
theorem dX8_takeNumber_56 : decode cX8_takeNumber 56 = .ok (.aload_n 0, 1) := by decide +kernel
theorem dX8_takeNumber_57 : decode cX8_takeNumber 57 = .ok (.aload_n 0, 1) := by decide +kernel
theorem dX8_takeNumber_58 : decode cX8_takeNumber 58 = .ok (.getfield 122, 3) := by decide +kernel
theorem dX8_takeNumber_61 : decode cX8_takeNumber 61 = .ok (.l2i, 1) := by decide +kernel
theorem dX8_takeNumber_62 : decode cX8_takeNumber 62 = .ok (.putfield 57, 3) := by decide +kernel
theorem dX8_takeNumber_65 : decode cX8_takeNumber 65 = .ok (.aload_n 0, 1) := by decide +kernel
theorem dX8_takeNumber_66 : decode cX8_takeNumber 66 = .ok (.aload_n 0, 1) := by decide +kernel
theorem dX8_takeNumber_67 : decode cX8_takeNumber 67 = .ok (.getfield 95, 3) := by decide +kernel
theorem dX8_takeNumber_70 : decode cX8_takeNumber 70 = .ok (.iconst 1, 1) := by decide +kernel
theorem dX8_takeNumber_71 : decode cX8_takeNumber 71 = .ok (.iadd, 1) := by decide +kernel
theorem dX8_takeNumber_72 : decode cX8_takeNumber 72 = .ok (.invokevirtual 45, 3) := by decide +kernel
theorem dX8_takeNumber_75 : decode cX8_takeNumber 75 = .ok (.iconst 1, 1) := by decide +kernel
theorem dX8_takeNumber_76 : decode cX8_takeNumber 76 = .ok (.ireturn, 1) := by decide +kernel
theorem dX8_isWrong_0 : decode cX8_isWrong 0 = .ok (.aload_n 0, 1) := by decide +kernel
theorem dX8_isWrong_1 : decode cX8_isWrong 1 = .ok (.iload_n 1, 1) := by decide +kernel
theorem dX8_isWrong_2 : decode cX8_isWrong 2 = .ok (.bipush 16, 2) := by decide +kernel
theorem dX8_isWrong_4 : decode cX8_isWrong 4 = .ok (.aload_n 0, 1) := by decide +kernel
theorem dX8_isWrong_5 : decode cX8_isWrong 5 = .ok (.getfield 29, 3) := by decide +kernel
theorem dX8_isWrong_8 : decode cX8_isWrong 8 = .ok (.getfield 174, 3) := by decide +kernel
theorem dX8_isWrong_11 : decode cX8_isWrong 11 = .ok (.aload_n 0, 1) := by decide +kernel
theorem dX8_isWrong_12 : decode cX8_isWrong 12 = .ok (.getfield 95, 3) := by decide +kernel
theorem dX8_isWrong_15 : decode cX8_isWrong 15 = .ok (.invokestatic 126, 3) := by decide +kernel
theorem dX8_isWrong_18 : decode cX8_isWrong 18 = .ok (.imul, 1) := by decide +kernel
theorem dX8_isWrong_19 : decode cX8_isWrong 19 = .ok (.iadd, 1) := by decide +kernel
theorem dX8_isWrong_20 : decode cX8_isWrong 20 = .ok (.putfield 38, 3) := by decide +kernel
theorem dX8_isWrong_23 : decode cX8_isWrong 23 = .ok (.iconst 0, 1) := by decide +kernel
theorem dX8_isWrong_24 : decode cX8_isWrong 24 = .ok (.ireturn, 1) := by decide +kernel
theorem dX9_init_0 : decode cX9_init 0 = .ok (.aload_n 0, 1) := by decide +kernel
theorem dX9_init_1 : decode cX9_init 1 = .ok (.invokespecial 3, 3) := by decide +kernel
theorem dX9_init_4 : decode cX9_init 4 = .ok (.aload_n 0, 1) := by decide +kernel
theorem dX9_init_5 : decode cX9_init 5 = .ok (.new 9, 3) := by decide +kernel
theorem dX9_init_8 : decode cX9_init 8 = .ok (.dup, 1) := by decide +kernel
theorem dX9_init_9 : decode cX9_init 9 = .ok (.bipush 12, 2) := by decide +kernel
theorem dX9_init_11 : decode cX9_init 11 = .ok (.invokespecial 11, 3) := by decide +kernel
theorem dX9_init_14 : decode cX9_init 14 = .ok (.putfield 14, 3) := by decide +kernel
theorem dX9_init_17 : decode cX9_init 17 = .ok (.aload_n 0, 1) := by decide +kernel
theorem dX9_init_18 : decode cX9_init 18 = .ok (.bipush 12, 2) := by decide +kernel
theorem dX9_init_20 : decode cX9_init 20 = .ok (.newarray .int, 2) := by decide +kernel
theorem dX9_init_22 : decode cX9_init 22 = .ok (.putfield 20, 3) := by decide +kernel
theorem dX9_init_25 : decode cX9_init 25 = .ok (.aload_n 0, 1) := by decide +kernel
theorem dX9_init_26 : decode cX9_init 26 = .ok (.bipush 12, 2) := by decide +kernel
theorem dX9_init_28 : decode cX9_init 28 = .ok (.newarray .int, 2) := by decide +kernel
theorem dX9_init_30 : decode cX9_init 30 = .ok (.putfield 24, 3) := by decide +kernel
theorem dX9_init_33 : decode cX9_init 33 = .ok (.aload_n 0, 1) := by decide +kernel
theorem dX9_init_34 : decode cX9_init 34 = .ok (.bipush 12, 2) := by decide +kernel
theorem dX9_init_36 : decode cX9_init 36 = .ok (.newarray .int, 2) := by decide +kernel
theorem dX9_init_38 : decode cX9_init 38 = .ok (.putfield 27, 3) := by decide +kernel
theorem dX9_init_41 : decode cX9_init 41 = .ok (.aload_n 0, 1) := by decide +kernel
theorem dX9_init_42 : decode cX9_init 42 = .ok (.sipush 144, 3) := by decide +kernel
theorem dX9_init_45 : decode cX9_init 45 = .ok (.newarray .int, 2) := by decide +kernel
theorem dX9_init_47 : decode cX9_init 47 = .ok (.putfield 30, 3) := by decide +kernel
theorem dX9_init_50 : decode cX9_init 50 = .ok (.aload_n 0, 1) := by decide +kernel
theorem dX9_init_51 : decode cX9_init 51 = .ok (.bipush 12, 2) := by decide +kernel
theorem dX9_init_53 : decode cX9_init 53 = .ok (.newarray .int, 2) := by decide +kernel
theorem dX9_init_55 : decode cX9_init 55 = .ok (.putfield 33, 3) := by decide +kernel
theorem dX9_init_58 : decode cX9_init 58 = .ok (.aload_n 0, 1) := by decide +kernel
theorem dX9_init_59 : decode cX9_init 59 = .ok (.bipush 12, 2) := by decide +kernel
theorem dX9_init_61 : decode cX9_init 61 = .ok (.newarray .int, 2) := by decide +kernel
theorem dX9_init_63 : decode cX9_init 63 = .ok (.putfield 36, 3) := by decide +kernel
theorem dX9_init_66 : decode cX9_init 66 = .ok (.return_, 1) := by decide +kernel
theorem dX9_follow_0 : decode cX9_follow 0 = .ok (.aload_n 0, 1) := by decide +kernel
theorem dX9_follow_1 : decode cX9_follow 1 = .ok (.aload_n 1, 1) := by decide +kernel
theorem dX9_follow_2 : decode cX9_follow 2 = .ok (.getfield 39, 3) := by decide +kernel
theorem dX9_follow_5 : decode cX9_follow 5 = .ok (.putfield 45, 3) := by decide +kernel
theorem dX9_follow_8 : decode cX9_follow 8 = .ok (.aload_n 1, 1) := by decide +kernel
theorem dX9_follow_9 : decode cX9_follow 9 = .ok (.getfield 46, 3) := by decide +kernel
theorem dX9_follow_12 : decode cX9_follow 12 = .ok (.aload_n 0, 1) := by decide +kernel
theorem dX9_follow_13 : decode cX9_follow 13 = .ok (.getfield 20, 3) := by decide +kernel
theorem dX9_follow_16 : decode cX9_follow 16 = .ok (.invokestatic 47, 3) := by decide +kernel
theorem dX9_follow_19 : decode cX9_follow 19 = .ok (.iconst 0, 1) := by decide +kernel
theorem dX9_follow_20 : decode cX9_follow 20 = .ok (.istore_n 2, 1) := by decide +kernel
theorem dX9_follow_21 : decode cX9_follow 21 = .ok (.iload_n 2, 1) := by decide +kernel
theorem dX9_follow_22 : decode cX9_follow 22 = .ok (.aload_n 0, 1) := by decide +kernel
theorem dX9_follow_23 : decode cX9_follow 23 = .ok (.getfield 45, 3) := by decide +kernel
theorem dX9_follow_26 : decode cX9_follow 26 = .ok (.if_icmp .ge 25, 3) := by decide +kernel
theorem dX9_follow_29 : decode cX9_follow 29 = .ok (.aload_n 0, 1) := by decide +kernel
theorem dX9_follow_30 : decode cX9_follow 30 = .ok (.getfield 24, 3) := by decide +kernel
theorem dX9_follow_33 : decode cX9_follow 33 = .ok (.aload_n 0, 1) := by decide +kernel
theorem dX9_follow_34 : decode cX9_follow 34 = .ok (.getfield 20, 3) := by decide +kernel
theorem dX9_follow_37 : decode cX9_follow 37 = .ok (.iload_n 2, 1) := by decide +kernel
theorem dX9_follow_38 : decode cX9_follow 38 = .ok (.invokestatic 51, 3) := by decide +kernel
theorem dX9_follow_41 : decode cX9_follow 41 = .ok (.iload_n 2, 1) := by decide +kernel
theorem dX9_follow_42 : decode cX9_follow 42 = .ok (.invokestatic 55, 3) := by decide +kernel
theorem dX9_follow_45 : decode cX9_follow 45 = .ok (.iinc 2 1, 3) := by decide +kernel
theorem dX9_follow_48 : decode cX9_follow 48 = .ok (.goto (-27), 3) := by decide +kernel
theorem dX9_follow_51 : decode cX9_follow 51 = .ok (.aload_n 0, 1) := by decide +kernel
theorem dX9_follow_52 : decode cX9_follow 52 = .ok (.getfield 14, 3) := by decide +kernel
theorem dX9_follow_55 : decode cX9_follow 55 = .ok (.aload_n 0, 1) := by decide +kernel
theorem dX9_follow_56 : decode cX9_follow 56 = .ok (.getfield 20, 3) := by decide +kernel
theorem dX9_follow_59 : decode cX9_follow 59 = .ok (.aload_n 0, 1) := by decide +kernel
theorem dX9_follow_60 : decode cX9_follow 60 = .ok (.getfield 45, 3) := by decide +kernel
theorem dX9_follow_63 : decode cX9_follow 63 = .ok (.invokevirtual 59, 3) := by decide +kernel
theorem dX9_follow_66 : decode cX9_follow 66 = .ok (.aload_n 0, 1) := by decide +kernel
theorem dX9_follow_67 : decode cX9_follow 67 = .ok (.getfield 30, 3) := by decide +kernel
theorem dX9_follow_70 : decode cX9_follow 70 = .ok (.iconst 0, 1) := by decide +kernel
theorem dX9_follow_71 : decode cX9_follow 71 = .ok (.invokestatic 63, 3) := by decide +kernel
theorem dX9_follow_74 : decode cX9_follow 74 = .ok (.iconst 0, 1) := by decide +kernel
theorem dX9_follow_75 : decode cX9_follow 75 = .ok (.istore_n 2, 1) := by decide +kernel
theorem dX9_follow_76 : decode cX9_follow 76 = .ok (.iload_n 2, 1) := by decide +kernel
theorem dX9_follow_77 : decode cX9_follow 77 = .ok (.bipush 12, 2) := by decide +kernel
theorem dX9_follow_79 : decode cX9_follow 79 = .ok (.if_icmp .ge 27, 3) := by decide +kernel
theorem dX9_follow_82 : decode cX9_follow 82 = .ok (.aload_n 0, 1) := by decide +kernel
theorem dX9_follow_83 : decode cX9_follow 83 = .ok (.getfield 33, 3) := by decide +kernel
theorem dX9_follow_86 : decode cX9_follow 86 = .ok (.iload_n 2, 1) := by decide +kernel
theorem dX9_follow_87 : decode cX9_follow 87 = .ok (.iload_n 2, 1) := by decide +kernel
theorem dX9_follow_88 : decode cX9_follow 88 = .ok (.invokestatic 55, 3) := by decide +kernel
theorem dX9_follow_91 : decode cX9_follow 91 = .ok (.aload_n 0, 1) := by decide +kernel
theorem dX9_follow_92 : decode cX9_follow 92 = .ok (.getfield 27, 3) := by decide +kernel
theorem dX9_follow_95 : decode cX9_follow 95 = .ok (.iload_n 2, 1) := by decide +kernel
theorem dX9_follow_96 : decode cX9_follow 96 = .ok (.iload_n 2, 1) := by decide +kernel
theorem dX9_follow_97 : decode cX9_follow 97 = .ok (.invokestatic 55, 3) := by decide +kernel
theorem dX9_follow_100 : decode cX9_follow 100 = .ok (.iinc 2 1, 3) := by decide +kernel
theorem dX9_follow_103 : decode cX9_follow 103 = .ok (.goto (-27), 3) := by decide +kernel
theorem dX9_follow_106 : decode cX9_follow 106 = .ok (.lconst 0, 1) := by decide +kernel
theorem dX9_follow_107 : decode cX9_follow 107 = .ok (.lstore_n 2, 1) := by decide +kernel
theorem dX9_follow_108 : decode cX9_follow 108 = .ok (.lload_n 2, 1) := by decide +kernel
theorem dX9_follow_109 : decode cX9_follow 109 = .ok (.aload_n 0, 1) := by decide +kernel
theorem dX9_follow_110 : decode cX9_follow 110 = .ok (.getfield 14, 3) := by decide +kernel
theorem dX9_follow_113 : decode cX9_follow 113 = .ok (.getfield 66, 3) := by decide +kernel
theorem dX9_follow_116 : decode cX9_follow 116 = .ok (.lcmp, 1) := by decide +kernel
theorem dX9_follow_117 : decode cX9_follow 117 = .ok (.ifCond .ge 23, 3) := by decide +kernel
theorem dX9_follow_120 : decode cX9_follow 120 = .ok (.aload_n 0, 1) := by decide +kernel
theorem dX9_follow_121 : decode cX9_follow 121 = .ok (.invokevirtual 70, 3) := by decide +kernel
theorem dX9_follow_124 : decode cX9_follow 124 = .ok (.aload_n 0, 1) := by decide +kernel
theorem dX9_follow_125 : decode cX9_follow 125 = .ok (.aload_n 1, 1) := by decide +kernel
theorem dX9_follow_126 : decode cX9_follow 126 = .ok (.invokevirtual 73, 3) := by decide +kernel
theorem dX9_follow_129 : decode cX9_follow 129 = .ok (.aload_n 0, 1) := by decide +kernel
theorem dX9_follow_130 : decode cX9_follow 130 = .ok (.invokevirtual 77, 3) := by decide +kernel
theorem dX9_follow_133 : decode cX9_follow 133 = .ok (.lload_n 2, 1) := by decide +kernel
theorem dX9_follow_134 : decode cX9_follow 134 = .ok (.lconst 1, 1) := by decide +kernel
theorem dX9_follow_135 : decode cX9_follow 135 = .ok (.ladd, 1) := by decide +kernel
theorem dX9_follow_136 : decode cX9_follow 136 = .ok (.lstore_n 2, 1) := by decide +kernel
theorem dX9_follow_137 : decode cX9_follow 137 = .ok (.goto (-29), 3) := by decide +kernel
theorem dX9_follow_140 : decode cX9_follow 140 = .ok (.return_, 1) := by decide +kernel
theorem dX9_addNeighbours_0 : decode cX9_addNeighbours 0 = .ok (.iconst 0, 1) := by decide +kernel
theorem dX9_addNeighbours_1 : decode cX9_addNeighbours 1 = .ok (.istore_n 1, 1) := by decide +kernel
theorem dX9_addNeighbours_2 : decode cX9_addNeighbours 2 = .ok (.iload_n 1, 1) := by decide +kernel
theorem dX9_addNeighbours_3 : decode cX9_addNeighbours 3 = .ok (.iconst 1, 1) := by decide +kernel
theorem dX9_addNeighbours_4 : decode cX9_addNeighbours 4 = .ok (.iadd, 1) := by decide +kernel
theorem dX9_addNeighbours_5 : decode cX9_addNeighbours 5 = .ok (.aload_n 0, 1) := by decide +kernel
theorem dX9_addNeighbours_6 : decode cX9_addNeighbours 6 = .ok (.getfield 45, 3) := by decide +kernel
theorem dX9_addNeighbours_9 : decode cX9_addNeighbours 9 = .ok (.if_icmp .ge 50, 3) := by decide +kernel
theorem dX9_addNeighbours_12 : decode cX9_addNeighbours 12 = .ok (.aload_n 0, 1) := by decide +kernel
theorem dX9_addNeighbours_13 : decode cX9_addNeighbours 13 = .ok (.getfield 33, 3) := by decide +kernel
theorem dX9_addNeighbours_16 : decode cX9_addNeighbours 16 = .ok (.iload_n 1, 1) := by decide +kernel
theorem dX9_addNeighbours_17 : decode cX9_addNeighbours 17 = .ok (.invokestatic 51, 3) := by decide +kernel
theorem dX9_addNeighbours_20 : decode cX9_addNeighbours 20 = .ok (.bipush 12, 2) := by decide +kernel
theorem dX9_addNeighbours_22 : decode cX9_addNeighbours 22 = .ok (.imul, 1) := by decide +kernel
theorem dX9_addNeighbours_23 : decode cX9_addNeighbours 23 = .ok (.aload_n 0, 1) := by decide +kernel
theorem dX9_addNeighbours_24 : decode cX9_addNeighbours 24 = .ok (.getfield 33, 3) := by decide +kernel
theorem dX9_addNeighbours_27 : decode cX9_addNeighbours 27 = .ok (.iload_n 1, 1) := by decide +kernel
theorem dX9_addNeighbours_28 : decode cX9_addNeighbours 28 = .ok (.iconst 1, 1) := by decide +kernel
theorem dX9_addNeighbours_29 : decode cX9_addNeighbours 29 = .ok (.iadd, 1) := by decide +kernel
theorem dX9_addNeighbours_30 : decode cX9_addNeighbours 30 = .ok (.invokestatic 51, 3) := by decide +kernel
theorem dX9_addNeighbours_33 : decode cX9_addNeighbours 33 = .ok (.iadd, 1) := by decide +kernel
theorem dX9_addNeighbours_34 : decode cX9_addNeighbours 34 = .ok (.istore_n 2, 1) := by decide +kernel
theorem dX9_addNeighbours_35 : decode cX9_addNeighbours 35 = .ok (.aload_n 0, 1) := by decide +kernel
theorem dX9_addNeighbours_36 : decode cX9_addNeighbours 36 = .ok (.getfield 30, 3) := by decide +kernel
theorem dX9_addNeighbours_39 : decode cX9_addNeighbours 39 = .ok (.iload_n 2, 1) := by decide +kernel
theorem dX9_addNeighbours_40 : decode cX9_addNeighbours 40 = .ok (.aload_n 0, 1) := by decide +kernel
theorem dX9_addNeighbours_41 : decode cX9_addNeighbours 41 = .ok (.getfield 30, 3) := by decide +kernel
theorem dX9_addNeighbours_44 : decode cX9_addNeighbours 44 = .ok (.iload_n 2, 1) := by decide +kernel
theorem dX9_addNeighbours_45 : decode cX9_addNeighbours 45 = .ok (.invokestatic 51, 3) := by decide +kernel
theorem dX9_addNeighbours_48 : decode cX9_addNeighbours 48 = .ok (.iconst 1, 1) := by decide +kernel
theorem dX9_addNeighbours_49 : decode cX9_addNeighbours 49 = .ok (.iadd, 1) := by decide +kernel
theorem dX9_addNeighbours_50 : decode cX9_addNeighbours 50 = .ok (.invokestatic 55, 3) := by decide +kernel
theorem dX9_addNeighbours_53 : decode cX9_addNeighbours 53 = .ok (.iinc 1 1, 3) := by decide +kernel
theorem dX9_addNeighbours_56 : decode cX9_addNeighbours 56 = .ok (.goto (-54), 3) := by decide +kernel
theorem dX9_addNeighbours_59 : decode cX9_addNeighbours 59 = .ok (.return_, 1) := by decide +kernel
theorem dX9_addRhymes_0 : decode cX9_addRhymes 0 = .ok (.iconst 0, 1) := by decide +kernel
theorem dX9_addRhymes_1 : decode cX9_addRhymes 1 = .ok (.istore_n 2, 1) := by decide +kernel
theorem dX9_addRhymes_2 : decode cX9_addRhymes 2 = .ok (.iload_n 2, 1) := by decide +kernel
theorem dX9_addRhymes_3 : decode cX9_addRhymes 3 = .ok (.aload_n 0, 1) := by decide +kernel
theorem dX9_addRhymes_4 : decode cX9_addRhymes 4 = .ok (.getfield 45, 3) := by decide +kernel
theorem dX9_addRhymes_7 : decode cX9_addRhymes 7 = .ok (.if_icmp .ge 81, 3) := by decide +kernel
theorem dX9_addRhymes_10 : decode cX9_addRhymes 10 = .ok (.aload_n 1, 1) := by decide +kernel
theorem dX9_addRhymes_11 : decode cX9_addRhymes 11 = .ok (.getfield 80, 3) := by decide +kernel
theorem dX9_addRhymes_14 : decode cX9_addRhymes 14 = .ok (.iload_n 2, 1) := by decide +kernel
theorem dX9_addRhymes_15 : decode cX9_addRhymes 15 = .ok (.invokestatic 51, 3) := by decide +kernel
theorem dX9_addRhymes_18 : decode cX9_addRhymes 18 = .ok (.istore_n 3, 1) := by decide +kernel
theorem dX9_addRhymes_19 : decode cX9_addRhymes 19 = .ok (.iconst 0, 1) := by decide +kernel
theorem dX9_addRhymes_20 : decode cX9_addRhymes 20 = .ok (.istore 4, 2) := by decide +kernel
theorem dX9_addRhymes_22 : decode cX9_addRhymes 22 = .ok (.iload_n 3, 1) := by decide +kernel
theorem dX9_addRhymes_23 : decode cX9_addRhymes 23 = .ok (.ifCond .eq 59, 3) := by decide +kernel
theorem dX9_addRhymes_26 : decode cX9_addRhymes 26 = .ok (.iload 4, 2) := by decide +kernel
theorem dX9_addRhymes_28 : decode cX9_addRhymes 28 = .ok (.iload_n 2, 1) := by decide +kernel
theorem dX9_addRhymes_29 : decode cX9_addRhymes 29 = .ok (.if_icmp .ge 53, 3) := by decide +kernel
theorem dX9_addRhymes_32 : decode cX9_addRhymes 32 = .ok (.iload_n 3, 1) := by decide +kernel
theorem dX9_addRhymes_33 : decode cX9_addRhymes 33 = .ok (.iload 4, 2) := by decide +kernel
theorem dX9_addRhymes_35 : decode cX9_addRhymes 35 = .ok (.ishr, 1) := by decide +kernel
theorem dX9_addRhymes_36 : decode cX9_addRhymes 36 = .ok (.iconst 1, 1) := by decide +kernel
theorem dX9_addRhymes_37 : decode cX9_addRhymes 37 = .ok (.iand, 1) := by decide +kernel
theorem dX9_addRhymes_38 : decode cX9_addRhymes 38 = .ok (.ifCond .eq 38, 3) := by decide +kernel
theorem dX9_addRhymes_41 : decode cX9_addRhymes 41 = .ok (.aload_n 0, 1) := by decide +kernel
theorem dX9_addRhymes_42 : decode cX9_addRhymes 42 = .ok (.aload_n 0, 1) := by decide +kernel
theorem dX9_addRhymes_43 : decode cX9_addRhymes 43 = .ok (.getfield 27, 3) := by decide +kernel
theorem dX9_addRhymes_46 : decode cX9_addRhymes 46 = .ok (.aload_n 0, 1) := by decide +kernel
theorem dX9_addRhymes_47 : decode cX9_addRhymes 47 = .ok (.getfield 33, 3) := by decide +kernel
theorem dX9_addRhymes_50 : decode cX9_addRhymes 50 = .ok (.iload_n 2, 1) := by decide +kernel
theorem dX9_addRhymes_51 : decode cX9_addRhymes 51 = .ok (.invokestatic 51, 3) := by decide +kernel
theorem dX9_addRhymes_54 : decode cX9_addRhymes 54 = .ok (.invokestatic 51, 3) := by decide +kernel
theorem dX9_addRhymes_57 : decode cX9_addRhymes 57 = .ok (.aload_n 0, 1) := by decide +kernel
theorem dX9_addRhymes_58 : decode cX9_addRhymes 58 = .ok (.getfield 27, 3) := by decide +kernel
theorem dX9_addRhymes_61 : decode cX9_addRhymes 61 = .ok (.aload_n 0, 1) := by decide +kernel
theorem dX9_addRhymes_62 : decode cX9_addRhymes 62 = .ok (.getfield 33, 3) := by decide +kernel
theorem dX9_addRhymes_65 : decode cX9_addRhymes 65 = .ok (.iload 4, 2) := by decide +kernel
theorem dX9_addRhymes_67 : decode cX9_addRhymes 67 = .ok (.invokestatic 51, 3) := by decide +kernel
theorem dX9_addRhymes_70 : decode cX9_addRhymes 70 = .ok (.invokestatic 51, 3) := by decide +kernel
theorem dX9_addRhymes_73 : decode cX9_addRhymes 73 = .ok (.invokevirtual 83, 3) := by decide +kernel
theorem dX9_addRhymes_76 : decode cX9_addRhymes 76 = .ok (.iinc 4 1, 3) := by decide +kernel
theorem dX9_addRhymes_79 : decode cX9_addRhymes 79 = .ok (.goto (-57), 3) := by decide +kernel
theorem dX9_addRhymes_82 : decode cX9_addRhymes 82 = .ok (.iinc 2 1, 3) := by decide +kernel
theorem dX9_addRhymes_85 : decode cX9_addRhymes 85 = .ok (.goto (-83), 3) := by decide +kernel
theorem dX9_addRhymes_88 : decode cX9_addRhymes 88 = .ok (.return_, 1) := by decide +kernel
theorem dX9_joinClasses_0 : decode cX9_joinClasses 0 = .ok (.iload_n 1, 1) := by decide +kernel
theorem dX9_joinClasses_1 : decode cX9_joinClasses 1 = .ok (.iload_n 2, 1) := by decide +kernel
theorem dX9_joinClasses_2 : decode cX9_joinClasses 2 = .ok (.if_icmp .ne 4, 3) := by decide +kernel
theorem dX9_joinClasses_5 : decode cX9_joinClasses 5 = .ok (.return_, 1) := by decide +kernel
theorem dX9_joinClasses_6 : decode cX9_joinClasses 6 = .ok (.iload_n 1, 1) := by decide +kernel
theorem dX9_joinClasses_7 : decode cX9_joinClasses 7 = .ok (.iload_n 2, 1) := by decide +kernel
theorem dX9_joinClasses_8 : decode cX9_joinClasses 8 = .ok (.invokestatic 87, 3) := by decide +kernel
theorem dX9_joinClasses_11 : decode cX9_joinClasses 11 = .ok (.istore_n 3, 1) := by decide +kernel
theorem dX9_joinClasses_12 : decode cX9_joinClasses 12 = .ok (.iload_n 1, 1) := by decide +kernel
theorem dX9_joinClasses_13 : decode cX9_joinClasses 13 = .ok (.iload_n 2, 1) := by decide +kernel
theorem dX9_joinClasses_14 : decode cX9_joinClasses 14 = .ok (.invokestatic 93, 3) := by decide +kernel
theorem dX9_joinClasses_17 : decode cX9_joinClasses 17 = .ok (.istore 4, 2) := by decide +kernel
theorem dX9_joinClasses_19 : decode cX9_joinClasses 19 = .ok (.iconst 0, 1) := by decide +kernel
theorem dX9_joinClasses_20 : decode cX9_joinClasses 20 = .ok (.istore 5, 2) := by decide +kernel
theorem dX9_joinClasses_22 : decode cX9_joinClasses 22 = .ok (.iload 5, 2) := by decide +kernel
theorem dX9_joinClasses_24 : decode cX9_joinClasses 24 = .ok (.aload_n 0, 1) := by decide +kernel
theorem dX9_joinClasses_25 : decode cX9_joinClasses 25 = .ok (.getfield 45, 3) := by decide +kernel
theorem dX9_joinClasses_28 : decode cX9_joinClasses 28 = .ok (.if_icmp .ge 33, 3) := by decide +kernel
theorem dX9_joinClasses_31 : decode cX9_joinClasses 31 = .ok (.aload_n 0, 1) := by decide +kernel
theorem dX9_joinClasses_32 : decode cX9_joinClasses 32 = .ok (.getfield 27, 3) := by decide +kernel
theorem dX9_joinClasses_35 : decode cX9_joinClasses 35 = .ok (.iload 5, 2) := by decide +kernel
theorem dX9_joinClasses_37 : decode cX9_joinClasses 37 = .ok (.invokestatic 51, 3) := by decide +kernel
theorem dX9_joinClasses_40 : decode cX9_joinClasses 40 = .ok (.iload 4, 2) := by decide +kernel
theorem dX9_joinClasses_42 : decode cX9_joinClasses 42 = .ok (.if_icmp .ne 13, 3) := by decide +kernel
theorem dX9_joinClasses_45 : decode cX9_joinClasses 45 = .ok (.aload_n 0, 1) := by decide +kernel
theorem dX9_joinClasses_46 : decode cX9_joinClasses 46 = .ok (.getfield 27, 3) := by decide +kernel
theorem dX9_joinClasses_49 : decode cX9_joinClasses 49 = .ok (.iload 5, 2) := by decide +kernel
theorem dX9_joinClasses_51 : decode cX9_joinClasses 51 = .ok (.iload_n 3, 1) := by decide +kernel
theorem dX9_joinClasses_52 : decode cX9_joinClasses 52 = .ok (.invokestatic 55, 3) := by decide +kernel
theorem dX9_joinClasses_55 : decode cX9_joinClasses 55 = .ok (.iinc 5 1, 3) := by decide +kernel
theorem dX9_joinClasses_58 : decode cX9_joinClasses 58 = .ok (.goto (-36), 3) := by decide +kernel
theorem dX9_joinClasses_61 : decode cX9_joinClasses 61 = .ok (.return_, 1) := by decide +kernel
theorem dX9_turnRow_0 : decode cX9_turnRow 0 = .ok (.iconst 0, 1) := by decide +kernel
theorem dX9_turnRow_1 : decode cX9_turnRow 1 = .ok (.istore_n 1, 1) := by decide +kernel
theorem dX9_turnRow_2 : decode cX9_turnRow 2 = .ok (.iload_n 1, 1) := by decide +kernel
theorem dX9_turnRow_3 : decode cX9_turnRow 3 = .ok (.aload_n 0, 1) := by decide +kernel
theorem dX9_turnRow_4 : decode cX9_turnRow 4 = .ok (.getfield 45, 3) := by decide +kernel
theorem dX9_turnRow_7 : decode cX9_turnRow 7 = .ok (.if_icmp .ge 32, 3) := by decide +kernel
theorem dX9_turnRow_10 : decode cX9_turnRow 10 = .ok (.aload_n 0, 1) := by decide +kernel
theorem dX9_turnRow_11 : decode cX9_turnRow 11 = .ok (.getfield 36, 3) := by decide +kernel
theorem dX9_turnRow_14 : decode cX9_turnRow 14 = .ok (.iload_n 1, 1) := by decide +kernel
theorem dX9_turnRow_15 : decode cX9_turnRow 15 = .ok (.aload_n 0, 1) := by decide +kernel
theorem dX9_turnRow_16 : decode cX9_turnRow 16 = .ok (.getfield 33, 3) := by decide +kernel
theorem dX9_turnRow_19 : decode cX9_turnRow 19 = .ok (.aload_n 0, 1) := by decide +kernel
theorem dX9_turnRow_20 : decode cX9_turnRow 20 = .ok (.getfield 20, 3) := by decide +kernel
theorem dX9_turnRow_23 : decode cX9_turnRow 23 = .ok (.iload_n 1, 1) := by decide +kernel
theorem dX9_turnRow_24 : decode cX9_turnRow 24 = .ok (.invokestatic 51, 3) := by decide +kernel
theorem dX9_turnRow_27 : decode cX9_turnRow 27 = .ok (.invokestatic 51, 3) := by decide +kernel
theorem dX9_turnRow_30 : decode cX9_turnRow 30 = .ok (.invokestatic 55, 3) := by decide +kernel
theorem dX9_turnRow_33 : decode cX9_turnRow 33 = .ok (.iinc 1 1, 3) := by decide +kernel
theorem dX9_turnRow_36 : decode cX9_turnRow 36 = .ok (.goto (-34), 3) := by decide +kernel
theorem dX9_turnRow_39 : decode cX9_turnRow 39 = .ok (.aload_n 0, 1) := by decide +kernel
theorem dX9_turnRow_40 : decode cX9_turnRow 40 = .ok (.getfield 36, 3) := by decide +kernel
theorem dX9_turnRow_43 : decode cX9_turnRow 43 = .ok (.aload_n 0, 1) := by decide +kernel
theorem dX9_turnRow_44 : decode cX9_turnRow 44 = .ok (.getfield 33, 3) := by decide +kernel
theorem dX9_turnRow_47 : decode cX9_turnRow 47 = .ok (.invokestatic 47, 3) := by decide +kernel
theorem dX9_turnRow_50 : decode cX9_turnRow 50 = .ok (.return_, 1) := by decide +kernel
theorem dX9_endAt_0 : decode cX9_endAt 0 = .ok (.aload_n 0, 1) := by decide +kernel
theorem dX9_endAt_1 : decode cX9_endAt 1 = .ok (.aload_n 0, 1) := by decide +kernel
theorem dX9_endAt_2 : decode cX9_endAt 2 = .ok (.getfield 20, 3) := by decide +kernel
theorem dX9_endAt_5 : decode cX9_endAt 5 = .ok (.lload_n 1, 1) := by decide +kernel
theorem dX9_endAt_6 : decode cX9_endAt 6 = .ok (.iload_n 3, 1) := by decide +kernel
theorem dX9_endAt_7 : decode cX9_endAt 7 = .ok (.invokevirtual 96, 3) := by decide +kernel
theorem dX9_endAt_10 : decode cX9_endAt 10 = .ok (.ireturn, 1) := by decide +kernel
theorem dX9_placeOf_0 : decode cX9_placeOf 0 = .ok (.aload_n 0, 1) := by decide +kernel
theorem dX9_placeOf_1 : decode cX9_placeOf 1 = .ok (.aload_n 0, 1) := by decide +kernel
theorem dX9_placeOf_2 : decode cX9_placeOf 2 = .ok (.getfield 24, 3) := by decide +kernel
theorem dX9_placeOf_5 : decode cX9_placeOf 5 = .ok (.lload_n 1, 1) := by decide +kernel
theorem dX9_placeOf_6 : decode cX9_placeOf 6 = .ok (.iload_n 3, 1) := by decide +kernel
theorem dX9_placeOf_7 : decode cX9_placeOf 7 = .ok (.invokevirtual 96, 3) := by decide +kernel
theorem dX9_placeOf_10 : decode cX9_placeOf 10 = .ok (.ireturn, 1) := by decide +kernel
theorem dX9_walk_0 : decode cX9_walk 0 = .ok (.aload_n 0, 1) := by decide +kernel
theorem dX9_walk_1 : decode cX9_walk 1 = .ok (.getfield 14, 3) := by decide +kernel
theorem dX9_walk_4 : decode cX9_walk 4 = .ok (.getfield 100, 3) := by decide +kernel
theorem dX9_walk_7 : decode cX9_walk 7 = .ok (.iload 4, 2) := by decide +kernel
theorem dX9_walk_9 : decode cX9_walk 9 = .ok (.invokestatic 51, 3) := by decide +kernel
theorem dX9_walk_12 : decode cX9_walk 12 = .ok (.istore 5, 2) := by decide +kernel
theorem dX9_walk_14 : decode cX9_walk 14 = .ok (.iload 5, 2) := by decide +kernel
theorem dX9_walk_16 : decode cX9_walk 16 = .ok (.iconst 1, 1) := by decide +kernel
theorem dX9_walk_17 : decode cX9_walk 17 = .ok (.if_icmp .ge 7, 3) := by decide +kernel
theorem dX9_walk_20 : decode cX9_walk 20 = .ok (.lconst 0, 1) := by decide +kernel
theorem dX9_walk_21 : decode cX9_walk 21 = .ok (.goto 8, 3) := by decide +kernel
theorem dX9_walk_24 : decode cX9_walk 24 = .ok (.lload_n 2, 1) := by decide +kernel
theorem dX9_walk_25 : decode cX9_walk 25 = .ok (.iload 5, 2) := by decide +kernel
theorem dX9_walk_27 : decode cX9_walk 27 = .ok (.i2l, 1) := by decide +kernel
theorem dX9_walk_28 : decode cX9_walk 28 = .ok (.lrem, 1) := by decide +kernel
theorem dX9_walk_29 : decode cX9_walk 29 = .ok (.lstore 6, 2) := by decide +kernel
theorem dX9_walk_31 : decode cX9_walk 31 = .ok (.iload 4, 2) := by decide +kernel
theorem dX9_walk_33 : decode cX9_walk 33 = .ok (.istore 8, 2) := by decide +kernel
theorem dX9_walk_35 : decode cX9_walk 35 = .ok (.lconst 0, 1) := by decide +kernel
theorem dX9_walk_36 : decode cX9_walk 36 = .ok (.lstore 9, 2) := by decide +kernel
theorem dX9_walk_38 : decode cX9_walk 38 = .ok (.lload 9, 2) := by decide +kernel
theorem dX9_walk_40 : decode cX9_walk 40 = .ok (.lload 6, 2) := by decide +kernel
theorem dX9_walk_42 : decode cX9_walk 42 = .ok (.lcmp, 1) := by decide +kernel
theorem dX9_walk_43 : decode cX9_walk 43 = .ok (.ifCond .ge 20, 3) := by decide +kernel
theorem dX9_walk_46 : decode cX9_walk 46 = .ok (.aload_n 1, 1) := by decide +kernel
theorem dX9_walk_47 : decode cX9_walk 47 = .ok (.iload 8, 2) := by decide +kernel
theorem dX9_walk_49 : decode cX9_walk 49 = .ok (.invokestatic 51, 3) := by decide +kernel
theorem dX9_walk_52 : decode cX9_walk 52 = .ok (.istore 8, 2) := by decide +kernel
theorem dX9_walk_54 : decode cX9_walk 54 = .ok (.lload 9, 2) := by decide +kernel
theorem dX9_walk_56 : decode cX9_walk 56 = .ok (.lconst 1, 1) := by decide +kernel
theorem dX9_walk_57 : decode cX9_walk 57 = .ok (.ladd, 1) := by decide +kernel
theorem dX9_walk_58 : decode cX9_walk 58 = .ok (.lstore 9, 2) := by decide +kernel
theorem dX9_walk_60 : decode cX9_walk 60 = .ok (.goto (-22), 3) := by decide +kernel
theorem dX9_walk_63 : decode cX9_walk 63 = .ok (.iload 8, 2) := by decide +kernel
theorem dX9_walk_65 : decode cX9_walk 65 = .ok (.ireturn, 1) := by decide +kernel
theorem dX9_firstMeeting_0 : decode cX9_firstMeeting 0 = .ok (.iload_n 1, 1) := by decide +kernel
theorem dX9_firstMeeting_1 : decode cX9_firstMeeting 1 = .ok (.istore_n 3, 1) := by decide +kernel
theorem dX9_firstMeeting_2 : decode cX9_firstMeeting 2 = .ok (.iconst 0, 1) := by decide +kernel
theorem dX9_firstMeeting_3 : decode cX9_firstMeeting 3 = .ok (.istore 4, 2) := by decide +kernel
theorem dX9_firstMeeting_5 : decode cX9_firstMeeting 5 = .ok (.iload 4, 2) := by decide +kernel
theorem dX9_firstMeeting_7 : decode cX9_firstMeeting 7 = .ok (.aload_n 0, 1) := by decide +kernel
theorem dX9_firstMeeting_8 : decode cX9_firstMeeting 8 = .ok (.getfield 45, 3) := by decide +kernel
theorem dX9_firstMeeting_11 : decode cX9_firstMeeting 11 = .ok (.if_icmp .ge 26, 3) := by decide +kernel
theorem dX9_firstMeeting_14 : decode cX9_firstMeeting 14 = .ok (.iload_n 3, 1) := by decide +kernel
theorem dX9_firstMeeting_15 : decode cX9_firstMeeting 15 = .ok (.iload_n 2, 1) := by decide +kernel
theorem dX9_firstMeeting_16 : decode cX9_firstMeeting 16 = .ok (.if_icmp .ne 6, 3) := by decide +kernel
theorem dX9_firstMeeting_19 : decode cX9_firstMeeting 19 = .ok (.iload 4, 2) := by decide +kernel
theorem dX9_firstMeeting_21 : decode cX9_firstMeeting 21 = .ok (.ireturn, 1) := by decide +kernel
theorem dX9_firstMeeting_22 : decode cX9_firstMeeting 22 = .ok (.aload_n 0, 1) := by decide +kernel
theorem dX9_firstMeeting_23 : decode cX9_firstMeeting 23 = .ok (.getfield 24, 3) := by decide +kernel
theorem dX9_firstMeeting_26 : decode cX9_firstMeeting 26 = .ok (.iload_n 3, 1) := by decide +kernel
theorem dX9_firstMeeting_27 : decode cX9_firstMeeting 27 = .ok (.invokestatic 51, 3) := by decide +kernel
theorem dX9_firstMeeting_30 : decode cX9_firstMeeting 30 = .ok (.istore_n 3, 1) := by decide +kernel
theorem dX9_firstMeeting_31 : decode cX9_firstMeeting 31 = .ok (.iinc 4 1, 3) := by decide +kernel
theorem dX9_firstMeeting_34 : decode cX9_firstMeeting 34 = .ok (.goto (-29), 3) := by decide +kernel
theorem dX9_firstMeeting_37 : decode cX9_firstMeeting 37 = .ok (.iconst (-1), 1) := by decide +kernel
theorem dX9_firstMeeting_38 : decode cX9_firstMeeting 38 = .ok (.ireturn, 1) := by decide +kernel
theorem dX9_timesAhead_0 : decode cX9_timesAhead 0 = .ok (.aload_n 0, 1) := by decide +kernel
theorem dX9_timesAhead_1 : decode cX9_timesAhead 1 = .ok (.getfield 30, 3) := by decide +kernel
theorem dX9_timesAhead_4 : decode cX9_timesAhead 4 = .ok (.iload_n 1, 1) := by decide +kernel
theorem dX9_timesAhead_5 : decode cX9_timesAhead 5 = .ok (.bipush 12, 2) := by decide +kernel
theorem dX9_timesAhead_7 : decode cX9_timesAhead 7 = .ok (.imul, 1) := by decide +kernel
theorem dX9_timesAhead_8 : decode cX9_timesAhead 8 = .ok (.iload_n 2, 1) := by decide +kernel
theorem dX9_timesAhead_9 : decode cX9_timesAhead 9 = .ok (.iadd, 1) := by decide +kernel
theorem dX9_timesAhead_10 : decode cX9_timesAhead 10 = .ok (.invokestatic 51, 3) := by decide +kernel
theorem dX9_timesAhead_13 : decode cX9_timesAhead 13 = .ok (.ireturn, 1) := by decide +kernel
theorem dX9_areOneClass_0 : decode cX9_areOneClass 0 = .ok (.aload_n 0, 1) := by decide +kernel
theorem dX9_areOneClass_1 : decode cX9_areOneClass 1 = .ok (.getfield 27, 3) := by decide +kernel
theorem dX9_areOneClass_4 : decode cX9_areOneClass 4 = .ok (.iload_n 1, 1) := by decide +kernel
theorem dX9_areOneClass_5 : decode cX9_areOneClass 5 = .ok (.invokestatic 51, 3) := by decide +kernel
theorem dX9_areOneClass_8 : decode cX9_areOneClass 8 = .ok (.aload_n 0, 1) := by decide +kernel
theorem dX9_areOneClass_9 : decode cX9_areOneClass 9 = .ok (.getfield 27, 3) := by decide +kernel
theorem dX9_areOneClass_12 : decode cX9_areOneClass 12 = .ok (.iload_n 2, 1) := by decide +kernel
theorem dX9_areOneClass_13 : decode cX9_areOneClass 13 = .ok (.invokestatic 51, 3) := by decide +kernel
theorem dX9_areOneClass_16 : decode cX9_areOneClass 16 = .ok (.if_icmp .ne 7, 3) := by decide +kernel
theorem dX9_areOneClass_19 : decode cX9_areOneClass 19 = .ok (.iconst 1, 1) := by decide +kernel
theorem dX9_areOneClass_20 : decode cX9_areOneClass 20 = .ok (.goto 4, 3) := by decide +kernel
theorem dX9_areOneClass_23 : decode cX9_areOneClass 23 = .ok (.iconst 0, 1) := by decide +kernel
theorem dX9_areOneClass_24 : decode cX9_areOneClass 24 = .ok (.ireturn, 1) := by decide +kernel
theorem dX10_init_0 : decode cX10_init 0 = .ok (.aload_n 0, 1) := by decide +kernel
theorem dX10_init_1 : decode cX10_init 1 = .ok (.invokespecial 3, 3) := by decide +kernel
theorem dX10_init_4 : decode cX10_init 4 = .ok (.aload_n 0, 1) := by decide +kernel
theorem dX10_init_5 : decode cX10_init 5 = .ok (.sipush 1000, 3) := by decide +kernel
theorem dX10_init_8 : decode cX10_init 8 = .ok (.newarray .char, 2) := by decide +kernel
theorem dX10_init_10 : decode cX10_init 10 = .ok (.putfield 9, 3) := by decide +kernel
theorem dX10_init_13 : decode cX10_init 13 = .ok (.aload_n 0, 1) := by decide +kernel
theorem dX10_init_14 : decode cX10_init 14 = .ok (.sipush 1001, 3) := by decide +kernel
theorem dX10_init_17 : decode cX10_init 17 = .ok (.newarray .int, 2) := by decide +kernel
theorem dX10_init_19 : decode cX10_init 19 = .ok (.putfield 15, 3) := by decide +kernel
theorem dX10_init_22 : decode cX10_init 22 = .ok (.aload_n 0, 1) := by decide +kernel
theorem dX10_init_23 : decode cX10_init 23 = .ok (.sipush 1001, 3) := by decide +kernel
theorem dX10_init_26 : decode cX10_init 26 = .ok (.newarray .int, 2) := by decide +kernel
theorem dX10_init_28 : decode cX10_init 28 = .ok (.putfield 19, 3) := by decide +kernel
theorem dX10_init_31 : decode cX10_init 31 = .ok (.aload_n 0, 1) := by decide +kernel
theorem dX10_init_32 : decode cX10_init 32 = .ok (.sipush 1001, 3) := by decide +kernel
theorem dX10_init_35 : decode cX10_init 35 = .ok (.newarray .long, 2) := by decide +kernel
theorem dX10_init_37 : decode cX10_init 37 = .ok (.putfield 22, 3) := by decide +kernel
theorem dX10_init_40 : decode cX10_init 40 = .ok (.aload_n 0, 1) := by decide +kernel
theorem dX10_init_41 : decode cX10_init 41 = .ok (.bipush 24, 2) := by decide +kernel
theorem dX10_init_43 : decode cX10_init 43 = .ok (.newarray .long, 2) := by decide +kernel
theorem dX10_init_45 : decode cX10_init 45 = .ok (.putfield 26, 3) := by decide +kernel
theorem dX10_init_48 : decode cX10_init 48 = .ok (.lconst 0, 1) := by decide +kernel
theorem dX10_init_49 : decode cX10_init 49 = .ok (.lstore_n 1, 1) := by decide +kernel
theorem dX10_init_50 : decode cX10_init 50 = .ok (.iconst 0, 1) := by decide +kernel
theorem dX10_init_51 : decode cX10_init 51 = .ok (.istore_n 3, 1) := by decide +kernel
theorem dX10_init_52 : decode cX10_init 52 = .ok (.iconst 0, 1) := by decide +kernel
theorem dX10_init_53 : decode cX10_init 53 = .ok (.istore 4, 2) := by decide +kernel
theorem dX10_init_55 : decode cX10_init 55 = .ok (.iload 4, 2) := by decide +kernel
theorem dX10_init_57 : decode cX10_init 57 = .ok (.ldc 29, 2) := by decide +kernel
theorem dX10_init_59 : decode cX10_init 59 = .ok (.invokevirtual 31, 3) := by decide +kernel
theorem dX10_init_62 : decode cX10_init 62 = .ok (.if_icmp .ge 58, 3) := by decide +kernel
theorem dX10_init_65 : decode cX10_init 65 = .ok (.iload_n 3, 1) := by decide +kernel
theorem dX10_init_66 : decode cX10_init 66 = .ok (.aload_n 0, 1) := by decide +kernel
theorem dX10_init_67 : decode cX10_init 67 = .ok (.getfield 26, 3) := by decide +kernel
theorem dX10_init_70 : decode cX10_init 70 = .ok (.arraylength, 1) := by decide +kernel
theorem dX10_init_71 : decode cX10_init 71 = .ok (.if_icmp .ge 49, 3) := by decide +kernel
theorem dX10_init_74 : decode cX10_init 74 = .ok (.ldc 29, 2) := by decide +kernel
theorem dX10_init_76 : decode cX10_init 76 = .ok (.iload 4, 2) := by decide +kernel
theorem dX10_init_78 : decode cX10_init 78 = .ok (.invokevirtual 37, 3) := by decide +kernel
theorem dX10_init_81 : decode cX10_init 81 = .ok (.invokestatic 41, 3) := by decide +kernel
theorem dX10_init_84 : decode cX10_init 84 = .ok (.ifCond .eq 18, 3) := by decide +kernel
theorem dX10_init_87 : decode cX10_init 87 = .ok (.lload_n 1, 1) := by decide +kernel
theorem dX10_init_88 : decode cX10_init 88 = .ok (.ldc 29, 2) := by decide +kernel
theorem dX10_init_90 : decode cX10_init 90 = .ok (.iload 4, 2) := by decide +kernel
theorem dX10_init_92 : decode cX10_init 92 = .ok (.invokevirtual 37, 3) := by decide +kernel
theorem dX10_init_95 : decode cX10_init 95 = .ok (.invokestatic 45, 3) := by decide +kernel
theorem dX10_init_98 : decode cX10_init 98 = .ok (.lstore_n 1, 1) := by decide +kernel
theorem dX10_init_99 : decode cX10_init 99 = .ok (.goto 15, 3) := by decide +kernel
theorem dX10_init_102 : decode cX10_init 102 = .ok (.aload_n 0, 1) := by decide +kernel
theorem dX10_init_103 : decode cX10_init 103 = .ok (.getfield 26, 3) := by decide +kernel
theorem dX10_init_106 : decode cX10_init 106 = .ok (.iload_n 3, 1) := by decide +kernel
theorem dX10_init_107 : decode cX10_init 107 = .ok (.lload_n 1, 1) := by decide +kernel
theorem dX10_init_108 : decode cX10_init 108 = .ok (.lastore, 1) := by decide +kernel
theorem dX10_init_109 : decode cX10_init 109 = .ok (.lconst 0, 1) := by decide +kernel
theorem dX10_init_110 : decode cX10_init 110 = .ok (.lstore_n 1, 1) := by decide +kernel
theorem dX10_init_111 : decode cX10_init 111 = .ok (.iinc 3 1, 3) := by decide +kernel
theorem dX10_init_114 : decode cX10_init 114 = .ok (.iinc 4 1, 3) := by decide +kernel
theorem dX10_init_117 : decode cX10_init 117 = .ok (.goto (-62), 3) := by decide +kernel
theorem dX10_init_120 : decode cX10_init 120 = .ok (.return_, 1) := by decide +kernel
theorem dX10_addBytes_0 : decode cX10_addBytes 0 = .ok (.bipush 56, 2) := by decide +kernel
theorem dX10_addBytes_2 : decode cX10_addBytes 2 = .ok (.istore_n 3, 1) := by decide +kernel
theorem dX10_addBytes_3 : decode cX10_addBytes 3 = .ok (.iload_n 3, 1) := by decide +kernel
theorem dX10_addBytes_4 : decode cX10_addBytes 4 = .ok (.ifCond .lt 21, 3) := by decide +kernel
theorem dX10_addBytes_7 : decode cX10_addBytes 7 = .ok (.aload_n 0, 1) := by decide +kernel
theorem dX10_addBytes_8 : decode cX10_addBytes 8 = .ok (.lload_n 1, 1) := by decide +kernel
theorem dX10_addBytes_9 : decode cX10_addBytes 9 = .ok (.iload_n 3, 1) := by decide +kernel
theorem dX10_addBytes_10 : decode cX10_addBytes 10 = .ok (.lushr, 1) := by decide +kernel
theorem dX10_addBytes_11 : decode cX10_addBytes 11 = .ok (.l2i, 1) := by decide +kernel
theorem dX10_addBytes_12 : decode cX10_addBytes 12 = .ok (.sipush 255, 3) := by decide +kernel
theorem dX10_addBytes_15 : decode cX10_addBytes 15 = .ok (.iand, 1) := by decide +kernel
theorem dX10_addBytes_16 : decode cX10_addBytes 16 = .ok (.invokevirtual 49, 3) := by decide +kernel
theorem dX10_addBytes_19 : decode cX10_addBytes 19 = .ok (.iinc 3 (-8), 3) := by decide +kernel
theorem dX10_addBytes_22 : decode cX10_addBytes 22 = .ok (.goto (-19), 3) := by decide +kernel
theorem dX10_addBytes_25 : decode cX10_addBytes 25 = .ok (.return_, 1) := by decide +kernel
theorem dX10_addSign_0 : decode cX10_addSign 0 = .ok (.iload_n 1, 1) := by decide +kernel
theorem dX10_addSign_1 : decode cX10_addSign 1 = .ok (.bipush 10, 2) := by decide +kernel
theorem dX10_addSign_3 : decode cX10_addSign 3 = .ok (.if_icmp .eq 15, 3) := by decide +kernel
theorem dX10_addSign_6 : decode cX10_addSign 6 = .ok (.iload_n 1, 1) := by decide +kernel
theorem dX10_addSign_7 : decode cX10_addSign 7 = .ok (.bipush 32, 2) := by decide +kernel
theorem dX10_addSign_9 : decode cX10_addSign 9 = .ok (.if_icmp .lt 13, 3) := by decide +kernel
theorem dX10_addSign_12 : decode cX10_addSign 12 = .ok (.iload_n 1, 1) := by decide +kernel
theorem dX10_addSign_13 : decode cX10_addSign 13 = .ok (.bipush 126, 2) := by decide +kernel
theorem dX10_addSign_15 : decode cX10_addSign 15 = .ok (.if_icmp .gt 7, 3) := by decide +kernel
theorem dX10_addSign_18 : decode cX10_addSign 18 = .ok (.iconst 1, 1) := by decide +kernel
theorem dX10_addSign_19 : decode cX10_addSign 19 = .ok (.goto 4, 3) := by decide +kernel
theorem dX10_addSign_22 : decode cX10_addSign 22 = .ok (.iconst 0, 1) := by decide +kernel
theorem dX10_addSign_23 : decode cX10_addSign 23 = .ok (.istore_n 2, 1) := by decide +kernel
theorem dX10_addSign_24 : decode cX10_addSign 24 = .ok (.iload_n 2, 1) := by decide +kernel
theorem dX10_addSign_25 : decode cX10_addSign 25 = .ok (.ifCond .eq 43, 3) := by decide +kernel
theorem dX10_addSign_28 : decode cX10_addSign 28 = .ok (.aload_n 0, 1) := by decide +kernel
theorem dX10_addSign_29 : decode cX10_addSign 29 = .ok (.getfield 53, 3) := by decide +kernel
theorem dX10_addSign_32 : decode cX10_addSign 32 = .ok (.ifCond .lt 36, 3) := by decide +kernel
theorem dX10_addSign_35 : decode cX10_addSign 35 = .ok (.aload_n 0, 1) := by decide +kernel
theorem dX10_addSign_36 : decode cX10_addSign 36 = .ok (.getfield 53, 3) := by decide +kernel
theorem dX10_addSign_39 : decode cX10_addSign 39 = .ok (.aload_n 0, 1) := by decide +kernel
theorem dX10_addSign_40 : decode cX10_addSign 40 = .ok (.getfield 9, 3) := by decide +kernel
theorem dX10_addSign_43 : decode cX10_addSign 43 = .ok (.arraylength, 1) := by decide +kernel
theorem dX10_addSign_44 : decode cX10_addSign 44 = .ok (.if_icmp .ge 24, 3) := by decide +kernel
theorem dX10_addSign_47 : decode cX10_addSign 47 = .ok (.aload_n 0, 1) := by decide +kernel
theorem dX10_addSign_48 : decode cX10_addSign 48 = .ok (.getfield 9, 3) := by decide +kernel
theorem dX10_addSign_51 : decode cX10_addSign 51 = .ok (.aload_n 0, 1) := by decide +kernel
theorem dX10_addSign_52 : decode cX10_addSign 52 = .ok (.getfield 53, 3) := by decide +kernel
theorem dX10_addSign_55 : decode cX10_addSign 55 = .ok (.iload_n 1, 1) := by decide +kernel
theorem dX10_addSign_56 : decode cX10_addSign 56 = .ok (.i2c, 1) := by decide +kernel
theorem dX10_addSign_57 : decode cX10_addSign 57 = .ok (.castore, 1) := by decide +kernel
theorem dX10_addSign_58 : decode cX10_addSign 58 = .ok (.aload_n 0, 1) := by decide +kernel
theorem dX10_addSign_59 : decode cX10_addSign 59 = .ok (.dup, 1) := by decide +kernel
theorem dX10_addSign_60 : decode cX10_addSign 60 = .ok (.getfield 53, 3) := by decide +kernel
theorem dX10_addSign_63 : decode cX10_addSign 63 = .ok (.iconst 1, 1) := by decide +kernel
theorem dX10_addSign_64 : decode cX10_addSign 64 = .ok (.iadd, 1) := by decide +kernel
theorem dX10_addSign_65 : decode cX10_addSign 65 = .ok (.putfield 53, 3) := by decide +kernel
theorem dX10_addSign_68 : decode cX10_addSign 68 = .ok (.return_, 1) := by decide +kernel
theorem dX10_signAt_0 : decode cX10_signAt 0 = .ok (.iload_n 1, 1) := by decide +kernel
theorem dX10_signAt_1 : decode cX10_signAt 1 = .ok (.ifCond .lt 29, 3) := by decide +kernel
theorem dX10_signAt_4 : decode cX10_signAt 4 = .ok (.iload_n 1, 1) := by decide +kernel
theorem dX10_signAt_5 : decode cX10_signAt 5 = .ok (.aload_n 0, 1) := by decide +kernel
theorem dX10_signAt_6 : decode cX10_signAt 6 = .ok (.getfield 53, 3) := by decide +kernel
theorem dX10_signAt_9 : decode cX10_signAt 9 = .ok (.if_icmp .ge 21, 3) := by decide +kernel
theorem dX10_signAt_12 : decode cX10_signAt 12 = .ok (.iload_n 1, 1) := by decide +kernel
theorem dX10_signAt_13 : decode cX10_signAt 13 = .ok (.aload_n 0, 1) := by decide +kernel
theorem dX10_signAt_14 : decode cX10_signAt 14 = .ok (.getfield 9, 3) := by decide +kernel
theorem dX10_signAt_17 : decode cX10_signAt 17 = .ok (.arraylength, 1) := by decide +kernel
theorem dX10_signAt_18 : decode cX10_signAt 18 = .ok (.if_icmp .ge 12, 3) := by decide +kernel
theorem dX10_signAt_21 : decode cX10_signAt 21 = .ok (.aload_n 0, 1) := by decide +kernel
theorem dX10_signAt_22 : decode cX10_signAt 22 = .ok (.getfield 9, 3) := by decide +kernel
theorem dX10_signAt_25 : decode cX10_signAt 25 = .ok (.iload_n 1, 1) := by decide +kernel
theorem dX10_signAt_26 : decode cX10_signAt 26 = .ok (.caload, 1) := by decide +kernel
theorem dX10_signAt_27 : decode cX10_signAt 27 = .ok (.goto 4, 3) := by decide +kernel
theorem dX10_signAt_30 : decode cX10_signAt 30 = .ok (.iconst (-1), 1) := by decide +kernel
theorem dX10_signAt_31 : decode cX10_signAt 31 = .ok (.ireturn, 1) := by decide +kernel
theorem dX10_cut_0 : decode cX10_cut 0 = .ok (.aload_n 0, 1) := by decide +kernel
theorem dX10_cut_1 : decode cX10_cut 1 = .ok (.iconst 0, 1) := by decide +kernel
theorem dX10_cut_2 : decode cX10_cut 2 = .ok (.putfield 56, 3) := by decide +kernel
theorem dX10_cut_5 : decode cX10_cut 5 = .ok (.iconst 0, 1) := by decide +kernel
theorem dX10_cut_6 : decode cX10_cut 6 = .ok (.istore_n 1, 1) := by decide +kernel
theorem dX10_cut_7 : decode cX10_cut 7 = .ok (.iconst 0, 1) := by decide +kernel
theorem dX10_cut_8 : decode cX10_cut 8 = .ok (.istore_n 2, 1) := by decide +kernel
theorem dX10_cut_9 : decode cX10_cut 9 = .ok (.iload_n 2, 1) := by decide +kernel
theorem dX10_cut_10 : decode cX10_cut 10 = .ok (.sipush 1000, 3) := by decide +kernel
theorem dX10_cut_13 : decode cX10_cut 13 = .ok (.if_icmp .ge 23, 3) := by decide +kernel
theorem dX10_cut_16 : decode cX10_cut 16 = .ok (.iload_n 1, 1) := by decide +kernel
theorem dX10_cut_17 : decode cX10_cut 17 = .ok (.aload_n 0, 1) := by decide +kernel
theorem dX10_cut_18 : decode cX10_cut 18 = .ok (.getfield 53, 3) := by decide +kernel
theorem dX10_cut_21 : decode cX10_cut 21 = .ok (.if_icmp .ge 15, 3) := by decide +kernel
theorem dX10_cut_24 : decode cX10_cut 24 = .ok (.aload_n 0, 1) := by decide +kernel
theorem dX10_cut_25 : decode cX10_cut 25 = .ok (.iload_n 1, 1) := by decide +kernel
theorem dX10_cut_26 : decode cX10_cut 26 = .ok (.invokevirtual 59, 3) := by decide +kernel
theorem dX10_cut_29 : decode cX10_cut 29 = .ok (.istore_n 1, 1) := by decide +kernel
theorem dX10_cut_30 : decode cX10_cut 30 = .ok (.iinc 2 1, 3) := by decide +kernel
theorem dX10_cut_33 : decode cX10_cut 33 = .ok (.goto (-24), 3) := by decide +kernel
theorem dX10_cut_36 : decode cX10_cut 36 = .ok (.aload_n 0, 1) := by decide +kernel
theorem dX10_cut_37 : decode cX10_cut 37 = .ok (.aload_n 0, 1) := by decide +kernel
theorem dX10_cut_38 : decode cX10_cut 38 = .ok (.getfield 53, 3) := by decide +kernel
theorem dX10_cut_41 : decode cX10_cut 41 = .ok (.iconst 0, 1) := by decide +kernel
theorem dX10_cut_42 : decode cX10_cut 42 = .ok (.lconst 0, 1) := by decide +kernel
theorem dX10_cut_43 : decode cX10_cut 43 = .ok (.invokevirtual 63, 3) := by decide +kernel
theorem dX10_cut_46 : decode cX10_cut 46 = .ok (.aload_n 0, 1) := by decide +kernel
theorem dX10_cut_47 : decode cX10_cut 47 = .ok (.iconst 0, 1) := by decide +kernel
theorem dX10_cut_48 : decode cX10_cut 48 = .ok (.putfield 53, 3) := by decide +kernel
theorem dX10_cut_51 : decode cX10_cut 51 = .ok (.return_, 1) := by decide +kernel
theorem dX10_cutToken_0 : decode cX10_cutToken 0 = .ok (.aload_n 0, 1) := by decide +kernel
theorem dX10_cutToken_1 : decode cX10_cutToken 1 = .ok (.iload_n 1, 1) := by decide +kernel
theorem dX10_cutToken_2 : decode cX10_cutToken 2 = .ok (.invokevirtual 67, 3) := by decide +kernel
theorem dX10_cutToken_5 : decode cX10_cutToken 5 = .ok (.istore_n 2, 1) := by decide +kernel
theorem dX10_cutToken_6 : decode cX10_cutToken 6 = .ok (.iload_n 2, 1) := by decide +kernel
theorem dX10_cutToken_7 : decode cX10_cutToken 7 = .ok (.invokestatic 41, 3) := by decide +kernel
theorem dX10_cutToken_10 : decode cX10_cutToken 10 = .ok (.ifCond .eq 9, 3) := by decide +kernel
theorem dX10_cutToken_13 : decode cX10_cutToken 13 = .ok (.aload_n 0, 1) := by decide +kernel
theorem dX10_cutToken_14 : decode cX10_cutToken 14 = .ok (.iload_n 1, 1) := by decide +kernel
theorem dX10_cutToken_15 : decode cX10_cutToken 15 = .ok (.invokevirtual 70, 3) := by decide +kernel
theorem dX10_cutToken_18 : decode cX10_cutToken 18 = .ok (.ireturn, 1) := by decide +kernel
theorem dX10_cutToken_19 : decode cX10_cutToken 19 = .ok (.iload_n 2, 1) := by decide +kernel
theorem dX10_cutToken_20 : decode cX10_cutToken 20 = .ok (.invokestatic 73, 3) := by decide +kernel
theorem dX10_cutToken_23 : decode cX10_cutToken 23 = .ok (.ifCond .eq 9, 3) := by decide +kernel
theorem dX10_cutToken_26 : decode cX10_cutToken 26 = .ok (.aload_n 0, 1) := by decide +kernel
theorem dX10_cutToken_27 : decode cX10_cutToken 27 = .ok (.iload_n 1, 1) := by decide +kernel
theorem dX10_cutToken_28 : decode cX10_cutToken 28 = .ok (.invokevirtual 76, 3) := by decide +kernel
theorem dX10_cutToken_31 : decode cX10_cutToken 31 = .ok (.ireturn, 1) := by decide +kernel
theorem dX10_cutToken_32 : decode cX10_cutToken 32 = .ok (.iload_n 2, 1) := by decide +kernel
theorem dX10_cutToken_33 : decode cX10_cutToken 33 = .ok (.invokestatic 79, 3) := by decide +kernel
theorem dX10_cutToken_36 : decode cX10_cutToken 36 = .ok (.ifCond .ne 21, 3) := by decide +kernel
theorem dX10_cutToken_39 : decode cX10_cutToken 39 = .ok (.aload_n 0, 1) := by decide +kernel
theorem dX10_cutToken_40 : decode cX10_cutToken 40 = .ok (.iload_n 1, 1) := by decide +kernel
theorem dX10_cutToken_41 : decode cX10_cutToken 41 = .ok (.iload_n 2, 1) := by decide +kernel
theorem dX10_cutToken_42 : decode cX10_cutToken 42 = .ok (.invokestatic 82, 3) := by decide +kernel
theorem dX10_cutToken_45 : decode cX10_cutToken 45 = .ok (.ifCond .eq 7, 3) := by decide +kernel
theorem dX10_cutToken_48 : decode cX10_cutToken 48 = .ok (.iload_n 2, 1) := by decide +kernel
theorem dX10_cutToken_49 : decode cX10_cutToken 49 = .ok (.goto 4, 3) := by decide +kernel
theorem dX10_cutToken_52 : decode cX10_cutToken 52 = .ok (.iconst 1, 1) := by decide +kernel
theorem dX10_cutToken_53 : decode cX10_cutToken 53 = .ok (.lconst 0, 1) := by decide +kernel
theorem dX10_cutToken_54 : decode cX10_cutToken 54 = .ok (.invokevirtual 63, 3) := by decide +kernel
theorem dX10_cutToken_57 : decode cX10_cutToken 57 = .ok (.iload_n 1, 1) := by decide +kernel
theorem dX10_cutToken_58 : decode cX10_cutToken 58 = .ok (.iconst 1, 1) := by decide +kernel
theorem dX10_cutToken_59 : decode cX10_cutToken 59 = .ok (.iadd, 1) := by decide +kernel
theorem dX10_cutToken_60 : decode cX10_cutToken 60 = .ok (.ireturn, 1) := by decide +kernel
theorem dX10_cutWord_0 : decode cX10_cutWord 0 = .ok (.lconst 0, 1) := by decide +kernel
theorem dX10_cutWord_1 : decode cX10_cutWord 1 = .ok (.lstore_n 2, 1) := by decide +kernel
theorem dX10_cutWord_2 : decode cX10_cutWord 2 = .ok (.iload_n 1, 1) := by decide +kernel
theorem dX10_cutWord_3 : decode cX10_cutWord 3 = .ok (.istore 4, 2) := by decide +kernel
theorem dX10_cutWord_5 : decode cX10_cutWord 5 = .ok (.iload 4, 2) := by decide +kernel
theorem dX10_cutWord_7 : decode cX10_cutWord 7 = .ok (.aload_n 0, 1) := by decide +kernel
theorem dX10_cutWord_8 : decode cX10_cutWord 8 = .ok (.getfield 53, 3) := by decide +kernel
theorem dX10_cutWord_11 : decode cX10_cutWord 11 = .ok (.if_icmp .ge 32, 3) := by decide +kernel
theorem dX10_cutWord_14 : decode cX10_cutWord 14 = .ok (.aload_n 0, 1) := by decide +kernel
theorem dX10_cutWord_15 : decode cX10_cutWord 15 = .ok (.iload 4, 2) := by decide +kernel
theorem dX10_cutWord_17 : decode cX10_cutWord 17 = .ok (.invokevirtual 67, 3) := by decide +kernel
theorem dX10_cutWord_20 : decode cX10_cutWord 20 = .ok (.invokestatic 41, 3) := by decide +kernel
theorem dX10_cutWord_23 : decode cX10_cutWord 23 = .ok (.ifCond .eq 20, 3) := by decide +kernel
theorem dX10_cutWord_26 : decode cX10_cutWord 26 = .ok (.lload_n 2, 1) := by decide +kernel
theorem dX10_cutWord_27 : decode cX10_cutWord 27 = .ok (.aload_n 0, 1) := by decide +kernel
theorem dX10_cutWord_28 : decode cX10_cutWord 28 = .ok (.iload 4, 2) := by decide +kernel
theorem dX10_cutWord_30 : decode cX10_cutWord 30 = .ok (.invokevirtual 67, 3) := by decide +kernel
theorem dX10_cutWord_33 : decode cX10_cutWord 33 = .ok (.invokestatic 45, 3) := by decide +kernel
theorem dX10_cutWord_36 : decode cX10_cutWord 36 = .ok (.lstore_n 2, 1) := by decide +kernel
theorem dX10_cutWord_37 : decode cX10_cutWord 37 = .ok (.iinc 4 1, 3) := by decide +kernel
theorem dX10_cutWord_40 : decode cX10_cutWord 40 = .ok (.goto (-35), 3) := by decide +kernel
theorem dX10_cutWord_43 : decode cX10_cutWord 43 = .ok (.aload_n 0, 1) := by decide +kernel
theorem dX10_cutWord_44 : decode cX10_cutWord 44 = .ok (.iload_n 1, 1) := by decide +kernel
theorem dX10_cutWord_45 : decode cX10_cutWord 45 = .ok (.iload 4, 2) := by decide +kernel
theorem dX10_cutWord_47 : decode cX10_cutWord 47 = .ok (.iload_n 1, 1) := by decide +kernel
theorem dX10_cutWord_48 : decode cX10_cutWord 48 = .ok (.isub, 1) := by decide +kernel
theorem dX10_cutWord_49 : decode cX10_cutWord 49 = .ok (.bipush 8, 2) := by decide +kernel
theorem dX10_cutWord_51 : decode cX10_cutWord 51 = .ok (.if_icmp .le 7, 3) := by decide +kernel
theorem dX10_cutWord_54 : decode cX10_cutWord 54 = .ok (.iconst 1, 1) := by decide +kernel
theorem dX10_cutWord_55 : decode cX10_cutWord 55 = .ok (.goto 8, 3) := by decide +kernel
theorem dX10_cutWord_58 : decode cX10_cutWord 58 = .ok (.aload_n 0, 1) := by decide +kernel
theorem dX10_cutWord_59 : decode cX10_cutWord 59 = .ok (.lload_n 2, 1) := by decide +kernel
theorem dX10_cutWord_60 : decode cX10_cutWord 60 = .ok (.invokevirtual 85, 3) := by decide +kernel
theorem dX10_cutWord_63 : decode cX10_cutWord 63 = .ok (.lload_n 2, 1) := by decide +kernel
theorem dX10_cutWord_64 : decode cX10_cutWord 64 = .ok (.invokevirtual 63, 3) := by decide +kernel
theorem dX10_cutWord_67 : decode cX10_cutWord 67 = .ok (.iload 4, 2) := by decide +kernel
theorem dX10_cutWord_69 : decode cX10_cutWord 69 = .ok (.ireturn, 1) := by decide +kernel
theorem dX10_cutNumber_0 : decode cX10_cutNumber 0 = .ok (.lconst 0, 1) := by decide +kernel
theorem dX10_cutNumber_1 : decode cX10_cutNumber 1 = .ok (.lstore_n 2, 1) := by decide +kernel
theorem dX10_cutNumber_2 : decode cX10_cutNumber 2 = .ok (.iload_n 1, 1) := by decide +kernel
theorem dX10_cutNumber_3 : decode cX10_cutNumber 3 = .ok (.istore 4, 2) := by decide +kernel
theorem dX10_cutNumber_5 : decode cX10_cutNumber 5 = .ok (.iload 4, 2) := by decide +kernel
theorem dX10_cutNumber_7 : decode cX10_cutNumber 7 = .ok (.aload_n 0, 1) := by decide +kernel
theorem dX10_cutNumber_8 : decode cX10_cutNumber 8 = .ok (.getfield 53, 3) := by decide +kernel
theorem dX10_cutNumber_11 : decode cX10_cutNumber 11 = .ok (.if_icmp .ge 39, 3) := by decide +kernel
theorem dX10_cutNumber_14 : decode cX10_cutNumber 14 = .ok (.aload_n 0, 1) := by decide +kernel
theorem dX10_cutNumber_15 : decode cX10_cutNumber 15 = .ok (.iload 4, 2) := by decide +kernel
theorem dX10_cutNumber_17 : decode cX10_cutNumber 17 = .ok (.invokevirtual 67, 3) := by decide +kernel
theorem dX10_cutNumber_20 : decode cX10_cutNumber 20 = .ok (.invokestatic 73, 3) := by decide +kernel
theorem dX10_cutNumber_23 : decode cX10_cutNumber 23 = .ok (.ifCond .eq 27, 3) := by decide +kernel
theorem dX10_cutNumber_26 : decode cX10_cutNumber 26 = .ok (.lload_n 2, 1) := by decide +kernel
theorem dX10_cutNumber_27 : decode cX10_cutNumber 27 = .ok (.ldc2_w 89, 3) := by decide +kernel
theorem dX10_cutNumber_30 : decode cX10_cutNumber 30 = .ok (.lmul, 1) := by decide +kernel
theorem dX10_cutNumber_31 : decode cX10_cutNumber 31 = .ok (.aload_n 0, 1) := by decide +kernel
theorem dX10_cutNumber_32 : decode cX10_cutNumber 32 = .ok (.iload 4, 2) := by decide +kernel
theorem dX10_cutNumber_34 : decode cX10_cutNumber 34 = .ok (.invokevirtual 67, 3) := by decide +kernel
theorem dX10_cutNumber_37 : decode cX10_cutNumber 37 = .ok (.i2l, 1) := by decide +kernel
theorem dX10_cutNumber_38 : decode cX10_cutNumber 38 = .ok (.ladd, 1) := by decide +kernel
theorem dX10_cutNumber_39 : decode cX10_cutNumber 39 = .ok (.ldc2_w 91, 3) := by decide +kernel
theorem dX10_cutNumber_42 : decode cX10_cutNumber 42 = .ok (.lsub, 1) := by decide +kernel
theorem dX10_cutNumber_43 : decode cX10_cutNumber 43 = .ok (.lstore_n 2, 1) := by decide +kernel
theorem dX10_cutNumber_44 : decode cX10_cutNumber 44 = .ok (.iinc 4 1, 3) := by decide +kernel
theorem dX10_cutNumber_47 : decode cX10_cutNumber 47 = .ok (.goto (-42), 3) := by decide +kernel
theorem dX10_cutNumber_50 : decode cX10_cutNumber 50 = .ok (.aload_n 0, 1) := by decide +kernel
theorem dX10_cutNumber_51 : decode cX10_cutNumber 51 = .ok (.iload_n 1, 1) := by decide +kernel
theorem dX10_cutNumber_52 : decode cX10_cutNumber 52 = .ok (.iload 4, 2) := by decide +kernel
theorem dX10_cutNumber_54 : decode cX10_cutNumber 54 = .ok (.iload_n 1, 1) := by decide +kernel
theorem dX10_cutNumber_55 : decode cX10_cutNumber 55 = .ok (.isub, 1) := by decide +kernel
theorem dX10_cutNumber_56 : decode cX10_cutNumber 56 = .ok (.iconst 4, 1) := by decide +kernel
theorem dX10_cutNumber_57 : decode cX10_cutNumber 57 = .ok (.if_icmp .le 7, 3) := by decide +kernel
theorem dX10_cutNumber_60 : decode cX10_cutNumber 60 = .ok (.iconst 1, 1) := by decide +kernel
theorem dX10_cutNumber_61 : decode cX10_cutNumber 61 = .ok (.goto 4, 3) := by decide +kernel
theorem dX10_cutNumber_64 : decode cX10_cutNumber 64 = .ok (.iconst 2, 1) := by decide +kernel
theorem dX10_cutNumber_65 : decode cX10_cutNumber 65 = .ok (.lload_n 2, 1) := by decide +kernel
theorem dX10_cutNumber_66 : decode cX10_cutNumber 66 = .ok (.invokevirtual 63, 3) := by decide +kernel
theorem dX10_cutNumber_69 : decode cX10_cutNumber 69 = .ok (.iload 4, 2) := by decide +kernel
theorem dX10_cutNumber_71 : decode cX10_cutNumber 71 = .ok (.ireturn, 1) := by decide +kernel
theorem dX10_addToken_0 : decode cX10_addToken 0 = .ok (.aload_n 0, 1) := by decide +kernel
theorem dX10_addToken_1 : decode cX10_addToken 1 = .ok (.getfield 56, 3) := by decide +kernel
theorem dX10_addToken_4 : decode cX10_addToken 4 = .ok (.ifCond .lt 59, 3) := by decide +kernel
theorem dX10_addToken_7 : decode cX10_addToken 7 = .ok (.aload_n 0, 1) := by decide +kernel
theorem dX10_addToken_8 : decode cX10_addToken 8 = .ok (.getfield 56, 3) := by decide +kernel
theorem dX10_addToken_11 : decode cX10_addToken 11 = .ok (.aload_n 0, 1) := by decide +kernel
theorem dX10_addToken_12 : decode cX10_addToken 12 = .ok (.getfield 22, 3) := by decide +kernel
theorem dX10_addToken_15 : decode cX10_addToken 15 = .ok (.arraylength, 1) := by decide +kernel
theorem dX10_addToken_16 : decode cX10_addToken 16 = .ok (.if_icmp .ge 47, 3) := by decide +kernel
theorem dX10_addToken_19 : decode cX10_addToken 19 = .ok (.aload_n 0, 1) := by decide +kernel
theorem dX10_addToken_20 : decode cX10_addToken 20 = .ok (.getfield 22, 3) := by decide +kernel
theorem dX10_addToken_23 : decode cX10_addToken 23 = .ok (.aload_n 0, 1) := by decide +kernel
theorem dX10_addToken_24 : decode cX10_addToken 24 = .ok (.getfield 56, 3) := by decide +kernel
theorem dX10_addToken_27 : decode cX10_addToken 27 = .ok (.lload_n 3, 1) := by decide +kernel
theorem dX10_addToken_28 : decode cX10_addToken 28 = .ok (.lastore, 1) := by decide +kernel
theorem dX10_addToken_29 : decode cX10_addToken 29 = .ok (.aload_n 0, 1) := by decide +kernel
theorem dX10_addToken_30 : decode cX10_addToken 30 = .ok (.getfield 15, 3) := by decide +kernel
theorem dX10_addToken_33 : decode cX10_addToken 33 = .ok (.aload_n 0, 1) := by decide +kernel
theorem dX10_addToken_34 : decode cX10_addToken 34 = .ok (.getfield 56, 3) := by decide +kernel
theorem dX10_addToken_37 : decode cX10_addToken 37 = .ok (.iload_n 2, 1) := by decide +kernel
theorem dX10_addToken_38 : decode cX10_addToken 38 = .ok (.invokestatic 93, 3) := by decide +kernel
theorem dX10_addToken_41 : decode cX10_addToken 41 = .ok (.aload_n 0, 1) := by decide +kernel
theorem dX10_addToken_42 : decode cX10_addToken 42 = .ok (.getfield 19, 3) := by decide +kernel
theorem dX10_addToken_45 : decode cX10_addToken 45 = .ok (.aload_n 0, 1) := by decide +kernel
theorem dX10_addToken_46 : decode cX10_addToken 46 = .ok (.getfield 56, 3) := by decide +kernel
theorem dX10_addToken_49 : decode cX10_addToken 49 = .ok (.iload_n 1, 1) := by decide +kernel
theorem dX10_addToken_50 : decode cX10_addToken 50 = .ok (.invokestatic 93, 3) := by decide +kernel
theorem dX10_addToken_53 : decode cX10_addToken 53 = .ok (.aload_n 0, 1) := by decide +kernel
theorem dX10_addToken_54 : decode cX10_addToken 54 = .ok (.dup, 1) := by decide +kernel
theorem dX10_addToken_55 : decode cX10_addToken 55 = .ok (.getfield 56, 3) := by decide +kernel
theorem dX10_addToken_58 : decode cX10_addToken 58 = .ok (.iconst 1, 1) := by decide +kernel
theorem dX10_addToken_59 : decode cX10_addToken 59 = .ok (.iadd, 1) := by decide +kernel
theorem dX10_addToken_60 : decode cX10_addToken 60 = .ok (.putfield 56, 3) := by decide +kernel
theorem dX10_addToken_63 : decode cX10_addToken 63 = .ok (.return_, 1) := by decide +kernel
theorem dX10_keyOf_0 : decode cX10_keyOf 0 = .ok (.iconst 0, 1) := by decide +kernel
theorem dX10_keyOf_1 : decode cX10_keyOf 1 = .ok (.istore_n 3, 1) := by decide +kernel
theorem dX10_keyOf_2 : decode cX10_keyOf 2 = .ok (.iload_n 3, 1) := by decide +kernel
theorem dX10_keyOf_3 : decode cX10_keyOf 3 = .ok (.aload_n 0, 1) := by decide +kernel
theorem dX10_keyOf_4 : decode cX10_keyOf 4 = .ok (.getfield 26, 3) := by decide +kernel
theorem dX10_keyOf_7 : decode cX10_keyOf 7 = .ok (.arraylength, 1) := by decide +kernel
theorem dX10_keyOf_8 : decode cX10_keyOf 8 = .ok (.if_icmp .ge 26, 3) := by decide +kernel
theorem dX10_keyOf_11 : decode cX10_keyOf 11 = .ok (.aload_n 0, 1) := by decide +kernel
theorem dX10_keyOf_12 : decode cX10_keyOf 12 = .ok (.getfield 26, 3) := by decide +kernel
theorem dX10_keyOf_15 : decode cX10_keyOf 15 = .ok (.iload_n 3, 1) := by decide +kernel
theorem dX10_keyOf_16 : decode cX10_keyOf 16 = .ok (.laload, 1) := by decide +kernel
theorem dX10_keyOf_17 : decode cX10_keyOf 17 = .ok (.lload_n 1, 1) := by decide +kernel
theorem dX10_keyOf_18 : decode cX10_keyOf 18 = .ok (.lcmp, 1) := by decide +kernel
theorem dX10_keyOf_19 : decode cX10_keyOf 19 = .ok (.ifCond .ne 9, 3) := by decide +kernel
theorem dX10_keyOf_22 : decode cX10_keyOf 22 = .ok (.sipush 128, 3) := by decide +kernel
theorem dX10_keyOf_25 : decode cX10_keyOf 25 = .ok (.iload_n 3, 1) := by decide +kernel
theorem dX10_keyOf_26 : decode cX10_keyOf 26 = .ok (.iadd, 1) := by decide +kernel
theorem dX10_keyOf_27 : decode cX10_keyOf 27 = .ok (.ireturn, 1) := by decide +kernel
theorem dX10_keyOf_28 : decode cX10_keyOf 28 = .ok (.iinc 3 1, 3) := by decide +kernel
theorem dX10_keyOf_31 : decode cX10_keyOf 31 = .ok (.goto (-29), 3) := by decide +kernel
theorem dX10_keyOf_34 : decode cX10_keyOf 34 = .ok (.iconst 3, 1) := by decide +kernel
theorem dX10_keyOf_35 : decode cX10_keyOf 35 = .ok (.ireturn, 1) := by decide +kernel
theorem dX10_withLetter_0 : decode cX10_withLetter 0 = .ok (.lload_n 0, 1) := by decide +kernel
theorem dX10_withLetter_1 : decode cX10_withLetter 1 = .ok (.iconst 5, 1) := by decide +kernel
theorem dX10_withLetter_2 : decode cX10_withLetter 2 = .ok (.lshl, 1) := by decide +kernel
theorem dX10_withLetter_3 : decode cX10_withLetter 3 = .ok (.iload_n 2, 1) := by decide +kernel
theorem dX10_withLetter_4 : decode cX10_withLetter 4 = .ok (.bipush 97, 2) := by decide +kernel
theorem dX10_withLetter_6 : decode cX10_withLetter 6 = .ok (.isub, 1) := by decide +kernel
theorem dX10_withLetter_7 : decode cX10_withLetter 7 = .ok (.iconst 1, 1) := by decide +kernel
theorem dX10_withLetter_8 : decode cX10_withLetter 8 = .ok (.iadd, 1) := by decide +kernel
theorem dX10_withLetter_9 : decode cX10_withLetter 9 = .ok (.i2l, 1) := by decide +kernel
theorem dX10_withLetter_10 : decode cX10_withLetter 10 = .ok (.lor, 1) := by decide +kernel
theorem dX10_withLetter_11 : decode cX10_withLetter 11 = .ok (.lreturn, 1) := by decide +kernel
theorem dX10_isBlank_0 : decode cX10_isBlank 0 = .ok (.iload_n 0, 1) := by decide +kernel
theorem dX10_isBlank_1 : decode cX10_isBlank 1 = .ok (.bipush 10, 2) := by decide +kernel
theorem dX10_isBlank_3 : decode cX10_isBlank 3 = .ok (.if_icmp .eq 9, 3) := by decide +kernel
theorem dX10_isBlank_6 : decode cX10_isBlank 6 = .ok (.iload_n 0, 1) := by decide +kernel
theorem dX10_isBlank_7 : decode cX10_isBlank 7 = .ok (.bipush 32, 2) := by decide +kernel
theorem dX10_isBlank_9 : decode cX10_isBlank 9 = .ok (.if_icmp .ne 7, 3) := by decide +kernel
theorem dX10_isBlank_12 : decode cX10_isBlank 12 = .ok (.iconst 1, 1) := by decide +kernel
theorem dX10_isBlank_13 : decode cX10_isBlank 13 = .ok (.goto 4, 3) := by decide +kernel
theorem dX10_isBlank_16 : decode cX10_isBlank 16 = .ok (.iconst 0, 1) := by decide +kernel
theorem dX10_isBlank_17 : decode cX10_isBlank 17 = .ok (.ireturn, 1) := by decide +kernel
theorem dX10_isLetter_0 : decode cX10_isLetter 0 = .ok (.iload_n 0, 1) := by decide +kernel
theorem dX10_isLetter_1 : decode cX10_isLetter 1 = .ok (.bipush 97, 2) := by decide +kernel
theorem dX10_isLetter_3 : decode cX10_isLetter 3 = .ok (.if_icmp .lt 13, 3) := by decide +kernel
theorem dX10_isLetter_6 : decode cX10_isLetter 6 = .ok (.iload_n 0, 1) := by decide +kernel
theorem dX10_isLetter_7 : decode cX10_isLetter 7 = .ok (.bipush 122, 2) := by decide +kernel
theorem dX10_isLetter_9 : decode cX10_isLetter 9 = .ok (.if_icmp .gt 7, 3) := by decide +kernel
theorem dX10_isLetter_12 : decode cX10_isLetter 12 = .ok (.iconst 1, 1) := by decide +kernel
theorem dX10_isLetter_13 : decode cX10_isLetter 13 = .ok (.goto 4, 3) := by decide +kernel
theorem dX10_isLetter_16 : decode cX10_isLetter 16 = .ok (.iconst 0, 1) := by decide +kernel
theorem dX10_isLetter_17 : decode cX10_isLetter 17 = .ok (.ireturn, 1) := by decide +kernel
theorem dX10_isDigit_0 : decode cX10_isDigit 0 = .ok (.iload_n 0, 1) := by decide +kernel
theorem dX10_isDigit_1 : decode cX10_isDigit 1 = .ok (.bipush 48, 2) := by decide +kernel
theorem dX10_isDigit_3 : decode cX10_isDigit 3 = .ok (.if_icmp .lt 13, 3) := by decide +kernel
theorem dX10_isDigit_6 : decode cX10_isDigit 6 = .ok (.iload_n 0, 1) := by decide +kernel
theorem dX10_isDigit_7 : decode cX10_isDigit 7 = .ok (.bipush 57, 2) := by decide +kernel
theorem dX10_isDigit_9 : decode cX10_isDigit 9 = .ok (.if_icmp .gt 7, 3) := by decide +kernel
theorem dX10_isDigit_12 : decode cX10_isDigit 12 = .ok (.iconst 1, 1) := by decide +kernel
theorem dX10_isDigit_13 : decode cX10_isDigit 13 = .ok (.goto 4, 3) := by decide +kernel
theorem dX10_isDigit_16 : decode cX10_isDigit 16 = .ok (.iconst 0, 1) := by decide +kernel
theorem dX10_isDigit_17 : decode cX10_isDigit 17 = .ok (.ireturn, 1) := by decide +kernel
theorem dX10_isSign_0 : decode cX10_isSign 0 = .ok (.iload_n 0, 1) := by decide +kernel
theorem dX10_isSign_1 : decode cX10_isSign 1 = .ok (.bipush 40, 2) := by decide +kernel
theorem dX10_isSign_3 : decode cX10_isSign 3 = .ok (.if_icmp .lt 15, 3) := by decide +kernel
theorem dX10_isSign_6 : decode cX10_isSign 6 = .ok (.iload_n 0, 1) := by decide +kernel
theorem dX10_isSign_7 : decode cX10_isSign 7 = .ok (.bipush 45, 2) := by decide +kernel
theorem dX10_isSign_9 : decode cX10_isSign 9 = .ok (.if_icmp .gt 9, 3) := by decide +kernel
theorem dX10_isSign_12 : decode cX10_isSign 12 = .ok (.iload_n 0, 1) := by decide +kernel
theorem dX10_isSign_13 : decode cX10_isSign 13 = .ok (.bipush 44, 2) := by decide +kernel
theorem dX10_isSign_15 : decode cX10_isSign 15 = .ok (.if_icmp .ne 15, 3) := by decide +kernel
theorem dX10_isSign_18 : decode cX10_isSign 18 = .ok (.iload_n 0, 1) := by decide +kernel
theorem dX10_isSign_19 : decode cX10_isSign 19 = .ok (.bipush 59, 2) := by decide +kernel
theorem dX10_isSign_21 : decode cX10_isSign 21 = .ok (.if_icmp .lt 13, 3) := by decide +kernel
theorem dX10_isSign_24 : decode cX10_isSign 24 = .ok (.iload_n 0, 1) := by decide +kernel
theorem dX10_isSign_25 : decode cX10_isSign 25 = .ok (.bipush 61, 2) := by decide +kernel
theorem dX10_isSign_27 : decode cX10_isSign 27 = .ok (.if_icmp .gt 7, 3) := by decide +kernel
theorem dX10_isSign_30 : decode cX10_isSign 30 = .ok (.iconst 1, 1) := by decide +kernel
theorem dX10_isSign_31 : decode cX10_isSign 31 = .ok (.goto 4, 3) := by decide +kernel
theorem dX10_isSign_34 : decode cX10_isSign 34 = .ok (.iconst 0, 1) := by decide +kernel
theorem dX10_isSign_35 : decode cX10_isSign 35 = .ok (.ireturn, 1) := by decide +kernel
