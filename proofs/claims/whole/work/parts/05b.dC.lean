theorem dX12_turns_53 : decode cX12_turns 53 = .ok (.iaload, 1) := by decide +kernel
theorem dX12_turns_54 : decode cX12_turns 54 = .ok (.iastore, 1) := by decide +kernel
theorem dX12_turns_55 : decode cX12_turns 55 = .ok (.iinc 1 1, 3) := by decide +kernel
theorem dX12_turns_58 : decode cX12_turns 58 = .ok (.goto (-23), 3) := by decide +kernel
theorem dX12_turns_61 : decode cX12_turns 61 = .ok (.return_, 1) := by decide +kernel
theorem dX12_readsStep_0 : decode cX12_readsStep 0 = .ok (.aload_n 0, 1) := by decide +kernel
theorem dX12_readsStep_1 : decode cX12_readsStep 1 = .ok (.invokevirtual 284, 3) := by decide +kernel
theorem dX12_readsStep_4 : decode cX12_readsStep 4 = .ok (.istore_n 1, 1) := by decide +kernel
theorem dX12_readsStep_5 : decode cX12_readsStep 5 = .ok (.iload_n 1, 1) := by decide +kernel
theorem dX12_readsStep_6 : decode cX12_readsStep 6 = .ok (.ifCond .ge 9, 3) := by decide +kernel
theorem dX12_readsStep_9 : decode cX12_readsStep 9 = .ok (.aload_n 0, 1) := by decide +kernel
theorem dX12_readsStep_10 : decode cX12_readsStep 10 = .ok (.iconst 1, 1) := by decide +kernel
theorem dX12_readsStep_11 : decode cX12_readsStep 11 = .ok (.invokevirtual 222, 3) := by decide +kernel
theorem dX12_readsStep_14 : decode cX12_readsStep 14 = .ok (.ireturn, 1) := by decide +kernel
theorem dX12_readsStep_15 : decode cX12_readsStep 15 = .ok (.aload_n 0, 1) := by decide +kernel
theorem dX12_readsStep_16 : decode cX12_readsStep 16 = .ok (.getfield 287, 3) := by decide +kernel
theorem dX12_readsStep_19 : decode cX12_readsStep 19 = .ok (.bipush 8, 2) := by decide +kernel
theorem dX12_readsStep_21 : decode cX12_readsStep 21 = .ok (.if_icmp .ne 9, 3) := by decide +kernel
theorem dX12_readsStep_24 : decode cX12_readsStep 24 = .ok (.aload_n 0, 1) := by decide +kernel
theorem dX12_readsStep_25 : decode cX12_readsStep 25 = .ok (.iconst 5, 1) := by decide +kernel
theorem dX12_readsStep_26 : decode cX12_readsStep 26 = .ok (.invokevirtual 222, 3) := by decide +kernel
theorem dX12_readsStep_29 : decode cX12_readsStep 29 = .ok (.ireturn, 1) := by decide +kernel
theorem dX12_readsStep_30 : decode cX12_readsStep 30 = .ok (.aload_n 0, 1) := by decide +kernel
theorem dX12_readsStep_31 : decode cX12_readsStep 31 = .ok (.invokevirtual 229, 3) := by decide +kernel
theorem dX12_readsStep_34 : decode cX12_readsStep 34 = .ok (.iconst 0, 1) := by decide +kernel
theorem dX12_readsStep_35 : decode cX12_readsStep 35 = .ok (.istore_n 2, 1) := by decide +kernel
theorem dX12_readsStep_36 : decode cX12_readsStep 36 = .ok (.iload_n 1, 1) := by decide +kernel
theorem dX12_readsStep_37 : decode cX12_readsStep 37 = .ok (.iconst 4, 1) := by decide +kernel
theorem dX12_readsStep_38 : decode cX12_readsStep 38 = .ok (.if_icmp .ne 24, 3) := by decide +kernel
theorem dX12_readsStep_41 : decode cX12_readsStep 41 = .ok (.aload_n 0, 1) := by decide +kernel
theorem dX12_readsStep_42 : decode cX12_readsStep 42 = .ok (.iconst 0, 1) := by decide +kernel
theorem dX12_readsStep_43 : decode cX12_readsStep 43 = .ok (.bipush 11, 2) := by decide +kernel
theorem dX12_readsStep_45 : decode cX12_readsStep 45 = .ok (.invokevirtual 290, 3) := by decide +kernel
theorem dX12_readsStep_48 : decode cX12_readsStep 48 = .ok (.ifCond .ne 5, 3) := by decide +kernel
theorem dX12_readsStep_51 : decode cX12_readsStep 51 = .ok (.iconst 0, 1) := by decide +kernel
theorem dX12_readsStep_52 : decode cX12_readsStep 52 = .ok (.ireturn, 1) := by decide +kernel
theorem dX12_readsStep_53 : decode cX12_readsStep 53 = .ok (.aload_n 0, 1) := by decide +kernel
theorem dX12_readsStep_54 : decode cX12_readsStep 54 = .ok (.getfield 178, 3) := by decide +kernel
theorem dX12_readsStep_57 : decode cX12_readsStep 57 = .ok (.istore_n 2, 1) := by decide +kernel
theorem dX12_readsStep_58 : decode cX12_readsStep 58 = .ok (.aload_n 0, 1) := by decide +kernel
theorem dX12_readsStep_59 : decode cX12_readsStep 59 = .ok (.invokevirtual 229, 3) := by decide +kernel
theorem dX12_readsStep_62 : decode cX12_readsStep 62 = .ok (.iload_n 1, 1) := by decide +kernel
theorem dX12_readsStep_63 : decode cX12_readsStep 63 = .ok (.iconst 5, 1) := by decide +kernel
theorem dX12_readsStep_64 : decode cX12_readsStep 64 = .ok (.if_icmp .ne 118, 3) := by decide +kernel
theorem dX12_readsStep_67 : decode cX12_readsStep 67 = .ok (.aload_n 0, 1) := by decide +kernel
theorem dX12_readsStep_68 : decode cX12_readsStep 68 = .ok (.iconst 0, 1) := by decide +kernel
theorem dX12_readsStep_69 : decode cX12_readsStep 69 = .ok (.aload_n 0, 1) := by decide +kernel
theorem dX12_readsStep_70 : decode cX12_readsStep 70 = .ok (.getfield 281, 3) := by decide +kernel
theorem dX12_readsStep_73 : decode cX12_readsStep 73 = .ok (.iconst 1, 1) := by decide +kernel
theorem dX12_readsStep_74 : decode cX12_readsStep 74 = .ok (.isub, 1) := by decide +kernel
theorem dX12_readsStep_75 : decode cX12_readsStep 75 = .ok (.invokevirtual 290, 3) := by decide +kernel
theorem dX12_readsStep_78 : decode cX12_readsStep 78 = .ok (.ifCond .ne 5, 3) := by decide +kernel
theorem dX12_readsStep_81 : decode cX12_readsStep 81 = .ok (.iconst 0, 1) := by decide +kernel
theorem dX12_readsStep_82 : decode cX12_readsStep 82 = .ok (.ireturn, 1) := by decide +kernel
theorem dX12_readsStep_83 : decode cX12_readsStep 83 = .ok (.aload_n 0, 1) := by decide +kernel
theorem dX12_readsStep_84 : decode cX12_readsStep 84 = .ok (.getfield 178, 3) := by decide +kernel
theorem dX12_readsStep_87 : decode cX12_readsStep 87 = .ok (.istore_n 3, 1) := by decide +kernel
theorem dX12_readsStep_88 : decode cX12_readsStep 88 = .ok (.aload_n 0, 1) := by decide +kernel
theorem dX12_readsStep_89 : decode cX12_readsStep 89 = .ok (.invokevirtual 229, 3) := by decide +kernel
theorem dX12_readsStep_92 : decode cX12_readsStep 92 = .ok (.aload_n 0, 1) := by decide +kernel
theorem dX12_readsStep_93 : decode cX12_readsStep 93 = .ok (.iconst 0, 1) := by decide +kernel
theorem dX12_readsStep_94 : decode cX12_readsStep 94 = .ok (.aload_n 0, 1) := by decide +kernel
theorem dX12_readsStep_95 : decode cX12_readsStep 95 = .ok (.getfield 281, 3) := by decide +kernel
theorem dX12_readsStep_98 : decode cX12_readsStep 98 = .ok (.iconst 1, 1) := by decide +kernel
theorem dX12_readsStep_99 : decode cX12_readsStep 99 = .ok (.isub, 1) := by decide +kernel
theorem dX12_readsStep_100 : decode cX12_readsStep 100 = .ok (.invokevirtual 290, 3) := by decide +kernel
theorem dX12_readsStep_103 : decode cX12_readsStep 103 = .ok (.ifCond .ne 5, 3) := by decide +kernel
theorem dX12_readsStep_106 : decode cX12_readsStep 106 = .ok (.iconst 0, 1) := by decide +kernel
theorem dX12_readsStep_107 : decode cX12_readsStep 107 = .ok (.ireturn, 1) := by decide +kernel
theorem dX12_readsStep_108 : decode cX12_readsStep 108 = .ok (.aload_n 0, 1) := by decide +kernel
theorem dX12_readsStep_109 : decode cX12_readsStep 109 = .ok (.getfield 178, 3) := by decide +kernel
theorem dX12_readsStep_112 : decode cX12_readsStep 112 = .ok (.istore 4, 2) := by decide +kernel
theorem dX12_readsStep_114 : decode cX12_readsStep 114 = .ok (.iload_n 3, 1) := by decide +kernel
theorem dX12_readsStep_115 : decode cX12_readsStep 115 = .ok (.iload 4, 2) := by decide +kernel
theorem dX12_readsStep_117 : decode cX12_readsStep 117 = .ok (.if_icmp .ne 9, 3) := by decide +kernel
theorem dX12_readsStep_120 : decode cX12_readsStep 120 = .ok (.aload_n 0, 1) := by decide +kernel
theorem dX12_readsStep_121 : decode cX12_readsStep 121 = .ok (.iconst 3, 1) := by decide +kernel
theorem dX12_readsStep_122 : decode cX12_readsStep 122 = .ok (.invokevirtual 222, 3) := by decide +kernel
theorem dX12_readsStep_125 : decode cX12_readsStep 125 = .ok (.ireturn, 1) := by decide +kernel
theorem dX12_readsStep_126 : decode cX12_readsStep 126 = .ok (.aload_n 0, 1) := by decide +kernel
theorem dX12_readsStep_127 : decode cX12_readsStep 127 = .ok (.invokevirtual 229, 3) := by decide +kernel
theorem dX12_readsStep_130 : decode cX12_readsStep 130 = .ok (.iconst 0, 1) := by decide +kernel
theorem dX12_readsStep_131 : decode cX12_readsStep 131 = .ok (.istore 5, 2) := by decide +kernel
theorem dX12_readsStep_133 : decode cX12_readsStep 133 = .ok (.iload 5, 2) := by decide +kernel
theorem dX12_readsStep_135 : decode cX12_readsStep 135 = .ok (.aload_n 0, 1) := by decide +kernel
theorem dX12_readsStep_136 : decode cX12_readsStep 136 = .ok (.getfield 281, 3) := by decide +kernel
theorem dX12_readsStep_139 : decode cX12_readsStep 139 = .ok (.if_icmp .ge 40, 3) := by decide +kernel
theorem dX12_readsStep_142 : decode cX12_readsStep 142 = .ok (.aload_n 0, 1) := by decide +kernel
theorem dX12_readsStep_143 : decode cX12_readsStep 143 = .ok (.getfield 108, 3) := by decide +kernel
theorem dX12_readsStep_146 : decode cX12_readsStep 146 = .ok (.iload 5, 2) := by decide +kernel
theorem dX12_readsStep_148 : decode cX12_readsStep 148 = .ok (.iload 5, 2) := by decide +kernel
theorem dX12_readsStep_150 : decode cX12_readsStep 150 = .ok (.iload_n 3, 1) := by decide +kernel
theorem dX12_readsStep_151 : decode cX12_readsStep 151 = .ok (.if_icmp .ne 8, 3) := by decide +kernel
theorem dX12_readsStep_154 : decode cX12_readsStep 154 = .ok (.iload 4, 2) := by decide +kernel
theorem dX12_readsStep_156 : decode cX12_readsStep 156 = .ok (.goto 16, 3) := by decide +kernel
theorem dX12_readsStep_159 : decode cX12_readsStep 159 = .ok (.iload 5, 2) := by decide +kernel
theorem dX12_readsStep_161 : decode cX12_readsStep 161 = .ok (.iload 4, 2) := by decide +kernel
theorem dX12_readsStep_163 : decode cX12_readsStep 163 = .ok (.if_icmp .ne 7, 3) := by decide +kernel
theorem dX12_readsStep_166 : decode cX12_readsStep 166 = .ok (.iload_n 3, 1) := by decide +kernel
theorem dX12_readsStep_167 : decode cX12_readsStep 167 = .ok (.goto 5, 3) := by decide +kernel
theorem dX12_readsStep_170 : decode cX12_readsStep 170 = .ok (.iload 5, 2) := by decide +kernel
theorem dX12_readsStep_172 : decode cX12_readsStep 172 = .ok (.iastore, 1) := by decide +kernel
theorem dX12_readsStep_173 : decode cX12_readsStep 173 = .ok (.iinc 5 1, 3) := by decide +kernel
theorem dX12_readsStep_176 : decode cX12_readsStep 176 = .ok (.goto (-43), 3) := by decide +kernel
theorem dX12_readsStep_179 : decode cX12_readsStep 179 = .ok (.goto 9, 3) := by decide +kernel
theorem dX12_readsStep_182 : decode cX12_readsStep 182 = .ok (.aload_n 0, 1) := by decide +kernel
theorem dX12_readsStep_183 : decode cX12_readsStep 183 = .ok (.iload_n 1, 1) := by decide +kernel
theorem dX12_readsStep_184 : decode cX12_readsStep 184 = .ok (.iload_n 2, 1) := by decide +kernel
theorem dX12_readsStep_185 : decode cX12_readsStep 185 = .ok (.invokevirtual 294, 3) := by decide +kernel
theorem dX12_readsStep_188 : decode cX12_readsStep 188 = .ok (.aload_n 0, 1) := by decide +kernel
theorem dX12_readsStep_189 : decode cX12_readsStep 189 = .ok (.invokevirtual 298, 3) := by decide +kernel
theorem dX12_readsStep_192 : decode cX12_readsStep 192 = .ok (.aload_n 0, 1) := by decide +kernel
theorem dX12_readsStep_193 : decode cX12_readsStep 193 = .ok (.dup, 1) := by decide +kernel
theorem dX12_readsStep_194 : decode cX12_readsStep 194 = .ok (.getfield 287, 3) := by decide +kernel
theorem dX12_readsStep_197 : decode cX12_readsStep 197 = .ok (.iconst 1, 1) := by decide +kernel
theorem dX12_readsStep_198 : decode cX12_readsStep 198 = .ok (.iadd, 1) := by decide +kernel
theorem dX12_readsStep_199 : decode cX12_readsStep 199 = .ok (.putfield 287, 3) := by decide +kernel
theorem dX12_readsStep_202 : decode cX12_readsStep 202 = .ok (.iconst 1, 1) := by decide +kernel
theorem dX12_readsStep_203 : decode cX12_readsStep 203 = .ok (.ireturn, 1) := by decide +kernel
theorem dX12_readsTurn_0 : decode cX12_readsTurn 0 = .ok (.aload_n 0, 1) := by decide +kernel
theorem dX12_readsTurn_1 : decode cX12_readsTurn 1 = .ok (.invokevirtual 229, 3) := by decide +kernel
theorem dX12_readsTurn_4 : decode cX12_readsTurn 4 = .ok (.aload_n 0, 1) := by decide +kernel
theorem dX12_readsTurn_5 : decode cX12_readsTurn 5 = .ok (.invokevirtual 301, 3) := by decide +kernel
theorem dX12_readsTurn_8 : decode cX12_readsTurn 8 = .ok (.ifCond .ne 5, 3) := by decide +kernel
theorem dX12_readsTurn_11 : decode cX12_readsTurn 11 = .ok (.iconst 0, 1) := by decide +kernel
theorem dX12_readsTurn_12 : decode cX12_readsTurn 12 = .ok (.ireturn, 1) := by decide +kernel
theorem dX12_readsTurn_13 : decode cX12_readsTurn 13 = .ok (.aload_n 0, 1) := by decide +kernel
theorem dX12_readsTurn_14 : decode cX12_readsTurn 14 = .ok (.getfield 181, 3) := by decide +kernel
theorem dX12_readsTurn_17 : decode cX12_readsTurn 17 = .ok (.iconst 1, 1) := by decide +kernel
theorem dX12_readsTurn_18 : decode cX12_readsTurn 18 = .ok (.if_icmp .ne 19, 3) := by decide +kernel
theorem dX12_readsTurn_21 : decode cX12_readsTurn 21 = .ok (.aload_n 0, 1) := by decide +kernel
theorem dX12_readsTurn_22 : decode cX12_readsTurn 22 = .ok (.invokevirtual 284, 3) := by decide +kernel
theorem dX12_readsTurn_25 : decode cX12_readsTurn 25 = .ok (.ifCond .lt 12, 3) := by decide +kernel
theorem dX12_readsTurn_28 : decode cX12_readsTurn 28 = .ok (.aload_n 0, 1) := by decide +kernel
theorem dX12_readsTurn_29 : decode cX12_readsTurn 29 = .ok (.invokevirtual 301, 3) := by decide +kernel
theorem dX12_readsTurn_32 : decode cX12_readsTurn 32 = .ok (.ifCond .ne (-19), 3) := by decide +kernel
theorem dX12_readsTurn_35 : decode cX12_readsTurn 35 = .ok (.iconst 0, 1) := by decide +kernel
theorem dX12_readsTurn_36 : decode cX12_readsTurn 36 = .ok (.ireturn, 1) := by decide +kernel
theorem dX12_readsTurn_37 : decode cX12_readsTurn 37 = .ok (.aload_n 0, 1) := by decide +kernel
theorem dX12_readsTurn_38 : decode cX12_readsTurn 38 = .ok (.invokevirtual 305, 3) := by decide +kernel
theorem dX12_readsTurn_41 : decode cX12_readsTurn 41 = .ok (.ireturn, 1) := by decide +kernel
theorem dX12_readsRhyme_0 : decode cX12_readsRhyme 0 = .ok (.aload_n 0, 1) := by decide +kernel
theorem dX12_readsRhyme_1 : decode cX12_readsRhyme 1 = .ok (.getfield 307, 3) := by decide +kernel
theorem dX12_readsRhyme_4 : decode cX12_readsRhyme 4 = .ok (.bipush 8, 2) := by decide +kernel
theorem dX12_readsRhyme_6 : decode cX12_readsRhyme 6 = .ok (.if_icmp .ne 9, 3) := by decide +kernel
theorem dX12_readsRhyme_9 : decode cX12_readsRhyme 9 = .ok (.aload_n 0, 1) := by decide +kernel
theorem dX12_readsRhyme_10 : decode cX12_readsRhyme 10 = .ok (.iconst 5, 1) := by decide +kernel
theorem dX12_readsRhyme_11 : decode cX12_readsRhyme 11 = .ok (.invokevirtual 222, 3) := by decide +kernel
theorem dX12_readsRhyme_14 : decode cX12_readsRhyme 14 = .ok (.ireturn, 1) := by decide +kernel
theorem dX12_readsRhyme_15 : decode cX12_readsRhyme 15 = .ok (.aload_n 0, 1) := by decide +kernel
theorem dX12_readsRhyme_16 : decode cX12_readsRhyme 16 = .ok (.invokevirtual 229, 3) := by decide +kernel
theorem dX12_readsRhyme_19 : decode cX12_readsRhyme 19 = .ok (.aload_n 0, 1) := by decide +kernel
theorem dX12_readsRhyme_20 : decode cX12_readsRhyme 20 = .ok (.iconst 0, 1) := by decide +kernel
theorem dX12_readsRhyme_21 : decode cX12_readsRhyme 21 = .ok (.aload_n 0, 1) := by decide +kernel
theorem dX12_readsRhyme_22 : decode cX12_readsRhyme 22 = .ok (.getfield 281, 3) := by decide +kernel
theorem dX12_readsRhyme_25 : decode cX12_readsRhyme 25 = .ok (.iconst 1, 1) := by decide +kernel
theorem dX12_readsRhyme_26 : decode cX12_readsRhyme 26 = .ok (.isub, 1) := by decide +kernel
theorem dX12_readsRhyme_27 : decode cX12_readsRhyme 27 = .ok (.invokevirtual 290, 3) := by decide +kernel
theorem dX12_readsRhyme_30 : decode cX12_readsRhyme 30 = .ok (.ifCond .ne 5, 3) := by decide +kernel
theorem dX12_readsRhyme_33 : decode cX12_readsRhyme 33 = .ok (.iconst 0, 1) := by decide +kernel
theorem dX12_readsRhyme_34 : decode cX12_readsRhyme 34 = .ok (.ireturn, 1) := by decide +kernel
theorem dX12_readsRhyme_35 : decode cX12_readsRhyme 35 = .ok (.aload_n 0, 1) := by decide +kernel
theorem dX12_readsRhyme_36 : decode cX12_readsRhyme 36 = .ok (.getfield 41, 3) := by decide +kernel
theorem dX12_readsRhyme_39 : decode cX12_readsRhyme 39 = .ok (.aload_n 0, 1) := by decide +kernel
theorem dX12_readsRhyme_40 : decode cX12_readsRhyme 40 = .ok (.getfield 307, 3) := by decide +kernel
theorem dX12_readsRhyme_43 : decode cX12_readsRhyme 43 = .ok (.aload_n 0, 1) := by decide +kernel
theorem dX12_readsRhyme_44 : decode cX12_readsRhyme 44 = .ok (.getfield 178, 3) := by decide +kernel
theorem dX12_readsRhyme_47 : decode cX12_readsRhyme 47 = .ok (.iastore, 1) := by decide +kernel
theorem dX12_readsRhyme_48 : decode cX12_readsRhyme 48 = .ok (.aload_n 0, 1) := by decide +kernel
theorem dX12_readsRhyme_49 : decode cX12_readsRhyme 49 = .ok (.invokevirtual 229, 3) := by decide +kernel
theorem dX12_readsRhyme_52 : decode cX12_readsRhyme 52 = .ok (.aload_n 0, 1) := by decide +kernel
theorem dX12_readsRhyme_53 : decode cX12_readsRhyme 53 = .ok (.iconst 0, 1) := by decide +kernel
theorem dX12_readsRhyme_54 : decode cX12_readsRhyme 54 = .ok (.aload_n 0, 1) := by decide +kernel
theorem dX12_readsRhyme_55 : decode cX12_readsRhyme 55 = .ok (.getfield 281, 3) := by decide +kernel
theorem dX12_readsRhyme_58 : decode cX12_readsRhyme 58 = .ok (.iconst 1, 1) := by decide +kernel
theorem dX12_readsRhyme_59 : decode cX12_readsRhyme 59 = .ok (.isub, 1) := by decide +kernel
theorem dX12_readsRhyme_60 : decode cX12_readsRhyme 60 = .ok (.invokevirtual 290, 3) := by decide +kernel
theorem dX12_readsRhyme_63 : decode cX12_readsRhyme 63 = .ok (.ifCond .ne 5, 3) := by decide +kernel
theorem dX12_readsRhyme_66 : decode cX12_readsRhyme 66 = .ok (.iconst 0, 1) := by decide +kernel
theorem dX12_readsRhyme_67 : decode cX12_readsRhyme 67 = .ok (.ireturn, 1) := by decide +kernel
theorem dX12_readsRhyme_68 : decode cX12_readsRhyme 68 = .ok (.aload_n 0, 1) := by decide +kernel
theorem dX12_readsRhyme_69 : decode cX12_readsRhyme 69 = .ok (.getfield 44, 3) := by decide +kernel
theorem dX12_readsRhyme_72 : decode cX12_readsRhyme 72 = .ok (.aload_n 0, 1) := by decide +kernel
theorem dX12_readsRhyme_73 : decode cX12_readsRhyme 73 = .ok (.getfield 307, 3) := by decide +kernel
theorem dX12_readsRhyme_76 : decode cX12_readsRhyme 76 = .ok (.aload_n 0, 1) := by decide +kernel
theorem dX12_readsRhyme_77 : decode cX12_readsRhyme 77 = .ok (.getfield 178, 3) := by decide +kernel
theorem dX12_readsRhyme_80 : decode cX12_readsRhyme 80 = .ok (.iastore, 1) := by decide +kernel
theorem dX12_readsRhyme_81 : decode cX12_readsRhyme 81 = .ok (.aload_n 0, 1) := by decide +kernel
theorem dX12_readsRhyme_82 : decode cX12_readsRhyme 82 = .ok (.getfield 41, 3) := by decide +kernel
theorem dX12_readsRhyme_85 : decode cX12_readsRhyme 85 = .ok (.aload_n 0, 1) := by decide +kernel
theorem dX12_readsRhyme_86 : decode cX12_readsRhyme 86 = .ok (.getfield 307, 3) := by decide +kernel
theorem dX12_readsRhyme_89 : decode cX12_readsRhyme 89 = .ok (.iaload, 1) := by decide +kernel
theorem dX12_readsRhyme_90 : decode cX12_readsRhyme 90 = .ok (.aload_n 0, 1) := by decide +kernel
theorem dX12_readsRhyme_91 : decode cX12_readsRhyme 91 = .ok (.getfield 178, 3) := by decide +kernel
theorem dX12_readsRhyme_94 : decode cX12_readsRhyme 94 = .ok (.if_icmp .ne 9, 3) := by decide +kernel
theorem dX12_readsRhyme_97 : decode cX12_readsRhyme 97 = .ok (.aload_n 0, 1) := by decide +kernel
theorem dX12_readsRhyme_98 : decode cX12_readsRhyme 98 = .ok (.iconst 3, 1) := by decide +kernel
theorem dX12_readsRhyme_99 : decode cX12_readsRhyme 99 = .ok (.invokevirtual 222, 3) := by decide +kernel
theorem dX12_readsRhyme_102 : decode cX12_readsRhyme 102 = .ok (.ireturn, 1) := by decide +kernel
theorem dX12_readsRhyme_103 : decode cX12_readsRhyme 103 = .ok (.aload_n 0, 1) := by decide +kernel
theorem dX12_readsRhyme_104 : decode cX12_readsRhyme 104 = .ok (.dup, 1) := by decide +kernel
theorem dX12_readsRhyme_105 : decode cX12_readsRhyme 105 = .ok (.getfield 307, 3) := by decide +kernel
theorem dX12_readsRhyme_108 : decode cX12_readsRhyme 108 = .ok (.iconst 1, 1) := by decide +kernel
theorem dX12_readsRhyme_109 : decode cX12_readsRhyme 109 = .ok (.iadd, 1) := by decide +kernel
theorem dX12_readsRhyme_110 : decode cX12_readsRhyme 110 = .ok (.putfield 307, 3) := by decide +kernel
theorem dX12_readsRhyme_113 : decode cX12_readsRhyme 113 = .ok (.aload_n 0, 1) := by decide +kernel
theorem dX12_readsRhyme_114 : decode cX12_readsRhyme 114 = .ok (.invokevirtual 229, 3) := by decide +kernel
theorem dX12_readsRhyme_117 : decode cX12_readsRhyme 117 = .ok (.aload_n 0, 1) := by decide +kernel
theorem dX12_readsRhyme_118 : decode cX12_readsRhyme 118 = .ok (.invokevirtual 305, 3) := by decide +kernel
theorem dX12_readsRhyme_121 : decode cX12_readsRhyme 121 = .ok (.ireturn, 1) := by decide +kernel
theorem dX12_readsWhole_0 : decode cX12_readsWhole 0 = .ok (.aload_n 0, 1) := by decide +kernel
theorem dX12_readsWhole_1 : decode cX12_readsWhole 1 = .ok (.invokevirtual 229, 3) := by decide +kernel
theorem dX12_readsWhole_4 : decode cX12_readsWhole 4 = .ok (.aload_n 0, 1) := by decide +kernel
theorem dX12_readsWhole_5 : decode cX12_readsWhole 5 = .ok (.iconst 0, 1) := by decide +kernel
theorem dX12_readsWhole_6 : decode cX12_readsWhole 6 = .ok (.aload_n 0, 1) := by decide +kernel
theorem dX12_readsWhole_7 : decode cX12_readsWhole 7 = .ok (.getfield 281, 3) := by decide +kernel
theorem dX12_readsWhole_10 : decode cX12_readsWhole 10 = .ok (.iconst 1, 1) := by decide +kernel
theorem dX12_readsWhole_11 : decode cX12_readsWhole 11 = .ok (.isub, 1) := by decide +kernel
theorem dX12_readsWhole_12 : decode cX12_readsWhole 12 = .ok (.invokevirtual 290, 3) := by decide +kernel
theorem dX12_readsWhole_15 : decode cX12_readsWhole 15 = .ok (.ifCond .ne 5, 3) := by decide +kernel
theorem dX12_readsWhole_18 : decode cX12_readsWhole 18 = .ok (.iconst 0, 1) := by decide +kernel
theorem dX12_readsWhole_19 : decode cX12_readsWhole 19 = .ok (.ireturn, 1) := by decide +kernel
theorem dX12_readsWhole_20 : decode cX12_readsWhole 20 = .ok (.aload_n 0, 1) := by decide +kernel
theorem dX12_readsWhole_21 : decode cX12_readsWhole 21 = .ok (.getfield 178, 3) := by decide +kernel
theorem dX12_readsWhole_24 : decode cX12_readsWhole 24 = .ok (.istore_n 1, 1) := by decide +kernel
theorem dX12_readsWhole_25 : decode cX12_readsWhole 25 = .ok (.aload_n 0, 1) := by decide +kernel
theorem dX12_readsWhole_26 : decode cX12_readsWhole 26 = .ok (.getfield 47, 3) := by decide +kernel
theorem dX12_readsWhole_29 : decode cX12_readsWhole 29 = .ok (.iload_n 1, 1) := by decide +kernel
theorem dX12_readsWhole_30 : decode cX12_readsWhole 30 = .ok (.iaload, 1) := by decide +kernel
theorem dX12_readsWhole_31 : decode cX12_readsWhole 31 = .ok (.ifCond .le 9, 3) := by decide +kernel
theorem dX12_readsWhole_34 : decode cX12_readsWhole 34 = .ok (.aload_n 0, 1) := by decide +kernel
theorem dX12_readsWhole_35 : decode cX12_readsWhole 35 = .ok (.iconst 3, 1) := by decide +kernel
theorem dX12_readsWhole_36 : decode cX12_readsWhole 36 = .ok (.invokevirtual 222, 3) := by decide +kernel
theorem dX12_readsWhole_39 : decode cX12_readsWhole 39 = .ok (.ireturn, 1) := by decide +kernel
theorem dX12_readsWhole_40 : decode cX12_readsWhole 40 = .ok (.aload_n 0, 1) := by decide +kernel
theorem dX12_readsWhole_41 : decode cX12_readsWhole 41 = .ok (.invokevirtual 229, 3) := by decide +kernel
theorem dX12_readsWhole_44 : decode cX12_readsWhole 44 = .ok (.aload_n 0, 1) := by decide +kernel
theorem dX12_readsWhole_45 : decode cX12_readsWhole 45 = .ok (.ldc2_w 265, 3) := by decide +kernel
theorem dX12_readsWhole_48 : decode cX12_readsWhole 48 = .ok (.invokevirtual 310, 3) := by decide +kernel
theorem dX12_readsWhole_51 : decode cX12_readsWhole 51 = .ok (.ifCond .eq 13, 3) := by decide +kernel
theorem dX12_readsWhole_54 : decode cX12_readsWhole 54 = .ok (.aload_n 0, 1) := by decide +kernel
theorem dX12_readsWhole_55 : decode cX12_readsWhole 55 = .ok (.iconst 1, 1) := by decide +kernel
theorem dX12_readsWhole_56 : decode cX12_readsWhole 56 = .ok (.bipush 99, 2) := by decide +kernel
theorem dX12_readsWhole_58 : decode cX12_readsWhole 58 = .ok (.invokevirtual 290, 3) := by decide +kernel
theorem dX12_readsWhole_61 : decode cX12_readsWhole 61 = .ok (.ifCond .ne 5, 3) := by decide +kernel
theorem dX12_readsWhole_64 : decode cX12_readsWhole 64 = .ok (.iconst 0, 1) := by decide +kernel
theorem dX12_readsWhole_65 : decode cX12_readsWhole 65 = .ok (.ireturn, 1) := by decide +kernel
theorem dX12_readsWhole_66 : decode cX12_readsWhole 66 = .ok (.aload_n 0, 1) := by decide +kernel
theorem dX12_readsWhole_67 : decode cX12_readsWhole 67 = .ok (.getfield 47, 3) := by decide +kernel
theorem dX12_readsWhole_70 : decode cX12_readsWhole 70 = .ok (.iload_n 1, 1) := by decide +kernel
theorem dX12_readsWhole_71 : decode cX12_readsWhole 71 = .ok (.aload_n 0, 1) := by decide +kernel
theorem dX12_readsWhole_72 : decode cX12_readsWhole 72 = .ok (.getfield 178, 3) := by decide +kernel
theorem dX12_readsWhole_75 : decode cX12_readsWhole 75 = .ok (.iastore, 1) := by decide +kernel
theorem dX12_readsWhole_76 : decode cX12_readsWhole 76 = .ok (.aload_n 0, 1) := by decide +kernel
theorem dX12_readsWhole_77 : decode cX12_readsWhole 77 = .ok (.dup, 1) := by decide +kernel
theorem dX12_readsWhole_78 : decode cX12_readsWhole 78 = .ok (.getfield 313, 3) := by decide +kernel
theorem dX12_readsWhole_81 : decode cX12_readsWhole 81 = .ok (.iconst 1, 1) := by decide +kernel
theorem dX12_readsWhole_82 : decode cX12_readsWhole 82 = .ok (.iadd, 1) := by decide +kernel
theorem dX12_readsWhole_83 : decode cX12_readsWhole 83 = .ok (.putfield 313, 3) := by decide +kernel
theorem dX12_readsWhole_86 : decode cX12_readsWhole 86 = .ok (.aload_n 0, 1) := by decide +kernel
theorem dX12_readsWhole_87 : decode cX12_readsWhole 87 = .ok (.invokevirtual 229, 3) := by decide +kernel
theorem dX12_readsWhole_90 : decode cX12_readsWhole 90 = .ok (.aload_n 0, 1) := by decide +kernel
theorem dX12_readsWhole_91 : decode cX12_readsWhole 91 = .ok (.invokevirtual 305, 3) := by decide +kernel
theorem dX12_readsWhole_94 : decode cX12_readsWhole 94 = .ok (.ireturn, 1) := by decide +kernel
theorem dX12_readsFeet_0 : decode cX12_readsFeet 0 = .ok (.aload_n 0, 1) := by decide +kernel
theorem dX12_readsFeet_1 : decode cX12_readsFeet 1 = .ok (.getfield 316, 3) := by decide +kernel
theorem dX12_readsFeet_4 : decode cX12_readsFeet 4 = .ok (.ifCond .le 9, 3) := by decide +kernel
theorem dX12_readsFeet_7 : decode cX12_readsFeet 7 = .ok (.aload_n 0, 1) := by decide +kernel
theorem dX12_readsFeet_8 : decode cX12_readsFeet 8 = .ok (.iconst 3, 1) := by decide +kernel
theorem dX12_readsFeet_9 : decode cX12_readsFeet 9 = .ok (.invokevirtual 222, 3) := by decide +kernel
theorem dX12_readsFeet_12 : decode cX12_readsFeet 12 = .ok (.ireturn, 1) := by decide +kernel
theorem dX12_readsFeet_13 : decode cX12_readsFeet 13 = .ok (.aload_n 0, 1) := by decide +kernel
theorem dX12_readsFeet_14 : decode cX12_readsFeet 14 = .ok (.invokevirtual 229, 3) := by decide +kernel
theorem dX12_readsFeet_17 : decode cX12_readsFeet 17 = .ok (.aload_n 0, 1) := by decide +kernel
theorem dX12_readsFeet_18 : decode cX12_readsFeet 18 = .ok (.iconst 1, 1) := by decide +kernel
theorem dX12_readsFeet_19 : decode cX12_readsFeet 19 = .ok (.bipush 99, 2) := by decide +kernel
theorem dX12_readsFeet_21 : decode cX12_readsFeet 21 = .ok (.invokevirtual 290, 3) := by decide +kernel
theorem dX12_readsFeet_24 : decode cX12_readsFeet 24 = .ok (.ifCond .ne 5, 3) := by decide +kernel
theorem dX12_readsFeet_27 : decode cX12_readsFeet 27 = .ok (.iconst 0, 1) := by decide +kernel
theorem dX12_readsFeet_28 : decode cX12_readsFeet 28 = .ok (.ireturn, 1) := by decide +kernel
theorem dX12_readsFeet_29 : decode cX12_readsFeet 29 = .ok (.aload_n 0, 1) := by decide +kernel
theorem dX12_readsFeet_30 : decode cX12_readsFeet 30 = .ok (.aload_n 0, 1) := by decide +kernel
theorem dX12_readsFeet_31 : decode cX12_readsFeet 31 = .ok (.getfield 178, 3) := by decide +kernel
theorem dX12_readsFeet_34 : decode cX12_readsFeet 34 = .ok (.putfield 316, 3) := by decide +kernel
theorem dX12_readsFeet_37 : decode cX12_readsFeet 37 = .ok (.aload_n 0, 1) := by decide +kernel
theorem dX12_readsFeet_38 : decode cX12_readsFeet 38 = .ok (.invokevirtual 229, 3) := by decide +kernel
theorem dX12_readsFeet_41 : decode cX12_readsFeet 41 = .ok (.aload_n 0, 1) := by decide +kernel
theorem dX12_readsFeet_42 : decode cX12_readsFeet 42 = .ok (.invokevirtual 305, 3) := by decide +kernel
theorem dX12_readsFeet_45 : decode cX12_readsFeet 45 = .ok (.ireturn, 1) := by decide +kernel
theorem dX12_readsEntry_0 : decode cX12_readsEntry 0 = .ok (.aload_n 0, 1) := by decide +kernel
theorem dX12_readsEntry_1 : decode cX12_readsEntry 1 = .ok (.getfield 319, 3) := by decide +kernel
theorem dX12_readsEntry_4 : decode cX12_readsEntry 4 = .ok (.bipush 12, 2) := by decide +kernel
theorem dX12_readsEntry_6 : decode cX12_readsEntry 6 = .ok (.if_icmp .ne 9, 3) := by decide +kernel
theorem dX12_readsEntry_9 : decode cX12_readsEntry 9 = .ok (.aload_n 0, 1) := by decide +kernel
theorem dX12_readsEntry_10 : decode cX12_readsEntry 10 = .ok (.iconst 5, 1) := by decide +kernel
theorem dX12_readsEntry_11 : decode cX12_readsEntry 11 = .ok (.invokevirtual 222, 3) := by decide +kernel
theorem dX12_readsEntry_14 : decode cX12_readsEntry 14 = .ok (.ireturn, 1) := by decide +kernel
theorem dX12_readsEntry_15 : decode cX12_readsEntry 15 = .ok (.aload_n 0, 1) := by decide +kernel
theorem dX12_readsEntry_16 : decode cX12_readsEntry 16 = .ok (.invokevirtual 229, 3) := by decide +kernel
theorem dX12_readsEntry_19 : decode cX12_readsEntry 19 = .ok (.aload_n 0, 1) := by decide +kernel
theorem dX12_readsEntry_20 : decode cX12_readsEntry 20 = .ok (.invokevirtual 322, 3) := by decide +kernel
theorem dX12_readsEntry_23 : decode cX12_readsEntry 23 = .ok (.ifCond .eq 9, 3) := by decide +kernel
theorem dX12_readsEntry_26 : decode cX12_readsEntry 26 = .ok (.aload_n 0, 1) := by decide +kernel
theorem dX12_readsEntry_27 : decode cX12_readsEntry 27 = .ok (.iconst 1, 1) := by decide +kernel
theorem dX12_readsEntry_28 : decode cX12_readsEntry 28 = .ok (.invokevirtual 222, 3) := by decide +kernel
theorem dX12_readsEntry_31 : decode cX12_readsEntry 31 = .ok (.ireturn, 1) := by decide +kernel
theorem dX12_readsEntry_32 : decode cX12_readsEntry 32 = .ok (.iconst 0, 1) := by decide +kernel
theorem dX12_readsEntry_33 : decode cX12_readsEntry 33 = .ok (.istore_n 1, 1) := by decide +kernel
theorem dX12_readsEntry_34 : decode cX12_readsEntry 34 = .ok (.iload_n 1, 1) := by decide +kernel
theorem dX12_readsEntry_35 : decode cX12_readsEntry 35 = .ok (.aload_n 0, 1) := by decide +kernel
theorem dX12_readsEntry_36 : decode cX12_readsEntry 36 = .ok (.getfield 319, 3) := by decide +kernel
theorem dX12_readsEntry_39 : decode cX12_readsEntry 39 = .ok (.if_icmp .ge 29, 3) := by decide +kernel
theorem dX12_readsEntry_42 : decode cX12_readsEntry 42 = .ok (.aload_n 0, 1) := by decide +kernel
theorem dX12_readsEntry_43 : decode cX12_readsEntry 43 = .ok (.getfield 50, 3) := by decide +kernel
theorem dX12_readsEntry_46 : decode cX12_readsEntry 46 = .ok (.iload_n 1, 1) := by decide +kernel
theorem dX12_readsEntry_47 : decode cX12_readsEntry 47 = .ok (.laload, 1) := by decide +kernel
theorem dX12_readsEntry_48 : decode cX12_readsEntry 48 = .ok (.aload_n 0, 1) := by decide +kernel
theorem dX12_readsEntry_49 : decode cX12_readsEntry 49 = .ok (.getfield 174, 3) := by decide +kernel
theorem dX12_readsEntry_52 : decode cX12_readsEntry 52 = .ok (.lcmp, 1) := by decide +kernel
theorem dX12_readsEntry_53 : decode cX12_readsEntry 53 = .ok (.ifCond .ne 9, 3) := by decide +kernel
theorem dX12_readsEntry_56 : decode cX12_readsEntry 56 = .ok (.aload_n 0, 1) := by decide +kernel
theorem dX12_readsEntry_57 : decode cX12_readsEntry 57 = .ok (.iconst 3, 1) := by decide +kernel
theorem dX12_readsEntry_58 : decode cX12_readsEntry 58 = .ok (.invokevirtual 222, 3) := by decide +kernel
theorem dX12_readsEntry_61 : decode cX12_readsEntry 61 = .ok (.ireturn, 1) := by decide +kernel
theorem dX12_readsEntry_62 : decode cX12_readsEntry 62 = .ok (.iinc 1 1, 3) := by decide +kernel
theorem dX12_readsEntry_65 : decode cX12_readsEntry 65 = .ok (.goto (-31), 3) := by decide +kernel
theorem dX12_readsEntry_68 : decode cX12_readsEntry 68 = .ok (.aload_n 0, 1) := by decide +kernel
theorem dX12_readsEntry_69 : decode cX12_readsEntry 69 = .ok (.getfield 50, 3) := by decide +kernel
theorem dX12_readsEntry_72 : decode cX12_readsEntry 72 = .ok (.aload_n 0, 1) := by decide +kernel
theorem dX12_readsEntry_73 : decode cX12_readsEntry 73 = .ok (.getfield 319, 3) := by decide +kernel
theorem dX12_readsEntry_76 : decode cX12_readsEntry 76 = .ok (.aload_n 0, 1) := by decide +kernel
theorem dX12_readsEntry_77 : decode cX12_readsEntry 77 = .ok (.getfield 174, 3) := by decide +kernel
theorem dX12_readsEntry_80 : decode cX12_readsEntry 80 = .ok (.lastore, 1) := by decide +kernel
theorem dX12_readsEntry_81 : decode cX12_readsEntry 81 = .ok (.aload_n 0, 1) := by decide +kernel
theorem dX12_readsEntry_82 : decode cX12_readsEntry 82 = .ok (.invokevirtual 229, 3) := by decide +kernel
theorem dX12_readsEntry_85 : decode cX12_readsEntry 85 = .ok (.aload_n 0, 1) := by decide +kernel
theorem dX12_readsEntry_86 : decode cX12_readsEntry 86 = .ok (.ldc2_w 261, 3) := by decide +kernel
theorem dX12_readsEntry_89 : decode cX12_readsEntry 89 = .ok (.invokevirtual 310, 3) := by decide +kernel
theorem dX12_readsEntry_92 : decode cX12_readsEntry 92 = .ok (.ifCond .eq 13, 3) := by decide +kernel
theorem dX12_readsEntry_95 : decode cX12_readsEntry 95 = .ok (.aload_n 0, 1) := by decide +kernel
theorem dX12_readsEntry_96 : decode cX12_readsEntry 96 = .ok (.iconst 0, 1) := by decide +kernel
theorem dX12_readsEntry_97 : decode cX12_readsEntry 97 = .ok (.bipush 99, 2) := by decide +kernel
theorem dX12_readsEntry_99 : decode cX12_readsEntry 99 = .ok (.invokevirtual 290, 3) := by decide +kernel
theorem dX12_readsEntry_102 : decode cX12_readsEntry 102 = .ok (.ifCond .ne 5, 3) := by decide +kernel
theorem dX12_readsEntry_105 : decode cX12_readsEntry 105 = .ok (.iconst 0, 1) := by decide +kernel
theorem dX12_readsEntry_106 : decode cX12_readsEntry 106 = .ok (.ireturn, 1) := by decide +kernel
theorem dX12_readsEntry_107 : decode cX12_readsEntry 107 = .ok (.aload_n 0, 1) := by decide +kernel
theorem dX12_readsEntry_108 : decode cX12_readsEntry 108 = .ok (.getfield 54, 3) := by decide +kernel
theorem dX12_readsEntry_111 : decode cX12_readsEntry 111 = .ok (.aload_n 0, 1) := by decide +kernel
theorem dX12_readsEntry_112 : decode cX12_readsEntry 112 = .ok (.getfield 319, 3) := by decide +kernel
theorem dX12_readsEntry_115 : decode cX12_readsEntry 115 = .ok (.aload_n 0, 1) := by decide +kernel
theorem dX12_readsEntry_116 : decode cX12_readsEntry 116 = .ok (.getfield 178, 3) := by decide +kernel
theorem dX12_readsEntry_119 : decode cX12_readsEntry 119 = .ok (.iastore, 1) := by decide +kernel
theorem dX12_readsEntry_120 : decode cX12_readsEntry 120 = .ok (.aload_n 0, 1) := by decide +kernel
theorem dX12_readsEntry_121 : decode cX12_readsEntry 121 = .ok (.invokevirtual 229, 3) := by decide +kernel
theorem dX12_readsEntry_124 : decode cX12_readsEntry 124 = .ok (.aload_n 0, 1) := by decide +kernel
theorem dX12_readsEntry_125 : decode cX12_readsEntry 125 = .ok (.ldc2_w 271, 3) := by decide +kernel
theorem dX12_readsEntry_128 : decode cX12_readsEntry 128 = .ok (.invokevirtual 310, 3) := by decide +kernel
theorem dX12_readsEntry_131 : decode cX12_readsEntry 131 = .ok (.ifCond .eq 13, 3) := by decide +kernel
theorem dX12_readsEntry_134 : decode cX12_readsEntry 134 = .ok (.aload_n 0, 1) := by decide +kernel
theorem dX12_readsEntry_135 : decode cX12_readsEntry 135 = .ok (.iconst 1, 1) := by decide +kernel
theorem dX12_readsEntry_136 : decode cX12_readsEntry 136 = .ok (.bipush 9, 2) := by decide +kernel
theorem dX12_readsEntry_138 : decode cX12_readsEntry 138 = .ok (.invokevirtual 290, 3) := by decide +kernel
theorem dX12_readsEntry_141 : decode cX12_readsEntry 141 = .ok (.ifCond .ne 5, 3) := by decide +kernel
theorem dX12_readsEntry_144 : decode cX12_readsEntry 144 = .ok (.iconst 0, 1) := by decide +kernel
theorem dX12_readsEntry_145 : decode cX12_readsEntry 145 = .ok (.ireturn, 1) := by decide +kernel
theorem dX12_readsEntry_146 : decode cX12_readsEntry 146 = .ok (.aload_n 0, 1) := by decide +kernel
theorem dX12_readsEntry_147 : decode cX12_readsEntry 147 = .ok (.getfield 57, 3) := by decide +kernel
theorem dX12_readsEntry_150 : decode cX12_readsEntry 150 = .ok (.aload_n 0, 1) := by decide +kernel
theorem dX12_readsEntry_151 : decode cX12_readsEntry 151 = .ok (.getfield 319, 3) := by decide +kernel
theorem dX12_readsEntry_154 : decode cX12_readsEntry 154 = .ok (.aload_n 0, 1) := by decide +kernel
theorem dX12_readsEntry_155 : decode cX12_readsEntry 155 = .ok (.getfield 178, 3) := by decide +kernel
theorem dX12_readsEntry_158 : decode cX12_readsEntry 158 = .ok (.iastore, 1) := by decide +kernel
theorem dX12_readsEntry_159 : decode cX12_readsEntry 159 = .ok (.aload_n 0, 1) := by decide +kernel
theorem dX12_readsEntry_160 : decode cX12_readsEntry 160 = .ok (.invokevirtual 229, 3) := by decide +kernel
theorem dX12_readsEntry_163 : decode cX12_readsEntry 163 = .ok (.aload_n 0, 1) := by decide +kernel
theorem dX12_readsEntry_164 : decode cX12_readsEntry 164 = .ok (.ldc2_w 273, 3) := by decide +kernel
theorem dX12_readsEntry_167 : decode cX12_readsEntry 167 = .ok (.invokevirtual 310, 3) := by decide +kernel
theorem dX12_readsEntry_170 : decode cX12_readsEntry 170 = .ok (.ifCond .eq 13, 3) := by decide +kernel
theorem dX12_readsEntry_173 : decode cX12_readsEntry 173 = .ok (.aload_n 0, 1) := by decide +kernel
theorem dX12_readsEntry_174 : decode cX12_readsEntry 174 = .ok (.iconst 0, 1) := by decide +kernel
theorem dX12_readsEntry_175 : decode cX12_readsEntry 175 = .ok (.bipush 99, 2) := by decide +kernel
theorem dX12_readsEntry_177 : decode cX12_readsEntry 177 = .ok (.invokevirtual 290, 3) := by decide +kernel
theorem dX12_readsEntry_180 : decode cX12_readsEntry 180 = .ok (.ifCond .ne 5, 3) := by decide +kernel
theorem dX12_readsEntry_183 : decode cX12_readsEntry 183 = .ok (.iconst 0, 1) := by decide +kernel
theorem dX12_readsEntry_184 : decode cX12_readsEntry 184 = .ok (.ireturn, 1) := by decide +kernel
theorem dX12_readsEntry_185 : decode cX12_readsEntry 185 = .ok (.aload_n 0, 1) := by decide +kernel
theorem dX12_readsEntry_186 : decode cX12_readsEntry 186 = .ok (.getfield 60, 3) := by decide +kernel
theorem dX12_readsEntry_189 : decode cX12_readsEntry 189 = .ok (.aload_n 0, 1) := by decide +kernel
theorem dX12_readsEntry_190 : decode cX12_readsEntry 190 = .ok (.getfield 319, 3) := by decide +kernel
theorem dX12_readsEntry_193 : decode cX12_readsEntry 193 = .ok (.aload_n 0, 1) := by decide +kernel
theorem dX12_readsEntry_194 : decode cX12_readsEntry 194 = .ok (.getfield 178, 3) := by decide +kernel
theorem dX12_readsEntry_197 : decode cX12_readsEntry 197 = .ok (.iastore, 1) := by decide +kernel
theorem dX12_readsEntry_198 : decode cX12_readsEntry 198 = .ok (.aload_n 0, 1) := by decide +kernel
theorem dX12_readsEntry_199 : decode cX12_readsEntry 199 = .ok (.dup, 1) := by decide +kernel
theorem dX12_readsEntry_200 : decode cX12_readsEntry 200 = .ok (.getfield 319, 3) := by decide +kernel
theorem dX12_readsEntry_203 : decode cX12_readsEntry 203 = .ok (.iconst 1, 1) := by decide +kernel
theorem dX12_readsEntry_204 : decode cX12_readsEntry 204 = .ok (.iadd, 1) := by decide +kernel
theorem dX12_readsEntry_205 : decode cX12_readsEntry 205 = .ok (.putfield 319, 3) := by decide +kernel
theorem dX12_readsEntry_208 : decode cX12_readsEntry 208 = .ok (.aload_n 0, 1) := by decide +kernel
theorem dX12_readsEntry_209 : decode cX12_readsEntry 209 = .ok (.invokevirtual 229, 3) := by decide +kernel
theorem dX12_readsEntry_212 : decode cX12_readsEntry 212 = .ok (.aload_n 0, 1) := by decide +kernel
theorem dX12_readsEntry_213 : decode cX12_readsEntry 213 = .ok (.invokevirtual 305, 3) := by decide +kernel
theorem dX12_readsEntry_216 : decode cX12_readsEntry 216 = .ok (.ireturn, 1) := by decide +kernel
theorem dX12_readsBar_0 : decode cX12_readsBar 0 = .ok (.aload_n 0, 1) := by decide +kernel
theorem dX12_readsBar_1 : decode cX12_readsBar 1 = .ok (.getfield 325, 3) := by decide +kernel
theorem dX12_readsBar_4 : decode cX12_readsBar 4 = .ok (.iconst 4, 1) := by decide +kernel
theorem dX12_readsBar_5 : decode cX12_readsBar 5 = .ok (.if_icmp .ne 9, 3) := by decide +kernel
theorem dX12_readsBar_8 : decode cX12_readsBar 8 = .ok (.aload_n 0, 1) := by decide +kernel
theorem dX12_readsBar_9 : decode cX12_readsBar 9 = .ok (.iconst 5, 1) := by decide +kernel
theorem dX12_readsBar_10 : decode cX12_readsBar 10 = .ok (.invokevirtual 222, 3) := by decide +kernel
theorem dX12_readsBar_13 : decode cX12_readsBar 13 = .ok (.ireturn, 1) := by decide +kernel
theorem dX12_readsBar_14 : decode cX12_readsBar 14 = .ok (.aload_n 0, 1) := by decide +kernel
theorem dX12_readsBar_15 : decode cX12_readsBar 15 = .ok (.invokevirtual 229, 3) := by decide +kernel
theorem dX12_readsBar_18 : decode cX12_readsBar 18 = .ok (.aload_n 0, 1) := by decide +kernel
theorem dX12_readsBar_19 : decode cX12_readsBar 19 = .ok (.getfield 63, 3) := by decide +kernel
theorem dX12_readsBar_22 : decode cX12_readsBar 22 = .ok (.aload_n 0, 1) := by decide +kernel
theorem dX12_readsBar_23 : decode cX12_readsBar 23 = .ok (.getfield 325, 3) := by decide +kernel
theorem dX12_readsBar_26 : decode cX12_readsBar 26 = .ok (.aload_n 0, 1) := by decide +kernel
theorem dX12_readsBar_27 : decode cX12_readsBar 27 = .ok (.getfield 195, 3) := by decide +kernel
theorem dX12_readsBar_30 : decode cX12_readsBar 30 = .ok (.iastore, 1) := by decide +kernel
theorem dX12_readsBar_31 : decode cX12_readsBar 31 = .ok (.aload_n 0, 1) := by decide +kernel
theorem dX12_readsBar_32 : decode cX12_readsBar 32 = .ok (.invokevirtual 328, 3) := by decide +kernel
theorem dX12_readsBar_35 : decode cX12_readsBar 35 = .ok (.ifCond .ne 5, 3) := by decide +kernel
theorem dX12_readsBar_38 : decode cX12_readsBar 38 = .ok (.iconst 0, 1) := by decide +kernel
theorem dX12_readsBar_39 : decode cX12_readsBar 39 = .ok (.ireturn, 1) := by decide +kernel
theorem dX12_readsBar_40 : decode cX12_readsBar 40 = .ok (.aload_n 0, 1) := by decide +kernel
theorem dX12_readsBar_41 : decode cX12_readsBar 41 = .ok (.getfield 66, 3) := by decide +kernel
theorem dX12_readsBar_44 : decode cX12_readsBar 44 = .ok (.aload_n 0, 1) := by decide +kernel
theorem dX12_readsBar_45 : decode cX12_readsBar 45 = .ok (.getfield 325, 3) := by decide +kernel
theorem dX12_readsBar_48 : decode cX12_readsBar 48 = .ok (.aload_n 0, 1) := by decide +kernel
theorem dX12_readsBar_49 : decode cX12_readsBar 49 = .ok (.getfield 195, 3) := by decide +kernel
theorem dX12_readsBar_52 : decode cX12_readsBar 52 = .ok (.iastore, 1) := by decide +kernel
theorem dX12_readsBar_53 : decode cX12_readsBar 53 = .ok (.aload_n 0, 1) := by decide +kernel
theorem dX12_readsBar_54 : decode cX12_readsBar 54 = .ok (.dup, 1) := by decide +kernel
theorem dX12_readsBar_55 : decode cX12_readsBar 55 = .ok (.getfield 325, 3) := by decide +kernel
theorem dX12_readsBar_58 : decode cX12_readsBar 58 = .ok (.iconst 1, 1) := by decide +kernel
theorem dX12_readsBar_59 : decode cX12_readsBar 59 = .ok (.iadd, 1) := by decide +kernel
theorem dX12_readsBar_60 : decode cX12_readsBar 60 = .ok (.putfield 325, 3) := by decide +kernel
theorem dX12_readsBar_63 : decode cX12_readsBar 63 = .ok (.iconst 1, 1) := by decide +kernel
theorem dX12_readsBar_64 : decode cX12_readsBar 64 = .ok (.ireturn, 1) := by decide +kernel
theorem dX12_readsAll_0 : decode cX12_readsAll 0 = .ok (.aload_n 0, 1) := by decide +kernel
theorem dX12_readsAll_1 : decode cX12_readsAll 1 = .ok (.iconst 0, 1) := by decide +kernel
theorem dX12_readsAll_2 : decode cX12_readsAll 2 = .ok (.putfield 287, 3) := by decide +kernel
theorem dX12_readsAll_5 : decode cX12_readsAll 5 = .ok (.aload_n 0, 1) := by decide +kernel
theorem dX12_readsAll_6 : decode cX12_readsAll 6 = .ok (.iconst 0, 1) := by decide +kernel
theorem dX12_readsAll_7 : decode cX12_readsAll 7 = .ok (.putfield 307, 3) := by decide +kernel
theorem dX12_readsAll_10 : decode cX12_readsAll 10 = .ok (.aload_n 0, 1) := by decide +kernel
theorem dX12_readsAll_11 : decode cX12_readsAll 11 = .ok (.iconst 0, 1) := by decide +kernel
theorem dX12_readsAll_12 : decode cX12_readsAll 12 = .ok (.putfield 313, 3) := by decide +kernel
theorem dX12_readsAll_15 : decode cX12_readsAll 15 = .ok (.aload_n 0, 1) := by decide +kernel
theorem dX12_readsAll_16 : decode cX12_readsAll 16 = .ok (.iconst 0, 1) := by decide +kernel
theorem dX12_readsAll_17 : decode cX12_readsAll 17 = .ok (.putfield 316, 3) := by decide +kernel
theorem dX12_readsAll_20 : decode cX12_readsAll 20 = .ok (.aload_n 0, 1) := by decide +kernel
theorem dX12_readsAll_21 : decode cX12_readsAll 21 = .ok (.iconst 0, 1) := by decide +kernel
theorem dX12_readsAll_22 : decode cX12_readsAll 22 = .ok (.putfield 319, 3) := by decide +kernel
theorem dX12_readsAll_25 : decode cX12_readsAll 25 = .ok (.aload_n 0, 1) := by decide +kernel
theorem dX12_readsAll_26 : decode cX12_readsAll 26 = .ok (.iconst 0, 1) := by decide +kernel
theorem dX12_readsAll_27 : decode cX12_readsAll 27 = .ok (.putfield 325, 3) := by decide +kernel
theorem dX12_readsAll_30 : decode cX12_readsAll 30 = .ok (.aload_n 0, 1) := by decide +kernel
theorem dX12_readsAll_31 : decode cX12_readsAll 31 = .ok (.iconst 0, 1) := by decide +kernel
theorem dX12_readsAll_32 : decode cX12_readsAll 32 = .ok (.putfield 195, 3) := by decide +kernel
theorem dX12_readsAll_35 : decode cX12_readsAll 35 = .ok (.aload_n 0, 1) := by decide +kernel
theorem dX12_readsAll_36 : decode cX12_readsAll 36 = .ok (.aload_n 0, 1) := by decide +kernel
theorem dX12_readsAll_37 : decode cX12_readsAll 37 = .ok (.getfield 162, 3) := by decide +kernel
theorem dX12_readsAll_40 : decode cX12_readsAll 40 = .ok (.putfield 165, 3) := by decide +kernel
theorem dX12_readsAll_43 : decode cX12_readsAll 43 = .ok (.aload_n 0, 1) := by decide +kernel
theorem dX12_readsAll_44 : decode cX12_readsAll 44 = .ok (.iconst 0, 1) := by decide +kernel
theorem dX12_readsAll_45 : decode cX12_readsAll 45 = .ok (.putfield 162, 3) := by decide +kernel
theorem dX12_readsAll_48 : decode cX12_readsAll 48 = .ok (.aload_n 0, 1) := by decide +kernel
theorem dX12_readsAll_49 : decode cX12_readsAll 49 = .ok (.iconst 0, 1) := by decide +kernel
theorem dX12_readsAll_50 : decode cX12_readsAll 50 = .ok (.putfield 168, 3) := by decide +kernel
theorem dX12_readsAll_53 : decode cX12_readsAll 53 = .ok (.aload_n 0, 1) := by decide +kernel
theorem dX12_readsAll_54 : decode cX12_readsAll 54 = .ok (.invokevirtual 229, 3) := by decide +kernel
theorem dX12_readsAll_57 : decode cX12_readsAll 57 = .ok (.aload_n 0, 1) := by decide +kernel
theorem dX12_readsAll_58 : decode cX12_readsAll 58 = .ok (.ldc2_w 245, 3) := by decide +kernel
theorem dX12_readsAll_61 : decode cX12_readsAll 61 = .ok (.invokevirtual 310, 3) := by decide +kernel
theorem dX12_readsAll_64 : decode cX12_readsAll 64 = .ok (.ifCond .eq 13, 3) := by decide +kernel
theorem dX12_readsAll_67 : decode cX12_readsAll 67 = .ok (.aload_n 0, 1) := by decide +kernel
theorem dX12_readsAll_68 : decode cX12_readsAll 68 = .ok (.iconst 1, 1) := by decide +kernel
theorem dX12_readsAll_69 : decode cX12_readsAll 69 = .ok (.bipush 12, 2) := by decide +kernel
theorem dX12_readsAll_71 : decode cX12_readsAll 71 = .ok (.invokevirtual 290, 3) := by decide +kernel
theorem dX12_readsAll_74 : decode cX12_readsAll 74 = .ok (.ifCond .ne 5, 3) := by decide +kernel
theorem dX12_readsAll_77 : decode cX12_readsAll 77 = .ok (.iconst 0, 1) := by decide +kernel
theorem dX12_readsAll_78 : decode cX12_readsAll 78 = .ok (.ireturn, 1) := by decide +kernel
theorem dX12_readsAll_79 : decode cX12_readsAll 79 = .ok (.aload_n 0, 1) := by decide +kernel
theorem dX12_readsAll_80 : decode cX12_readsAll 80 = .ok (.aload_n 0, 1) := by decide +kernel
theorem dX12_readsAll_81 : decode cX12_readsAll 81 = .ok (.getfield 178, 3) := by decide +kernel
theorem dX12_readsAll_84 : decode cX12_readsAll 84 = .ok (.putfield 281, 3) := by decide +kernel
theorem dX12_readsAll_87 : decode cX12_readsAll 87 = .ok (.iconst 0, 1) := by decide +kernel
theorem dX12_readsAll_88 : decode cX12_readsAll 88 = .ok (.istore_n 1, 1) := by decide +kernel
theorem dX12_readsAll_89 : decode cX12_readsAll 89 = .ok (.iload_n 1, 1) := by decide +kernel
theorem dX12_readsAll_90 : decode cX12_readsAll 90 = .ok (.bipush 12, 2) := by decide +kernel
theorem dX12_readsAll_92 : decode cX12_readsAll 92 = .ok (.if_icmp .ge 23, 3) := by decide +kernel
theorem dX12_readsAll_95 : decode cX12_readsAll 95 = .ok (.aload_n 0, 1) := by decide +kernel
theorem dX12_readsAll_96 : decode cX12_readsAll 96 = .ok (.getfield 38, 3) := by decide +kernel
theorem dX12_readsAll_99 : decode cX12_readsAll 99 = .ok (.iload_n 1, 1) := by decide +kernel
theorem dX12_readsAll_100 : decode cX12_readsAll 100 = .ok (.iload_n 1, 1) := by decide +kernel
theorem dX12_readsAll_101 : decode cX12_readsAll 101 = .ok (.iastore, 1) := by decide +kernel
theorem dX12_readsAll_102 : decode cX12_readsAll 102 = .ok (.aload_n 0, 1) := by decide +kernel
theorem dX12_readsAll_103 : decode cX12_readsAll 103 = .ok (.getfield 47, 3) := by decide +kernel
theorem dX12_readsAll_106 : decode cX12_readsAll 106 = .ok (.iload_n 1, 1) := by decide +kernel
theorem dX12_readsAll_107 : decode cX12_readsAll 107 = .ok (.iconst 0, 1) := by decide +kernel
theorem dX12_readsAll_108 : decode cX12_readsAll 108 = .ok (.iastore, 1) := by decide +kernel
theorem dX12_readsAll_109 : decode cX12_readsAll 109 = .ok (.iinc 1 1, 3) := by decide +kernel
theorem dX12_readsAll_112 : decode cX12_readsAll 112 = .ok (.goto (-23), 3) := by decide +kernel
theorem dX12_readsAll_115 : decode cX12_readsAll 115 = .ok (.aload_n 0, 1) := by decide +kernel
theorem dX12_readsAll_116 : decode cX12_readsAll 116 = .ok (.invokevirtual 229, 3) := by decide +kernel
theorem dX12_readsAll_119 : decode cX12_readsAll 119 = .ok (.aload_n 0, 1) := by decide +kernel
theorem dX12_readsAll_120 : decode cX12_readsAll 120 = .ok (.invokevirtual 305, 3) := by decide +kernel
theorem dX12_readsAll_123 : decode cX12_readsAll 123 = .ok (.ifCond .ne 5, 3) := by decide +kernel
theorem dX12_readsAll_126 : decode cX12_readsAll 126 = .ok (.iconst 0, 1) := by decide +kernel
theorem dX12_readsAll_127 : decode cX12_readsAll 127 = .ok (.ireturn, 1) := by decide +kernel
theorem dX12_readsAll_128 : decode cX12_readsAll 128 = .ok (.aload_n 0, 1) := by decide +kernel
theorem dX12_readsAll_129 : decode cX12_readsAll 129 = .ok (.getfield 181, 3) := by decide +kernel
theorem dX12_readsAll_132 : decode cX12_readsAll 132 = .ok (.ifCond .eq 120, 3) := by decide +kernel
theorem dX12_readsAll_135 : decode cX12_readsAll 135 = .ok (.aload_n 0, 1) := by decide +kernel
theorem dX12_readsAll_136 : decode cX12_readsAll 136 = .ok (.ldc2_w 247, 3) := by decide +kernel
theorem dX12_readsAll_139 : decode cX12_readsAll 139 = .ok (.invokevirtual 214, 3) := by decide +kernel
theorem dX12_readsAll_142 : decode cX12_readsAll 142 = .ok (.ifCond .eq 10, 3) := by decide +kernel
theorem dX12_readsAll_145 : decode cX12_readsAll 145 = .ok (.aload_n 0, 1) := by decide +kernel
theorem dX12_readsAll_146 : decode cX12_readsAll 146 = .ok (.invokevirtual 331, 3) := by decide +kernel
theorem dX12_readsAll_149 : decode cX12_readsAll 149 = .ok (.goto 93, 3) := by decide +kernel
theorem dX12_readsAll_152 : decode cX12_readsAll 152 = .ok (.aload_n 0, 1) := by decide +kernel
theorem dX12_readsAll_153 : decode cX12_readsAll 153 = .ok (.ldc2_w 261, 3) := by decide +kernel
theorem dX12_readsAll_156 : decode cX12_readsAll 156 = .ok (.invokevirtual 214, 3) := by decide +kernel
theorem dX12_readsAll_159 : decode cX12_readsAll 159 = .ok (.ifCond .eq 10, 3) := by decide +kernel
theorem dX12_readsAll_162 : decode cX12_readsAll 162 = .ok (.aload_n 0, 1) := by decide +kernel
theorem dX12_readsAll_163 : decode cX12_readsAll 163 = .ok (.invokevirtual 334, 3) := by decide +kernel
theorem dX12_readsAll_166 : decode cX12_readsAll 166 = .ok (.goto 76, 3) := by decide +kernel
theorem dX12_readsAll_169 : decode cX12_readsAll 169 = .ok (.aload_n 0, 1) := by decide +kernel
theorem dX12_readsAll_170 : decode cX12_readsAll 170 = .ok (.ldc2_w 263, 3) := by decide +kernel
theorem dX12_readsAll_173 : decode cX12_readsAll 173 = .ok (.invokevirtual 214, 3) := by decide +kernel
theorem dX12_readsAll_176 : decode cX12_readsAll 176 = .ok (.ifCond .eq 10, 3) := by decide +kernel
theorem dX12_readsAll_179 : decode cX12_readsAll 179 = .ok (.aload_n 0, 1) := by decide +kernel
theorem dX12_readsAll_180 : decode cX12_readsAll 180 = .ok (.invokevirtual 337, 3) := by decide +kernel
theorem dX12_readsAll_183 : decode cX12_readsAll 183 = .ok (.goto 59, 3) := by decide +kernel
theorem dX12_readsAll_186 : decode cX12_readsAll 186 = .ok (.aload_n 0, 1) := by decide +kernel
theorem dX12_readsAll_187 : decode cX12_readsAll 187 = .ok (.ldc2_w 267, 3) := by decide +kernel
theorem dX12_readsAll_190 : decode cX12_readsAll 190 = .ok (.invokevirtual 214, 3) := by decide +kernel
theorem dX12_readsAll_193 : decode cX12_readsAll 193 = .ok (.ifCond .eq 10, 3) := by decide +kernel
theorem dX12_readsAll_196 : decode cX12_readsAll 196 = .ok (.aload_n 0, 1) := by decide +kernel
theorem dX12_readsAll_197 : decode cX12_readsAll 197 = .ok (.invokevirtual 340, 3) := by decide +kernel
theorem dX12_readsAll_200 : decode cX12_readsAll 200 = .ok (.goto 42, 3) := by decide +kernel
theorem dX12_readsAll_203 : decode cX12_readsAll 203 = .ok (.aload_n 0, 1) := by decide +kernel
theorem dX12_readsAll_204 : decode cX12_readsAll 204 = .ok (.ldc2_w 269, 3) := by decide +kernel
theorem dX12_readsAll_207 : decode cX12_readsAll 207 = .ok (.invokevirtual 214, 3) := by decide +kernel
theorem dX12_readsAll_210 : decode cX12_readsAll 210 = .ok (.ifCond .eq 10, 3) := by decide +kernel
theorem dX12_readsAll_213 : decode cX12_readsAll 213 = .ok (.aload_n 0, 1) := by decide +kernel
theorem dX12_readsAll_214 : decode cX12_readsAll 214 = .ok (.invokevirtual 343, 3) := by decide +kernel
theorem dX12_readsAll_217 : decode cX12_readsAll 217 = .ok (.goto 25, 3) := by decide +kernel
theorem dX12_readsAll_220 : decode cX12_readsAll 220 = .ok (.aload_n 0, 1) := by decide +kernel
theorem dX12_readsAll_221 : decode cX12_readsAll 221 = .ok (.ldc2_w 275, 3) := by decide +kernel
theorem dX12_readsAll_224 : decode cX12_readsAll 224 = .ok (.invokevirtual 214, 3) := by decide +kernel
theorem dX12_readsAll_227 : decode cX12_readsAll 227 = .ok (.ifCond .eq 10, 3) := by decide +kernel
theorem dX12_readsAll_230 : decode cX12_readsAll 230 = .ok (.aload_n 0, 1) := by decide +kernel
theorem dX12_readsAll_231 : decode cX12_readsAll 231 = .ok (.invokevirtual 346, 3) := by decide +kernel
theorem dX12_readsAll_234 : decode cX12_readsAll 234 = .ok (.goto 8, 3) := by decide +kernel
theorem dX12_readsAll_237 : decode cX12_readsAll 237 = .ok (.aload_n 0, 1) := by decide +kernel
theorem dX12_readsAll_238 : decode cX12_readsAll 238 = .ok (.iconst 1, 1) := by decide +kernel
theorem dX12_readsAll_239 : decode cX12_readsAll 239 = .ok (.invokevirtual 222, 3) := by decide +kernel
theorem dX12_readsAll_242 : decode cX12_readsAll 242 = .ok (.istore_n 1, 1) := by decide +kernel
theorem dX12_readsAll_243 : decode cX12_readsAll 243 = .ok (.iload_n 1, 1) := by decide +kernel
theorem dX12_readsAll_244 : decode cX12_readsAll 244 = .ok (.ifCond .ne 5, 3) := by decide +kernel
theorem dX12_readsAll_247 : decode cX12_readsAll 247 = .ok (.iconst 0, 1) := by decide +kernel
theorem dX12_readsAll_248 : decode cX12_readsAll 248 = .ok (.ireturn, 1) := by decide +kernel
theorem dX12_readsAll_249 : decode cX12_readsAll 249 = .ok (.goto (-121), 3) := by decide +kernel
theorem dX12_readsAll_252 : decode cX12_readsAll 252 = .ok (.iconst 1, 1) := by decide +kernel
theorem dX12_readsAll_253 : decode cX12_readsAll 253 = .ok (.ireturn, 1) := by decide +kernel
theorem dX12_form_0 : decode cX12_form 0 = .ok (.aload_n 0, 1) := by decide +kernel
theorem dX12_form_1 : decode cX12_form 1 = .ok (.iconst 0, 1) := by decide +kernel
theorem dX12_form_2 : decode cX12_form 2 = .ok (.putfield 157, 3) := by decide +kernel
theorem dX12_form_5 : decode cX12_form 5 = .ok (.aload_n 0, 1) := by decide +kernel
theorem dX12_form_6 : decode cX12_form 6 = .ok (.invokevirtual 349, 3) := by decide +kernel
theorem dX12_form_9 : decode cX12_form 9 = .ok (.ifCond .ne 8, 3) := by decide +kernel
theorem dX12_form_12 : decode cX12_form 12 = .ok (.aload_n 0, 1) := by decide +kernel
theorem dX12_form_13 : decode cX12_form 13 = .ok (.getfield 192, 3) := by decide +kernel
theorem dX12_form_16 : decode cX12_form 16 = .ok (.ireturn, 1) := by decide +kernel
theorem dX12_form_17 : decode cX12_form 17 = .ok (.aload_n 0, 1) := by decide +kernel
theorem dX12_form_18 : decode cX12_form 18 = .ok (.aload_n 0, 1) := by decide +kernel
theorem dX12_form_19 : decode cX12_form 19 = .ok (.getfield 281, 3) := by decide +kernel
theorem dX12_form_22 : decode cX12_form 22 = .ok (.putfield 153, 3) := by decide +kernel
theorem dX12_form_25 : decode cX12_form 25 = .ok (.aload_n 0, 1) := by decide +kernel
theorem dX12_form_26 : decode cX12_form 26 = .ok (.aload_n 0, 1) := by decide +kernel
theorem dX12_form_27 : decode cX12_form 27 = .ok (.getfield 287, 3) := by decide +kernel
theorem dX12_form_30 : decode cX12_form 30 = .ok (.putfield 352, 3) := by decide +kernel
theorem dX12_form_33 : decode cX12_form 33 = .ok (.aload_n 0, 1) := by decide +kernel
theorem dX12_form_34 : decode cX12_form 34 = .ok (.aload_n 0, 1) := by decide +kernel
theorem dX12_form_35 : decode cX12_form 35 = .ok (.getfield 307, 3) := by decide +kernel
theorem dX12_form_38 : decode cX12_form 38 = .ok (.putfield 355, 3) := by decide +kernel
theorem dX12_form_41 : decode cX12_form 41 = .ok (.aload_n 0, 1) := by decide +kernel
theorem dX12_form_42 : decode cX12_form 42 = .ok (.aload_n 0, 1) := by decide +kernel
theorem dX12_form_43 : decode cX12_form 43 = .ok (.getfield 313, 3) := by decide +kernel
theorem dX12_form_46 : decode cX12_form 46 = .ok (.putfield 358, 3) := by decide +kernel
theorem dX12_form_49 : decode cX12_form 49 = .ok (.aload_n 0, 1) := by decide +kernel
theorem dX12_form_50 : decode cX12_form 50 = .ok (.aload_n 0, 1) := by decide +kernel
theorem dX12_form_51 : decode cX12_form 51 = .ok (.getfield 316, 3) := by decide +kernel
theorem dX12_form_54 : decode cX12_form 54 = .ok (.putfield 361, 3) := by decide +kernel
theorem dX12_form_57 : decode cX12_form 57 = .ok (.aload_n 0, 1) := by decide +kernel
theorem dX12_form_58 : decode cX12_form 58 = .ok (.aload_n 0, 1) := by decide +kernel
theorem dX12_form_59 : decode cX12_form 59 = .ok (.getfield 319, 3) := by decide +kernel
theorem dX12_form_62 : decode cX12_form 62 = .ok (.putfield 364, 3) := by decide +kernel
theorem dX12_form_65 : decode cX12_form 65 = .ok (.aload_n 0, 1) := by decide +kernel
theorem dX12_form_66 : decode cX12_form 66 = .ok (.aload_n 0, 1) := by decide +kernel
theorem dX12_form_67 : decode cX12_form 67 = .ok (.getfield 325, 3) := by decide +kernel
theorem dX12_form_70 : decode cX12_form 70 = .ok (.putfield 367, 3) := by decide +kernel
theorem dX12_form_73 : decode cX12_form 73 = .ok (.iconst 0, 1) := by decide +kernel
theorem dX12_form_74 : decode cX12_form 74 = .ok (.istore_n 1, 1) := by decide +kernel
theorem dX12_form_75 : decode cX12_form 75 = .ok (.iload_n 1, 1) := by decide +kernel
theorem dX12_form_76 : decode cX12_form 76 = .ok (.bipush 12, 2) := by decide +kernel
theorem dX12_form_78 : decode cX12_form 78 = .ok (.if_icmp .ge 69, 3) := by decide +kernel
theorem dX12_form_81 : decode cX12_form 81 = .ok (.aload_n 0, 1) := by decide +kernel
theorem dX12_form_82 : decode cX12_form 82 = .ok (.getfield 13, 3) := by decide +kernel
theorem dX12_form_85 : decode cX12_form 85 = .ok (.iload_n 1, 1) := by decide +kernel
theorem dX12_form_86 : decode cX12_form 86 = .ok (.aload_n 0, 1) := by decide +kernel
theorem dX12_form_87 : decode cX12_form 87 = .ok (.getfield 38, 3) := by decide +kernel
theorem dX12_form_90 : decode cX12_form 90 = .ok (.iload_n 1, 1) := by decide +kernel
theorem dX12_form_91 : decode cX12_form 91 = .ok (.iaload, 1) := by decide +kernel
theorem dX12_form_92 : decode cX12_form 92 = .ok (.iastore, 1) := by decide +kernel
theorem dX12_form_93 : decode cX12_form 93 = .ok (.aload_n 0, 1) := by decide +kernel
theorem dX12_form_94 : decode cX12_form 94 = .ok (.getfield 22, 3) := by decide +kernel
theorem dX12_form_97 : decode cX12_form 97 = .ok (.iload_n 1, 1) := by decide +kernel
theorem dX12_form_98 : decode cX12_form 98 = .ok (.aload_n 0, 1) := by decide +kernel
theorem dX12_form_99 : decode cX12_form 99 = .ok (.getfield 47, 3) := by decide +kernel
theorem dX12_form_102 : decode cX12_form 102 = .ok (.iload_n 1, 1) := by decide +kernel
theorem dX12_form_103 : decode cX12_form 103 = .ok (.iaload, 1) := by decide +kernel
theorem dX12_form_104 : decode cX12_form 104 = .ok (.iastore, 1) := by decide +kernel
theorem dX12_form_105 : decode cX12_form 105 = .ok (.aload_n 0, 1) := by decide +kernel
theorem dX12_form_106 : decode cX12_form 106 = .ok (.getfield 25, 3) := by decide +kernel
theorem dX12_form_109 : decode cX12_form 109 = .ok (.iload_n 1, 1) := by decide +kernel
theorem dX12_form_110 : decode cX12_form 110 = .ok (.aload_n 0, 1) := by decide +kernel
theorem dX12_form_111 : decode cX12_form 111 = .ok (.getfield 54, 3) := by decide +kernel
theorem dX12_form_114 : decode cX12_form 114 = .ok (.iload_n 1, 1) := by decide +kernel
theorem dX12_form_115 : decode cX12_form 115 = .ok (.iaload, 1) := by decide +kernel
theorem dX12_form_116 : decode cX12_form 116 = .ok (.iastore, 1) := by decide +kernel
theorem dX12_form_117 : decode cX12_form 117 = .ok (.aload_n 0, 1) := by decide +kernel
theorem dX12_form_118 : decode cX12_form 118 = .ok (.getfield 28, 3) := by decide +kernel
theorem dX12_form_121 : decode cX12_form 121 = .ok (.iload_n 1, 1) := by decide +kernel
theorem dX12_form_122 : decode cX12_form 122 = .ok (.aload_n 0, 1) := by decide +kernel
theorem dX12_form_123 : decode cX12_form 123 = .ok (.getfield 57, 3) := by decide +kernel
theorem dX12_form_126 : decode cX12_form 126 = .ok (.iload_n 1, 1) := by decide +kernel
theorem dX12_form_127 : decode cX12_form 127 = .ok (.iaload, 1) := by decide +kernel
theorem dX12_form_128 : decode cX12_form 128 = .ok (.iastore, 1) := by decide +kernel
theorem dX12_form_129 : decode cX12_form 129 = .ok (.aload_n 0, 1) := by decide +kernel
theorem dX12_form_130 : decode cX12_form 130 = .ok (.getfield 31, 3) := by decide +kernel
theorem dX12_form_133 : decode cX12_form 133 = .ok (.iload_n 1, 1) := by decide +kernel
theorem dX12_form_134 : decode cX12_form 134 = .ok (.aload_n 0, 1) := by decide +kernel
theorem dX12_form_135 : decode cX12_form 135 = .ok (.getfield 60, 3) := by decide +kernel
theorem dX12_form_138 : decode cX12_form 138 = .ok (.iload_n 1, 1) := by decide +kernel
theorem dX12_form_139 : decode cX12_form 139 = .ok (.iaload, 1) := by decide +kernel
theorem dX12_form_140 : decode cX12_form 140 = .ok (.iastore, 1) := by decide +kernel
theorem dX12_form_141 : decode cX12_form 141 = .ok (.iinc 1 1, 3) := by decide +kernel
theorem dX12_form_144 : decode cX12_form 144 = .ok (.goto (-69), 3) := by decide +kernel
theorem dX12_form_147 : decode cX12_form 147 = .ok (.iconst 0, 1) := by decide +kernel
theorem dX12_form_148 : decode cX12_form 148 = .ok (.istore_n 1, 1) := by decide +kernel
theorem dX12_form_149 : decode cX12_form 149 = .ok (.iload_n 1, 1) := by decide +kernel
theorem dX12_form_150 : decode cX12_form 150 = .ok (.bipush 8, 2) := by decide +kernel
theorem dX12_form_152 : decode cX12_form 152 = .ok (.if_icmp .ge 33, 3) := by decide +kernel
theorem dX12_form_155 : decode cX12_form 155 = .ok (.aload_n 0, 1) := by decide +kernel
theorem dX12_form_156 : decode cX12_form 156 = .ok (.getfield 16, 3) := by decide +kernel
theorem dX12_form_159 : decode cX12_form 159 = .ok (.iload_n 1, 1) := by decide +kernel
theorem dX12_form_160 : decode cX12_form 160 = .ok (.aload_n 0, 1) := by decide +kernel
theorem dX12_form_161 : decode cX12_form 161 = .ok (.getfield 41, 3) := by decide +kernel
theorem dX12_form_164 : decode cX12_form 164 = .ok (.iload_n 1, 1) := by decide +kernel
theorem dX12_form_165 : decode cX12_form 165 = .ok (.iaload, 1) := by decide +kernel
theorem dX12_form_166 : decode cX12_form 166 = .ok (.iastore, 1) := by decide +kernel
theorem dX12_form_167 : decode cX12_form 167 = .ok (.aload_n 0, 1) := by decide +kernel
theorem dX12_form_168 : decode cX12_form 168 = .ok (.getfield 19, 3) := by decide +kernel
theorem dX12_form_171 : decode cX12_form 171 = .ok (.iload_n 1, 1) := by decide +kernel
theorem dX12_form_172 : decode cX12_form 172 = .ok (.aload_n 0, 1) := by decide +kernel
theorem dX12_form_173 : decode cX12_form 173 = .ok (.getfield 44, 3) := by decide +kernel
theorem dX12_form_176 : decode cX12_form 176 = .ok (.iload_n 1, 1) := by decide +kernel
theorem dX12_form_177 : decode cX12_form 177 = .ok (.iaload, 1) := by decide +kernel
theorem dX12_form_178 : decode cX12_form 178 = .ok (.iastore, 1) := by decide +kernel
theorem dX12_form_179 : decode cX12_form 179 = .ok (.iinc 1 1, 3) := by decide +kernel
theorem dX12_form_182 : decode cX12_form 182 = .ok (.goto (-33), 3) := by decide +kernel
theorem dX12_form_185 : decode cX12_form 185 = .ok (.iconst 0, 1) := by decide +kernel
theorem dX12_form_186 : decode cX12_form 186 = .ok (.istore_n 1, 1) := by decide +kernel
theorem dX12_form_187 : decode cX12_form 187 = .ok (.iload_n 1, 1) := by decide +kernel
theorem dX12_form_188 : decode cX12_form 188 = .ok (.aload_n 0, 1) := by decide +kernel
theorem dX12_form_189 : decode cX12_form 189 = .ok (.getfield 364, 3) := by decide +kernel
theorem dX12_form_192 : decode cX12_form 192 = .ok (.if_icmp .ge 42, 3) := by decide +kernel
theorem dX12_form_195 : decode cX12_form 195 = .ok (.iconst 0, 1) := by decide +kernel
theorem dX12_form_196 : decode cX12_form 196 = .ok (.istore_n 2, 1) := by decide +kernel
theorem dX12_form_197 : decode cX12_form 197 = .ok (.iload_n 2, 1) := by decide +kernel
theorem dX12_form_198 : decode cX12_form 198 = .ok (.aload_n 0, 1) := by decide +kernel
theorem dX12_form_199 : decode cX12_form 199 = .ok (.getfield 364, 3) := by decide +kernel
theorem dX12_form_202 : decode cX12_form 202 = .ok (.if_icmp .ge 26, 3) := by decide +kernel
theorem dX12_form_205 : decode cX12_form 205 = .ok (.aload_n 0, 1) := by decide +kernel
theorem dX12_form_206 : decode cX12_form 206 = .ok (.getfield 34, 3) := by decide +kernel
theorem dX12_form_209 : decode cX12_form 209 = .ok (.bipush 12, 2) := by decide +kernel
theorem dX12_form_211 : decode cX12_form 211 = .ok (.iload_n 1, 1) := by decide +kernel
theorem dX12_form_212 : decode cX12_form 212 = .ok (.imul, 1) := by decide +kernel
theorem dX12_form_213 : decode cX12_form 213 = .ok (.iload_n 2, 1) := by decide +kernel
theorem dX12_form_214 : decode cX12_form 214 = .ok (.iadd, 1) := by decide +kernel
theorem dX12_form_215 : decode cX12_form 215 = .ok (.aload_n 0, 1) := by decide +kernel
theorem dX12_form_216 : decode cX12_form 216 = .ok (.iload_n 1, 1) := by decide +kernel
theorem dX12_form_217 : decode cX12_form 217 = .ok (.iload_n 2, 1) := by decide +kernel
theorem dX12_form_218 : decode cX12_form 218 = .ok (.invokevirtual 370, 3) := by decide +kernel
theorem dX12_form_221 : decode cX12_form 221 = .ok (.bastore, 1) := by decide +kernel
theorem dX12_form_222 : decode cX12_form 222 = .ok (.iinc 2 1, 3) := by decide +kernel
theorem dX12_form_225 : decode cX12_form 225 = .ok (.goto (-28), 3) := by decide +kernel
theorem dX12_form_228 : decode cX12_form 228 = .ok (.iinc 1 1, 3) := by decide +kernel
theorem dX12_form_231 : decode cX12_form 231 = .ok (.goto (-44), 3) := by decide +kernel
theorem dX12_form_234 : decode cX12_form 234 = .ok (.aload_n 0, 1) := by decide +kernel
theorem dX12_form_235 : decode cX12_form 235 = .ok (.iconst 0, 1) := by decide +kernel
theorem dX12_form_236 : decode cX12_form 236 = .ok (.putfield 372, 3) := by decide +kernel
theorem dX12_form_239 : decode cX12_form 239 = .ok (.iconst 0, 1) := by decide +kernel
theorem dX12_form_240 : decode cX12_form 240 = .ok (.ireturn, 1) := by decide +kernel
theorem dX12_bars_0 : decode cX12_bars 0 = .ok (.aload_n 0, 1) := by decide +kernel
theorem dX12_bars_1 : decode cX12_bars 1 = .ok (.getfield 105, 3) := by decide +kernel
theorem dX12_bars_4 : decode cX12_bars 4 = .ok (.iconst 1, 1) := by decide +kernel
theorem dX12_bars_5 : decode cX12_bars 5 = .ok (.aload_n 0, 1) := by decide +kernel
theorem dX12_bars_6 : decode cX12_bars 6 = .ok (.getfield 31, 3) := by decide +kernel
theorem dX12_bars_9 : decode cX12_bars 9 = .ok (.iload_n 1, 1) := by decide +kernel
theorem dX12_bars_10 : decode cX12_bars 10 = .ok (.iaload, 1) := by decide +kernel
theorem dX12_bars_11 : decode cX12_bars 11 = .ok (.iastore, 1) := by decide +kernel
theorem dX12_bars_12 : decode cX12_bars 12 = .ok (.aload_n 0, 1) := by decide +kernel
theorem dX12_bars_13 : decode cX12_bars 13 = .ok (.getfield 105, 3) := by decide +kernel
theorem dX12_bars_16 : decode cX12_bars 16 = .ok (.iconst 2, 1) := by decide +kernel
theorem dX12_bars_17 : decode cX12_bars 17 = .ok (.aload_n 0, 1) := by decide +kernel
theorem dX12_bars_18 : decode cX12_bars 18 = .ok (.getfield 31, 3) := by decide +kernel
theorem dX12_bars_21 : decode cX12_bars 21 = .ok (.iload_n 2, 1) := by decide +kernel
theorem dX12_bars_22 : decode cX12_bars 22 = .ok (.iaload, 1) := by decide +kernel
theorem dX12_bars_23 : decode cX12_bars 23 = .ok (.iastore, 1) := by decide +kernel
theorem dX12_bars_24 : decode cX12_bars 24 = .ok (.aload_n 0, 1) := by decide +kernel
theorem dX12_bars_25 : decode cX12_bars 25 = .ok (.getfield 105, 3) := by decide +kernel
theorem dX12_bars_28 : decode cX12_bars 28 = .ok (.iconst 3, 1) := by decide +kernel
theorem dX12_bars_29 : decode cX12_bars 29 = .ok (.aload_n 0, 1) := by decide +kernel
theorem dX12_bars_30 : decode cX12_bars 30 = .ok (.getfield 28, 3) := by decide +kernel
theorem dX12_bars_33 : decode cX12_bars 33 = .ok (.iload_n 1, 1) := by decide +kernel
theorem dX12_bars_34 : decode cX12_bars 34 = .ok (.iaload, 1) := by decide +kernel
theorem dX12_bars_35 : decode cX12_bars 35 = .ok (.iastore, 1) := by decide +kernel
theorem dX12_bars_36 : decode cX12_bars 36 = .ok (.aload_n 0, 1) := by decide +kernel
theorem dX12_bars_37 : decode cX12_bars 37 = .ok (.getfield 105, 3) := by decide +kernel
theorem dX12_bars_40 : decode cX12_bars 40 = .ok (.iconst 4, 1) := by decide +kernel
theorem dX12_bars_41 : decode cX12_bars 41 = .ok (.aload_n 0, 1) := by decide +kernel
theorem dX12_bars_42 : decode cX12_bars 42 = .ok (.getfield 28, 3) := by decide +kernel
theorem dX12_bars_45 : decode cX12_bars 45 = .ok (.iload_n 2, 1) := by decide +kernel
theorem dX12_bars_46 : decode cX12_bars 46 = .ok (.iaload, 1) := by decide +kernel
theorem dX12_bars_47 : decode cX12_bars 47 = .ok (.iastore, 1) := by decide +kernel
theorem dX12_bars_48 : decode cX12_bars 48 = .ok (.aload_n 0, 1) := by decide +kernel
theorem dX12_bars_49 : decode cX12_bars 49 = .ok (.getfield 105, 3) := by decide +kernel
theorem dX12_bars_52 : decode cX12_bars 52 = .ok (.iconst 5, 1) := by decide +kernel
theorem dX12_bars_53 : decode cX12_bars 53 = .ok (.aload_n 0, 1) := by decide +kernel
theorem dX12_bars_54 : decode cX12_bars 54 = .ok (.getfield 25, 3) := by decide +kernel
theorem dX12_bars_57 : decode cX12_bars 57 = .ok (.iload_n 1, 1) := by decide +kernel
theorem dX12_bars_58 : decode cX12_bars 58 = .ok (.iaload, 1) := by decide +kernel
theorem dX12_bars_59 : decode cX12_bars 59 = .ok (.aload_n 0, 1) := by decide +kernel
theorem dX12_bars_60 : decode cX12_bars 60 = .ok (.getfield 25, 3) := by decide +kernel
theorem dX12_bars_63 : decode cX12_bars 63 = .ok (.iload_n 2, 1) := by decide +kernel
theorem dX12_bars_64 : decode cX12_bars 64 = .ok (.iaload, 1) := by decide +kernel
theorem dX12_bars_65 : decode cX12_bars 65 = .ok (.if_icmp .ne 7, 3) := by decide +kernel
theorem dX12_bars_68 : decode cX12_bars 68 = .ok (.iconst 1, 1) := by decide +kernel
theorem dX12_bars_69 : decode cX12_bars 69 = .ok (.goto 4, 3) := by decide +kernel
theorem dX12_bars_72 : decode cX12_bars 72 = .ok (.iconst 0, 1) := by decide +kernel
theorem dX12_bars_73 : decode cX12_bars 73 = .ok (.iastore, 1) := by decide +kernel
theorem dX12_bars_74 : decode cX12_bars 74 = .ok (.iconst 0, 1) := by decide +kernel
theorem dX12_bars_75 : decode cX12_bars 75 = .ok (.istore_n 3, 1) := by decide +kernel
theorem dX12_bars_76 : decode cX12_bars 76 = .ok (.iload_n 3, 1) := by decide +kernel
theorem dX12_bars_77 : decode cX12_bars 77 = .ok (.aload_n 0, 1) := by decide +kernel
theorem dX12_bars_78 : decode cX12_bars 78 = .ok (.getfield 367, 3) := by decide +kernel
theorem dX12_bars_81 : decode cX12_bars 81 = .ok (.if_icmp .ge 19, 3) := by decide +kernel
theorem dX12_bars_84 : decode cX12_bars 84 = .ok (.aload_n 0, 1) := by decide +kernel
theorem dX12_bars_85 : decode cX12_bars 85 = .ok (.iload_n 3, 1) := by decide +kernel
theorem dX12_bars_86 : decode cX12_bars 86 = .ok (.invokevirtual 375, 3) := by decide +kernel
theorem dX12_bars_89 : decode cX12_bars 89 = .ok (.ifCond .eq 5, 3) := by decide +kernel
theorem dX12_bars_92 : decode cX12_bars 92 = .ok (.iconst 1, 1) := by decide +kernel
theorem dX12_bars_93 : decode cX12_bars 93 = .ok (.ireturn, 1) := by decide +kernel
theorem dX12_bars_94 : decode cX12_bars 94 = .ok (.iinc 3 1, 3) := by decide +kernel
theorem dX12_bars_97 : decode cX12_bars 97 = .ok (.goto (-21), 3) := by decide +kernel
theorem dX12_bars_100 : decode cX12_bars 100 = .ok (.iconst 0, 1) := by decide +kernel
theorem dX12_bars_101 : decode cX12_bars 101 = .ok (.ireturn, 1) := by decide +kernel
theorem dX12_isPlace_0 : decode cX12_isPlace 0 = .ok (.iload_n 1, 1) := by decide +kernel
theorem dX12_isPlace_1 : decode cX12_isPlace 1 = .ok (.ifCond .lt 15, 3) := by decide +kernel
theorem dX12_isPlace_4 : decode cX12_isPlace 4 = .ok (.iload_n 1, 1) := by decide +kernel
theorem dX12_isPlace_5 : decode cX12_isPlace 5 = .ok (.aload_n 0, 1) := by decide +kernel
theorem dX12_isPlace_6 : decode cX12_isPlace 6 = .ok (.getfield 153, 3) := by decide +kernel
theorem dX12_isPlace_9 : decode cX12_isPlace 9 = .ok (.if_icmp .ge 7, 3) := by decide +kernel
theorem dX12_isPlace_12 : decode cX12_isPlace 12 = .ok (.iconst 1, 1) := by decide +kernel
theorem dX12_isPlace_13 : decode cX12_isPlace 13 = .ok (.goto 4, 3) := by decide +kernel
theorem dX12_isPlace_16 : decode cX12_isPlace 16 = .ok (.iconst 0, 1) := by decide +kernel
theorem dX12_isPlace_17 : decode cX12_isPlace 17 = .ok (.ireturn, 1) := by decide +kernel
theorem dX12_isWordAt_0 : decode cX12_isWordAt 0 = .ok (.iload_n 1, 1) := by decide +kernel
theorem dX12_isWordAt_1 : decode cX12_isWordAt 1 = .ok (.ifCond .lt 15, 3) := by decide +kernel
theorem dX12_isWordAt_4 : decode cX12_isWordAt 4 = .ok (.iload_n 1, 1) := by decide +kernel
theorem dX12_isWordAt_5 : decode cX12_isWordAt 5 = .ok (.aload_n 0, 1) := by decide +kernel
theorem dX12_isWordAt_6 : decode cX12_isWordAt 6 = .ok (.getfield 364, 3) := by decide +kernel
theorem dX12_isWordAt_9 : decode cX12_isWordAt 9 = .ok (.if_icmp .ge 7, 3) := by decide +kernel
theorem dX12_isWordAt_12 : decode cX12_isWordAt 12 = .ok (.iconst 1, 1) := by decide +kernel
theorem dX12_isWordAt_13 : decode cX12_isWordAt 13 = .ok (.goto 4, 3) := by decide +kernel
theorem dX12_isWordAt_16 : decode cX12_isWordAt 16 = .ok (.iconst 0, 1) := by decide +kernel
theorem dX12_isWordAt_17 : decode cX12_isWordAt 17 = .ok (.ireturn, 1) := by decide +kernel
theorem dX12_goesTo_0 : decode cX12_goesTo 0 = .ok (.iconst 0, 1) := by decide +kernel
theorem dX12_goesTo_1 : decode cX12_goesTo 1 = .ok (.istore_n 2, 1) := by decide +kernel
theorem dX12_goesTo_2 : decode cX12_goesTo 2 = .ok (.aload_n 0, 1) := by decide +kernel
theorem dX12_goesTo_3 : decode cX12_goesTo 3 = .ok (.getfield 13, 3) := by decide +kernel
theorem dX12_goesTo_6 : decode cX12_goesTo 6 = .ok (.iload_n 2, 1) := by decide +kernel
theorem dX12_goesTo_7 : decode cX12_goesTo 7 = .ok (.iaload, 1) := by decide +kernel
theorem dX12_goesTo_8 : decode cX12_goesTo 8 = .ok (.iload_n 1, 1) := by decide +kernel
theorem dX12_goesTo_9 : decode cX12_goesTo 9 = .ok (.if_icmp .eq 9, 3) := by decide +kernel
theorem dX12_goesTo_12 : decode cX12_goesTo 12 = .ok (.iinc 2 1, 3) := by decide +kernel
theorem dX12_goesTo_15 : decode cX12_goesTo 15 = .ok (.goto (-13), 3) := by decide +kernel
theorem dX12_goesTo_18 : decode cX12_goesTo 18 = .ok (.iload_n 2, 1) := by decide +kernel
theorem dX12_goesTo_19 : decode cX12_goesTo 19 = .ok (.ireturn, 1) := by decide +kernel
theorem dX12_cycleOf_0 : decode cX12_cycleOf 0 = .ok (.iconst 1, 1) := by decide +kernel
theorem dX12_cycleOf_1 : decode cX12_cycleOf 1 = .ok (.istore_n 2, 1) := by decide +kernel
theorem dX12_cycleOf_2 : decode cX12_cycleOf 2 = .ok (.aload_n 0, 1) := by decide +kernel
theorem dX12_cycleOf_3 : decode cX12_cycleOf 3 = .ok (.getfield 13, 3) := by decide +kernel
theorem dX12_cycleOf_6 : decode cX12_cycleOf 6 = .ok (.iload_n 1, 1) := by decide +kernel
theorem dX12_cycleOf_7 : decode cX12_cycleOf 7 = .ok (.iaload, 1) := by decide +kernel
theorem dX12_cycleOf_8 : decode cX12_cycleOf 8 = .ok (.istore_n 3, 1) := by decide +kernel
theorem dX12_cycleOf_9 : decode cX12_cycleOf 9 = .ok (.iload_n 3, 1) := by decide +kernel
theorem dX12_cycleOf_10 : decode cX12_cycleOf 10 = .ok (.iload_n 1, 1) := by decide +kernel
theorem dX12_cycleOf_11 : decode cX12_cycleOf 11 = .ok (.if_icmp .eq 16, 3) := by decide +kernel
theorem dX12_cycleOf_14 : decode cX12_cycleOf 14 = .ok (.iinc 2 1, 3) := by decide +kernel
theorem dX12_cycleOf_17 : decode cX12_cycleOf 17 = .ok (.aload_n 0, 1) := by decide +kernel
theorem dX12_cycleOf_18 : decode cX12_cycleOf 18 = .ok (.getfield 13, 3) := by decide +kernel
theorem dX12_cycleOf_21 : decode cX12_cycleOf 21 = .ok (.iload_n 3, 1) := by decide +kernel
theorem dX12_cycleOf_22 : decode cX12_cycleOf 22 = .ok (.iaload, 1) := by decide +kernel
theorem dX12_cycleOf_23 : decode cX12_cycleOf 23 = .ok (.istore_n 3, 1) := by decide +kernel
theorem dX12_cycleOf_24 : decode cX12_cycleOf 24 = .ok (.goto (-15), 3) := by decide +kernel
theorem dX12_cycleOf_27 : decode cX12_cycleOf 27 = .ok (.iload_n 2, 1) := by decide +kernel
theorem dX12_cycleOf_28 : decode cX12_cycleOf 28 = .ok (.ireturn, 1) := by decide +kernel
theorem dX12_turning_0 : decode cX12_turning 0 = .ok (.aload_n 0, 1) := by decide +kernel
theorem dX12_turning_1 : decode cX12_turning 1 = .ok (.iconst 0, 1) := by decide +kernel
theorem dX12_turning_2 : decode cX12_turning 2 = .ok (.putfield 157, 3) := by decide +kernel
theorem dX12_turning_5 : decode cX12_turning 5 = .ok (.aload_n 0, 1) := by decide +kernel
theorem dX12_turning_6 : decode cX12_turning 6 = .ok (.iload_n 1, 1) := by decide +kernel
theorem dX12_turning_7 : decode cX12_turning 7 = .ok (.invokevirtual 378, 3) := by decide +kernel
theorem dX12_turning_10 : decode cX12_turning 10 = .ok (.ifCond .eq 12, 3) := by decide +kernel
theorem dX12_turning_13 : decode cX12_turning 13 = .ok (.iload_n 2, 1) := by decide +kernel
theorem dX12_turning_14 : decode cX12_turning 14 = .ok (.iconst 0, 1) := by decide +kernel
theorem dX12_turning_15 : decode cX12_turning 15 = .ok (.iconst 2, 1) := by decide +kernel
theorem dX12_turning_16 : decode cX12_turning 16 = .ok (.invokestatic 277, 3) := by decide +kernel
theorem dX12_turning_19 : decode cX12_turning 19 = .ok (.ifCond .ne 7, 3) := by decide +kernel
theorem dX12_turning_22 : decode cX12_turning 22 = .ok (.iconst (-1), 1) := by decide +kernel
theorem dX12_turning_23 : decode cX12_turning 23 = .ok (.goto 34, 3) := by decide +kernel
theorem dX12_turning_26 : decode cX12_turning 26 = .ok (.iload_n 2, 1) := by decide +kernel
theorem dX12_turning_27 : decode cX12_turning 27 = .ok (.ifCond .ne 11, 3) := by decide +kernel
theorem dX12_turning_30 : decode cX12_turning 30 = .ok (.aload_n 0, 1) := by decide +kernel
theorem dX12_turning_31 : decode cX12_turning 31 = .ok (.iload_n 1, 1) := by decide +kernel
theorem dX12_turning_32 : decode cX12_turning 32 = .ok (.invokevirtual 381, 3) := by decide +kernel
theorem dX12_turning_35 : decode cX12_turning 35 = .ok (.goto 22, 3) := by decide +kernel
theorem dX12_turning_38 : decode cX12_turning 38 = .ok (.iload_n 2, 1) := by decide +kernel
theorem dX12_turning_39 : decode cX12_turning 39 = .ok (.iconst 1, 1) := by decide +kernel
theorem dX12_turning_40 : decode cX12_turning 40 = .ok (.if_icmp .ne 12, 3) := by decide +kernel
theorem dX12_turning_43 : decode cX12_turning 43 = .ok (.aload_n 0, 1) := by decide +kernel
theorem dX12_turning_44 : decode cX12_turning 44 = .ok (.getfield 13, 3) := by decide +kernel
theorem dX12_turning_47 : decode cX12_turning 47 = .ok (.iload_n 1, 1) := by decide +kernel
theorem dX12_turning_48 : decode cX12_turning 48 = .ok (.iaload, 1) := by decide +kernel
theorem dX12_turning_49 : decode cX12_turning 49 = .ok (.goto 8, 3) := by decide +kernel
theorem dX12_turning_52 : decode cX12_turning 52 = .ok (.aload_n 0, 1) := by decide +kernel
theorem dX12_turning_53 : decode cX12_turning 53 = .ok (.iload_n 1, 1) := by decide +kernel
theorem dX12_turning_54 : decode cX12_turning 54 = .ok (.invokevirtual 384, 3) := by decide +kernel
theorem dX12_turning_57 : decode cX12_turning 57 = .ok (.ireturn, 1) := by decide +kernel
theorem dX12_isStanza_0 : decode cX12_isStanza 0 = .ok (.lload_n 0, 1) := by decide +kernel
theorem dX12_isStanza_1 : decode cX12_isStanza 1 = .ok (.lconst 0, 1) := by decide +kernel
theorem dX12_isStanza_2 : decode cX12_isStanza 2 = .ok (.lcmp, 1) := by decide +kernel
theorem dX12_isStanza_3 : decode cX12_isStanza 3 = .ok (.ifCond .lt 15, 3) := by decide +kernel
theorem dX12_isStanza_6 : decode cX12_isStanza 6 = .ok (.lload_n 0, 1) := by decide +kernel
theorem dX12_isStanza_7 : decode cX12_isStanza 7 = .ok (.ldc2_w 387, 3) := by decide +kernel
theorem dX12_isStanza_10 : decode cX12_isStanza 10 = .ok (.lcmp, 1) := by decide +kernel
theorem dX12_isStanza_11 : decode cX12_isStanza 11 = .ok (.ifCond .gt 7, 3) := by decide +kernel
theorem dX12_isStanza_14 : decode cX12_isStanza 14 = .ok (.iconst 1, 1) := by decide +kernel
theorem dX12_isStanza_15 : decode cX12_isStanza 15 = .ok (.goto 4, 3) := by decide +kernel
theorem dX12_isStanza_18 : decode cX12_isStanza 18 = .ok (.iconst 0, 1) := by decide +kernel
theorem dX12_isStanza_19 : decode cX12_isStanza 19 = .ok (.ireturn, 1) := by decide +kernel
theorem dX12_endAt_0 : decode cX12_endAt 0 = .ok (.iload_n 3, 1) := by decide +kernel
theorem dX12_endAt_1 : decode cX12_endAt 1 = .ok (.istore 4, 2) := by decide +kernel
theorem dX12_endAt_3 : decode cX12_endAt 3 = .ok (.lload_n 1, 1) := by decide +kernel
theorem dX12_endAt_4 : decode cX12_endAt 4 = .ok (.aload_n 0, 1) := by decide +kernel
theorem dX12_endAt_5 : decode cX12_endAt 5 = .ok (.iload_n 3, 1) := by decide +kernel
theorem dX12_endAt_6 : decode cX12_endAt 6 = .ok (.invokevirtual 384, 3) := by decide +kernel
theorem dX12_endAt_9 : decode cX12_endAt 9 = .ok (.i2l, 1) := by decide +kernel
theorem dX12_endAt_10 : decode cX12_endAt 10 = .ok (.lrem, 1) := by decide +kernel
theorem dX12_endAt_11 : decode cX12_endAt 11 = .ok (.l2i, 1) := by decide +kernel
theorem dX12_endAt_12 : decode cX12_endAt 12 = .ok (.istore 5, 2) := by decide +kernel
theorem dX12_endAt_14 : decode cX12_endAt 14 = .ok (.iload 5, 2) := by decide +kernel
theorem dX12_endAt_16 : decode cX12_endAt 16 = .ok (.ifCond .le 18, 3) := by decide +kernel
theorem dX12_endAt_19 : decode cX12_endAt 19 = .ok (.aload_n 0, 1) := by decide +kernel
theorem dX12_endAt_20 : decode cX12_endAt 20 = .ok (.getfield 13, 3) := by decide +kernel
theorem dX12_endAt_23 : decode cX12_endAt 23 = .ok (.iload 4, 2) := by decide +kernel
theorem dX12_endAt_25 : decode cX12_endAt 25 = .ok (.iaload, 1) := by decide +kernel
theorem dX12_endAt_26 : decode cX12_endAt 26 = .ok (.istore 4, 2) := by decide +kernel
theorem dX12_endAt_28 : decode cX12_endAt 28 = .ok (.iinc 5 (-1), 3) := by decide +kernel
theorem dX12_endAt_31 : decode cX12_endAt 31 = .ok (.goto (-17), 3) := by decide +kernel
theorem dX12_endAt_34 : decode cX12_endAt 34 = .ok (.iload 4, 2) := by decide +kernel
theorem dX12_endAt_36 : decode cX12_endAt 36 = .ok (.ireturn, 1) := by decide +kernel
theorem dX12_whereIs_0 : decode cX12_whereIs 0 = .ok (.iconst 0, 1) := by decide +kernel
theorem dX12_whereIs_1 : decode cX12_whereIs 1 = .ok (.istore 4, 2) := by decide +kernel
theorem dX12_whereIs_3 : decode cX12_whereIs 3 = .ok (.aload_n 0, 1) := by decide +kernel
theorem dX12_whereIs_4 : decode cX12_whereIs 4 = .ok (.lload_n 1, 1) := by decide +kernel
theorem dX12_whereIs_5 : decode cX12_whereIs 5 = .ok (.iload 4, 2) := by decide +kernel
theorem dX12_whereIs_7 : decode cX12_whereIs 7 = .ok (.invokevirtual 389, 3) := by decide +kernel
theorem dX12_whereIs_10 : decode cX12_whereIs 10 = .ok (.iload_n 3, 1) := by decide +kernel
theorem dX12_whereIs_11 : decode cX12_whereIs 11 = .ok (.if_icmp .eq 9, 3) := by decide +kernel
theorem dX12_whereIs_14 : decode cX12_whereIs 14 = .ok (.iinc 4 1, 3) := by decide +kernel
theorem dX12_whereIs_17 : decode cX12_whereIs 17 = .ok (.goto (-14), 3) := by decide +kernel
theorem dX12_whereIs_20 : decode cX12_whereIs 20 = .ok (.iload 4, 2) := by decide +kernel
theorem dX12_whereIs_22 : decode cX12_whereIs 22 = .ok (.ireturn, 1) := by decide +kernel
theorem dX12_end_0 : decode cX12_end 0 = .ok (.aload_n 0, 1) := by decide +kernel
theorem dX12_end_1 : decode cX12_end 1 = .ok (.iconst 0, 1) := by decide +kernel
theorem dX12_end_2 : decode cX12_end 2 = .ok (.putfield 157, 3) := by decide +kernel
theorem dX12_end_5 : decode cX12_end 5 = .ok (.lload_n 1, 1) := by decide +kernel
theorem dX12_end_6 : decode cX12_end 6 = .ok (.invokestatic 393, 3) := by decide +kernel
theorem dX12_end_9 : decode cX12_end 9 = .ok (.ifCond .eq 20, 3) := by decide +kernel
theorem dX12_end_12 : decode cX12_end 12 = .ok (.aload_n 0, 1) := by decide +kernel
theorem dX12_end_13 : decode cX12_end 13 = .ok (.iload_n 3, 1) := by decide +kernel
theorem dX12_end_14 : decode cX12_end 14 = .ok (.invokevirtual 378, 3) := by decide +kernel
theorem dX12_end_17 : decode cX12_end 17 = .ok (.ifCond .eq 12, 3) := by decide +kernel
theorem dX12_end_20 : decode cX12_end 20 = .ok (.aload_n 0, 1) := by decide +kernel
theorem dX12_end_21 : decode cX12_end 21 = .ok (.lload_n 1, 1) := by decide +kernel
theorem dX12_end_22 : decode cX12_end 22 = .ok (.iload_n 3, 1) := by decide +kernel
theorem dX12_end_23 : decode cX12_end 23 = .ok (.invokevirtual 389, 3) := by decide +kernel
theorem dX12_end_26 : decode cX12_end 26 = .ok (.goto 4, 3) := by decide +kernel
theorem dX12_end_29 : decode cX12_end 29 = .ok (.iconst (-1), 1) := by decide +kernel
theorem dX12_end_30 : decode cX12_end 30 = .ok (.ireturn, 1) := by decide +kernel
theorem dX12_where_0 : decode cX12_where 0 = .ok (.aload_n 0, 1) := by decide +kernel
theorem dX12_where_1 : decode cX12_where 1 = .ok (.iconst 0, 1) := by decide +kernel
theorem dX12_where_2 : decode cX12_where 2 = .ok (.putfield 157, 3) := by decide +kernel
theorem dX12_where_5 : decode cX12_where 5 = .ok (.lload_n 1, 1) := by decide +kernel
theorem dX12_where_6 : decode cX12_where 6 = .ok (.invokestatic 393, 3) := by decide +kernel
theorem dX12_where_9 : decode cX12_where 9 = .ok (.ifCond .eq 20, 3) := by decide +kernel
theorem dX12_where_12 : decode cX12_where 12 = .ok (.aload_n 0, 1) := by decide +kernel
theorem dX12_where_13 : decode cX12_where 13 = .ok (.iload_n 3, 1) := by decide +kernel
theorem dX12_where_14 : decode cX12_where 14 = .ok (.invokevirtual 378, 3) := by decide +kernel
theorem dX12_where_17 : decode cX12_where 17 = .ok (.ifCond .eq 12, 3) := by decide +kernel
theorem dX12_where_20 : decode cX12_where 20 = .ok (.aload_n 0, 1) := by decide +kernel
theorem dX12_where_21 : decode cX12_where 21 = .ok (.lload_n 1, 1) := by decide +kernel
theorem dX12_where_22 : decode cX12_where 22 = .ok (.iload_n 3, 1) := by decide +kernel
theorem dX12_where_23 : decode cX12_where 23 = .ok (.invokevirtual 396, 3) := by decide +kernel
theorem dX12_where_26 : decode cX12_where 26 = .ok (.goto 4, 3) := by decide +kernel
theorem dX12_where_29 : decode cX12_where 29 = .ok (.iconst (-1), 1) := by decide +kernel
theorem dX12_where_30 : decode cX12_where 30 = .ok (.ireturn, 1) := by decide +kernel
theorem dX12_meets_0 : decode cX12_meets 0 = .ok (.aload_n 0, 1) := by decide +kernel
theorem dX12_meets_1 : decode cX12_meets 1 = .ok (.iconst 0, 1) := by decide +kernel
theorem dX12_meets_2 : decode cX12_meets 2 = .ok (.putfield 157, 3) := by decide +kernel
theorem dX12_meets_5 : decode cX12_meets 5 = .ok (.aload_n 0, 1) := by decide +kernel
theorem dX12_meets_6 : decode cX12_meets 6 = .ok (.iload_n 1, 1) := by decide +kernel
theorem dX12_meets_7 : decode cX12_meets 7 = .ok (.invokevirtual 378, 3) := by decide +kernel
theorem dX12_meets_10 : decode cX12_meets 10 = .ok (.ifCond .eq 11, 3) := by decide +kernel
theorem dX12_meets_13 : decode cX12_meets 13 = .ok (.aload_n 0, 1) := by decide +kernel
theorem dX12_meets_14 : decode cX12_meets 14 = .ok (.iload_n 2, 1) := by decide +kernel
theorem dX12_meets_15 : decode cX12_meets 15 = .ok (.invokevirtual 378, 3) := by decide +kernel
theorem dX12_meets_18 : decode cX12_meets 18 = .ok (.ifCond .ne 5, 3) := by decide +kernel
theorem dX12_meets_21 : decode cX12_meets 21 = .ok (.iconst (-1), 1) := by decide +kernel
theorem dX12_meets_22 : decode cX12_meets 22 = .ok (.ireturn, 1) := by decide +kernel
theorem dX12_meets_23 : decode cX12_meets 23 = .ok (.iconst 0, 1) := by decide +kernel
theorem dX12_meets_24 : decode cX12_meets 24 = .ok (.istore_n 3, 1) := by decide +kernel
theorem dX12_meets_25 : decode cX12_meets 25 = .ok (.iload_n 3, 1) := by decide +kernel
theorem dX12_meets_26 : decode cX12_meets 26 = .ok (.aload_n 0, 1) := by decide +kernel
theorem dX12_meets_27 : decode cX12_meets 27 = .ok (.iload_n 2, 1) := by decide +kernel
theorem dX12_meets_28 : decode cX12_meets 28 = .ok (.invokevirtual 384, 3) := by decide +kernel
theorem dX12_meets_31 : decode cX12_meets 31 = .ok (.if_icmp .ge 22, 3) := by decide +kernel
theorem dX12_meets_34 : decode cX12_meets 34 = .ok (.aload_n 0, 1) := by decide +kernel
theorem dX12_meets_35 : decode cX12_meets 35 = .ok (.iload_n 3, 1) := by decide +kernel
theorem dX12_meets_36 : decode cX12_meets 36 = .ok (.i2l, 1) := by decide +kernel
theorem dX12_meets_37 : decode cX12_meets 37 = .ok (.iload_n 2, 1) := by decide +kernel
theorem dX12_meets_38 : decode cX12_meets 38 = .ok (.invokevirtual 389, 3) := by decide +kernel
theorem dX12_meets_41 : decode cX12_meets 41 = .ok (.iload_n 1, 1) := by decide +kernel
theorem dX12_meets_42 : decode cX12_meets 42 = .ok (.if_icmp .ne 5, 3) := by decide +kernel
theorem dX12_meets_45 : decode cX12_meets 45 = .ok (.iload_n 3, 1) := by decide +kernel
theorem dX12_meets_46 : decode cX12_meets 46 = .ok (.ireturn, 1) := by decide +kernel
theorem dX12_meets_47 : decode cX12_meets 47 = .ok (.iinc 3 1, 3) := by decide +kernel
theorem dX12_meets_50 : decode cX12_meets 50 = .ok (.goto (-25), 3) := by decide +kernel
theorem dX12_meets_53 : decode cX12_meets 53 = .ok (.iconst (-1), 1) := by decide +kernel
theorem dX12_meets_54 : decode cX12_meets 54 = .ok (.ireturn, 1) := by decide +kernel
theorem dX12_gcd_0 : decode cX12_gcd 0 = .ok (.iload_n 0, 1) := by decide +kernel
theorem dX12_gcd_1 : decode cX12_gcd 1 = .ok (.istore_n 2, 1) := by decide +kernel
theorem dX12_gcd_2 : decode cX12_gcd 2 = .ok (.iload_n 1, 1) := by decide +kernel
theorem dX12_gcd_3 : decode cX12_gcd 3 = .ok (.istore_n 3, 1) := by decide +kernel
theorem dX12_gcd_4 : decode cX12_gcd 4 = .ok (.iload_n 3, 1) := by decide +kernel
theorem dX12_gcd_5 : decode cX12_gcd 5 = .ok (.ifCond .eq 16, 3) := by decide +kernel
theorem dX12_gcd_8 : decode cX12_gcd 8 = .ok (.iload_n 2, 1) := by decide +kernel
theorem dX12_gcd_9 : decode cX12_gcd 9 = .ok (.iload_n 3, 1) := by decide +kernel
theorem dX12_gcd_10 : decode cX12_gcd 10 = .ok (.irem, 1) := by decide +kernel
theorem dX12_gcd_11 : decode cX12_gcd 11 = .ok (.istore 4, 2) := by decide +kernel
theorem dX12_gcd_13 : decode cX12_gcd 13 = .ok (.iload_n 3, 1) := by decide +kernel
theorem dX12_gcd_14 : decode cX12_gcd 14 = .ok (.istore_n 2, 1) := by decide +kernel
theorem dX12_gcd_15 : decode cX12_gcd 15 = .ok (.iload 4, 2) := by decide +kernel
theorem dX12_gcd_17 : decode cX12_gcd 17 = .ok (.istore_n 3, 1) := by decide +kernel
theorem dX12_gcd_18 : decode cX12_gcd 18 = .ok (.goto (-14), 3) := by decide +kernel
theorem dX12_gcd_21 : decode cX12_gcd 21 = .ok (.iload_n 2, 1) := by decide +kernel
theorem dX12_gcd_22 : decode cX12_gcd 22 = .ok (.ireturn, 1) := by decide +kernel
theorem dX12_roundIs_0 : decode cX12_roundIs 0 = .ok (.iconst 1, 1) := by decide +kernel
theorem dX12_roundIs_1 : decode cX12_roundIs 1 = .ok (.istore_n 1, 1) := by decide +kernel
theorem dX12_roundIs_2 : decode cX12_roundIs 2 = .ok (.iconst 0, 1) := by decide +kernel
theorem dX12_roundIs_3 : decode cX12_roundIs 3 = .ok (.istore_n 2, 1) := by decide +kernel
theorem dX12_roundIs_4 : decode cX12_roundIs 4 = .ok (.iload_n 2, 1) := by decide +kernel
theorem dX12_roundIs_5 : decode cX12_roundIs 5 = .ok (.aload_n 0, 1) := by decide +kernel
theorem dX12_roundIs_6 : decode cX12_roundIs 6 = .ok (.getfield 153, 3) := by decide +kernel
theorem dX12_roundIs_9 : decode cX12_roundIs 9 = .ok (.if_icmp .ge 27, 3) := by decide +kernel
theorem dX12_roundIs_12 : decode cX12_roundIs 12 = .ok (.iload_n 1, 1) := by decide +kernel
theorem dX12_roundIs_13 : decode cX12_roundIs 13 = .ok (.iload_n 1, 1) := by decide +kernel
theorem dX12_roundIs_14 : decode cX12_roundIs 14 = .ok (.aload_n 0, 1) := by decide +kernel
theorem dX12_roundIs_15 : decode cX12_roundIs 15 = .ok (.iload_n 2, 1) := by decide +kernel
theorem dX12_roundIs_16 : decode cX12_roundIs 16 = .ok (.invokevirtual 384, 3) := by decide +kernel
theorem dX12_roundIs_19 : decode cX12_roundIs 19 = .ok (.invokestatic 399, 3) := by decide +kernel
theorem dX12_roundIs_22 : decode cX12_roundIs 22 = .ok (.idiv, 1) := by decide +kernel
theorem dX12_roundIs_23 : decode cX12_roundIs 23 = .ok (.aload_n 0, 1) := by decide +kernel
theorem dX12_roundIs_24 : decode cX12_roundIs 24 = .ok (.iload_n 2, 1) := by decide +kernel
theorem dX12_roundIs_25 : decode cX12_roundIs 25 = .ok (.invokevirtual 384, 3) := by decide +kernel
theorem dX12_roundIs_28 : decode cX12_roundIs 28 = .ok (.imul, 1) := by decide +kernel
theorem dX12_roundIs_29 : decode cX12_roundIs 29 = .ok (.istore_n 1, 1) := by decide +kernel
theorem dX12_roundIs_30 : decode cX12_roundIs 30 = .ok (.iinc 2 1, 3) := by decide +kernel
theorem dX12_roundIs_33 : decode cX12_roundIs 33 = .ok (.goto (-29), 3) := by decide +kernel
theorem dX12_roundIs_36 : decode cX12_roundIs 36 = .ok (.iload_n 1, 1) := by decide +kernel
theorem dX12_roundIs_37 : decode cX12_roundIs 37 = .ok (.ireturn, 1) := by decide +kernel
theorem dX12_isLeast_0 : decode cX12_isLeast 0 = .ok (.aload_n 0, 1) := by decide +kernel
theorem dX12_isLeast_1 : decode cX12_isLeast 1 = .ok (.getfield 13, 3) := by decide +kernel
theorem dX12_isLeast_4 : decode cX12_isLeast 4 = .ok (.iload_n 1, 1) := by decide +kernel
theorem dX12_isLeast_5 : decode cX12_isLeast 5 = .ok (.iaload, 1) := by decide +kernel
theorem dX12_isLeast_6 : decode cX12_isLeast 6 = .ok (.istore_n 2, 1) := by decide +kernel
theorem dX12_isLeast_7 : decode cX12_isLeast 7 = .ok (.iload_n 2, 1) := by decide +kernel
theorem dX12_isLeast_8 : decode cX12_isLeast 8 = .ok (.iload_n 1, 1) := by decide +kernel
theorem dX12_isLeast_9 : decode cX12_isLeast 9 = .ok (.if_icmp .eq 20, 3) := by decide +kernel
theorem dX12_isLeast_12 : decode cX12_isLeast 12 = .ok (.iload_n 2, 1) := by decide +kernel
theorem dX12_isLeast_13 : decode cX12_isLeast 13 = .ok (.iload_n 1, 1) := by decide +kernel
theorem dX12_isLeast_14 : decode cX12_isLeast 14 = .ok (.if_icmp .ge 5, 3) := by decide +kernel
theorem dX12_isLeast_17 : decode cX12_isLeast 17 = .ok (.iconst 0, 1) := by decide +kernel
theorem dX12_isLeast_18 : decode cX12_isLeast 18 = .ok (.ireturn, 1) := by decide +kernel
theorem dX12_isLeast_19 : decode cX12_isLeast 19 = .ok (.aload_n 0, 1) := by decide +kernel
theorem dX12_isLeast_20 : decode cX12_isLeast 20 = .ok (.getfield 13, 3) := by decide +kernel
theorem dX12_isLeast_23 : decode cX12_isLeast 23 = .ok (.iload_n 2, 1) := by decide +kernel
theorem dX12_isLeast_24 : decode cX12_isLeast 24 = .ok (.iaload, 1) := by decide +kernel
theorem dX12_isLeast_25 : decode cX12_isLeast 25 = .ok (.istore_n 2, 1) := by decide +kernel
theorem dX12_isLeast_26 : decode cX12_isLeast 26 = .ok (.goto (-19), 3) := by decide +kernel
theorem dX12_isLeast_29 : decode cX12_isLeast 29 = .ok (.iconst 1, 1) := by decide +kernel
theorem dX12_isLeast_30 : decode cX12_isLeast 30 = .ok (.ireturn, 1) := by decide +kernel
theorem dX12_round_0 : decode cX12_round 0 = .ok (.aload_n 0, 1) := by decide +kernel
theorem dX12_round_1 : decode cX12_round 1 = .ok (.iconst 0, 1) := by decide +kernel
theorem dX12_round_2 : decode cX12_round 2 = .ok (.putfield 157, 3) := by decide +kernel
theorem dX12_round_5 : decode cX12_round 5 = .ok (.iload_n 1, 1) := by decide +kernel
theorem dX12_round_6 : decode cX12_round 6 = .ok (.iconst 0, 1) := by decide +kernel
theorem dX12_round_7 : decode cX12_round 7 = .ok (.iconst 4, 1) := by decide +kernel
theorem dX12_round_8 : decode cX12_round 8 = .ok (.invokestatic 277, 3) := by decide +kernel
theorem dX12_round_11 : decode cX12_round 11 = .ok (.ifCond .ne 5, 3) := by decide +kernel
theorem dX12_round_14 : decode cX12_round 14 = .ok (.iconst (-1), 1) := by decide +kernel
theorem dX12_round_15 : decode cX12_round 15 = .ok (.ireturn, 1) := by decide +kernel
theorem dX12_round_16 : decode cX12_round 16 = .ok (.iconst 0, 1) := by decide +kernel
theorem dX12_round_17 : decode cX12_round 17 = .ok (.istore_n 2, 1) := by decide +kernel
theorem dX12_round_18 : decode cX12_round 18 = .ok (.iconst 0, 1) := by decide +kernel
theorem dX12_round_19 : decode cX12_round 19 = .ok (.istore_n 3, 1) := by decide +kernel
theorem dX12_round_20 : decode cX12_round 20 = .ok (.iconst 0, 1) := by decide +kernel
theorem dX12_round_21 : decode cX12_round 21 = .ok (.istore 4, 2) := by decide +kernel
theorem dX12_round_23 : decode cX12_round 23 = .ok (.iconst 0, 1) := by decide +kernel
theorem dX12_round_24 : decode cX12_round 24 = .ok (.istore 5, 2) := by decide +kernel
theorem dX12_round_26 : decode cX12_round 26 = .ok (.iload 5, 2) := by decide +kernel
theorem dX12_round_28 : decode cX12_round 28 = .ok (.aload_n 0, 1) := by decide +kernel
theorem dX12_round_29 : decode cX12_round 29 = .ok (.getfield 153, 3) := by decide +kernel
theorem dX12_round_32 : decode cX12_round 32 = .ok (.if_icmp .ge 59, 3) := by decide +kernel
theorem dX12_round_35 : decode cX12_round 35 = .ok (.iload_n 2, 1) := by decide +kernel
theorem dX12_round_36 : decode cX12_round 36 = .ok (.aload_n 0, 1) := by decide +kernel
theorem dX12_round_37 : decode cX12_round 37 = .ok (.iload 5, 2) := by decide +kernel
theorem dX12_round_39 : decode cX12_round 39 = .ok (.invokevirtual 403, 3) := by decide +kernel
theorem dX12_round_42 : decode cX12_round 42 = .ok (.ifCond .eq 7, 3) := by decide +kernel
theorem dX12_round_45 : decode cX12_round 45 = .ok (.iconst 1, 1) := by decide +kernel
theorem dX12_round_46 : decode cX12_round 46 = .ok (.goto 4, 3) := by decide +kernel
theorem dX12_round_49 : decode cX12_round 49 = .ok (.iconst 0, 1) := by decide +kernel
theorem dX12_round_50 : decode cX12_round 50 = .ok (.iadd, 1) := by decide +kernel
theorem dX12_round_51 : decode cX12_round 51 = .ok (.istore_n 2, 1) := by decide +kernel
theorem dX12_round_52 : decode cX12_round 52 = .ok (.iload_n 3, 1) := by decide +kernel
theorem dX12_round_53 : decode cX12_round 53 = .ok (.aload_n 0, 1) := by decide +kernel
theorem dX12_round_54 : decode cX12_round 54 = .ok (.iload 5, 2) := by decide +kernel
theorem dX12_round_56 : decode cX12_round 56 = .ok (.invokevirtual 384, 3) := by decide +kernel
theorem dX12_round_59 : decode cX12_round 59 = .ok (.invokestatic 406, 3) := by decide +kernel
theorem dX12_round_62 : decode cX12_round 62 = .ok (.istore_n 3, 1) := by decide +kernel
theorem dX12_round_63 : decode cX12_round 63 = .ok (.iload 4, 2) := by decide +kernel
theorem dX12_round_65 : decode cX12_round 65 = .ok (.aload_n 0, 1) := by decide +kernel
theorem dX12_round_66 : decode cX12_round 66 = .ok (.getfield 13, 3) := by decide +kernel
theorem dX12_round_69 : decode cX12_round 69 = .ok (.iload 5, 2) := by decide +kernel
theorem dX12_round_71 : decode cX12_round 71 = .ok (.iaload, 1) := by decide +kernel
theorem dX12_round_72 : decode cX12_round 72 = .ok (.iload 5, 2) := by decide +kernel
theorem dX12_round_74 : decode cX12_round 74 = .ok (.if_icmp .ne 7, 3) := by decide +kernel
theorem dX12_round_77 : decode cX12_round 77 = .ok (.iconst 1, 1) := by decide +kernel
theorem dX12_round_78 : decode cX12_round 78 = .ok (.goto 4, 3) := by decide +kernel
theorem dX12_round_81 : decode cX12_round 81 = .ok (.iconst 0, 1) := by decide +kernel
theorem dX12_round_82 : decode cX12_round 82 = .ok (.iadd, 1) := by decide +kernel
theorem dX12_round_83 : decode cX12_round 83 = .ok (.istore 4, 2) := by decide +kernel
theorem dX12_round_85 : decode cX12_round 85 = .ok (.iinc 5 1, 3) := by decide +kernel
theorem dX12_round_88 : decode cX12_round 88 = .ok (.goto (-62), 3) := by decide +kernel
theorem dX12_round_91 : decode cX12_round 91 = .ok (.iload_n 1, 1) := by decide +kernel
theorem dX12_round_92 : decode cX12_round 92 = .ok (.ifCond .ne 10, 3) := by decide +kernel
theorem dX12_round_95 : decode cX12_round 95 = .ok (.aload_n 0, 1) := by decide +kernel
theorem dX12_round_96 : decode cX12_round 96 = .ok (.invokevirtual 411, 3) := by decide +kernel
theorem dX12_round_99 : decode cX12_round 99 = .ok (.goto 39, 3) := by decide +kernel
theorem dX12_round_102 : decode cX12_round 102 = .ok (.iload_n 1, 1) := by decide +kernel
theorem dX12_round_103 : decode cX12_round 103 = .ok (.iconst 1, 1) := by decide +kernel
theorem dX12_round_104 : decode cX12_round 104 = .ok (.if_icmp .ne 7, 3) := by decide +kernel
theorem dX12_round_107 : decode cX12_round 107 = .ok (.iload_n 2, 1) := by decide +kernel
theorem dX12_round_108 : decode cX12_round 108 = .ok (.goto 30, 3) := by decide +kernel
theorem dX12_round_111 : decode cX12_round 111 = .ok (.iload_n 1, 1) := by decide +kernel
theorem dX12_round_112 : decode cX12_round 112 = .ok (.iconst 2, 1) := by decide +kernel
theorem dX12_round_113 : decode cX12_round 113 = .ok (.if_icmp .ne 7, 3) := by decide +kernel
theorem dX12_round_116 : decode cX12_round 116 = .ok (.iload_n 3, 1) := by decide +kernel
theorem dX12_round_117 : decode cX12_round 117 = .ok (.goto 21, 3) := by decide +kernel
theorem dX12_round_120 : decode cX12_round 120 = .ok (.iload_n 1, 1) := by decide +kernel
theorem dX12_round_121 : decode cX12_round 121 = .ok (.iconst 3, 1) := by decide +kernel
theorem dX12_round_122 : decode cX12_round 122 = .ok (.if_icmp .ne 8, 3) := by decide +kernel
theorem dX12_round_125 : decode cX12_round 125 = .ok (.iload 4, 2) := by decide +kernel
theorem dX12_round_127 : decode cX12_round 127 = .ok (.goto 11, 3) := by decide +kernel
theorem dX12_round_130 : decode cX12_round 130 = .ok (.aload_n 0, 1) := by decide +kernel
theorem dX12_round_131 : decode cX12_round 131 = .ok (.getfield 153, 3) := by decide +kernel
theorem dX12_round_134 : decode cX12_round 134 = .ok (.iload_n 2, 1) := by decide +kernel
theorem dX12_round_135 : decode cX12_round 135 = .ok (.isub, 1) := by decide +kernel
theorem dX12_round_136 : decode cX12_round 136 = .ok (.iconst 2, 1) := by decide +kernel
theorem dX12_round_137 : decode cX12_round 137 = .ok (.irem, 1) := by decide +kernel
theorem dX12_round_138 : decode cX12_round 138 = .ok (.ireturn, 1) := by decide +kernel
theorem dX12_roots_0 : decode cX12_roots 0 = .ok (.aload_n 0, 1) := by decide +kernel
theorem dX12_roots_1 : decode cX12_roots 1 = .ok (.iconst 0, 1) := by decide +kernel
theorem dX12_roots_2 : decode cX12_roots 2 = .ok (.putfield 157, 3) := by decide +kernel
theorem dX12_roots_5 : decode cX12_roots 5 = .ok (.lconst 1, 1) := by decide +kernel
theorem dX12_roots_6 : decode cX12_roots 6 = .ok (.lstore_n 1, 1) := by decide +kernel
theorem dX12_roots_7 : decode cX12_roots 7 = .ok (.iconst 1, 1) := by decide +kernel
theorem dX12_roots_8 : decode cX12_roots 8 = .ok (.istore_n 3, 1) := by decide +kernel
theorem dX12_roots_9 : decode cX12_roots 9 = .ok (.iload_n 3, 1) := by decide +kernel
theorem dX12_roots_10 : decode cX12_roots 10 = .ok (.aload_n 0, 1) := by decide +kernel
theorem dX12_roots_11 : decode cX12_roots 11 = .ok (.getfield 153, 3) := by decide +kernel
theorem dX12_roots_14 : decode cX12_roots 14 = .ok (.if_icmp .gt 68, 3) := by decide +kernel
theorem dX12_roots_17 : decode cX12_roots 17 = .ok (.iconst 0, 1) := by decide +kernel
theorem dX12_roots_18 : decode cX12_roots 18 = .ok (.istore 4, 2) := by decide +kernel
theorem dX12_roots_20 : decode cX12_roots 20 = .ok (.iconst 0, 1) := by decide +kernel
theorem dX12_roots_21 : decode cX12_roots 21 = .ok (.istore 5, 2) := by decide +kernel
theorem dX12_roots_23 : decode cX12_roots 23 = .ok (.iload 5, 2) := by decide +kernel
theorem dX12_roots_25 : decode cX12_roots 25 = .ok (.aload_n 0, 1) := by decide +kernel
theorem dX12_roots_26 : decode cX12_roots 26 = .ok (.getfield 153, 3) := by decide +kernel
theorem dX12_roots_29 : decode cX12_roots 29 = .ok (.if_icmp .ge 38, 3) := by decide +kernel
theorem dX12_roots_32 : decode cX12_roots 32 = .ok (.iload 4, 2) := by decide +kernel
theorem dX12_roots_34 : decode cX12_roots 34 = .ok (.aload_n 0, 1) := by decide +kernel
theorem dX12_roots_35 : decode cX12_roots 35 = .ok (.iload 5, 2) := by decide +kernel
theorem dX12_roots_37 : decode cX12_roots 37 = .ok (.invokevirtual 403, 3) := by decide +kernel
theorem dX12_roots_40 : decode cX12_roots 40 = .ok (.ifCond .eq 17, 3) := by decide +kernel
theorem dX12_roots_43 : decode cX12_roots 43 = .ok (.aload_n 0, 1) := by decide +kernel
theorem dX12_roots_44 : decode cX12_roots 44 = .ok (.iload 5, 2) := by decide +kernel
theorem dX12_roots_46 : decode cX12_roots 46 = .ok (.invokevirtual 384, 3) := by decide +kernel
theorem dX12_roots_49 : decode cX12_roots 49 = .ok (.iload_n 3, 1) := by decide +kernel
theorem dX12_roots_50 : decode cX12_roots 50 = .ok (.if_icmp .ne 7, 3) := by decide +kernel
theorem dX12_roots_53 : decode cX12_roots 53 = .ok (.iconst 1, 1) := by decide +kernel
theorem dX12_roots_54 : decode cX12_roots 54 = .ok (.goto 4, 3) := by decide +kernel
theorem dX12_roots_57 : decode cX12_roots 57 = .ok (.iconst 0, 1) := by decide +kernel
theorem dX12_roots_58 : decode cX12_roots 58 = .ok (.iadd, 1) := by decide +kernel
theorem dX12_roots_59 : decode cX12_roots 59 = .ok (.istore 4, 2) := by decide +kernel
theorem dX12_roots_61 : decode cX12_roots 61 = .ok (.iinc 5 1, 3) := by decide +kernel
theorem dX12_roots_64 : decode cX12_roots 64 = .ok (.goto (-41), 3) := by decide +kernel
theorem dX12_roots_67 : decode cX12_roots 67 = .ok (.lload_n 1, 1) := by decide +kernel
theorem dX12_roots_68 : decode cX12_roots 68 = .ok (.iload_n 3, 1) := by decide +kernel
theorem dX12_roots_69 : decode cX12_roots 69 = .ok (.iload 4, 2) := by decide +kernel
theorem dX12_roots_71 : decode cX12_roots 71 = .ok (.invokestatic 414, 3) := by decide +kernel
theorem dX12_roots_74 : decode cX12_roots 74 = .ok (.lmul, 1) := by decide +kernel
theorem dX12_roots_75 : decode cX12_roots 75 = .ok (.lstore_n 1, 1) := by decide +kernel
theorem dX12_roots_76 : decode cX12_roots 76 = .ok (.iinc 3 1, 3) := by decide +kernel
theorem dX12_roots_79 : decode cX12_roots 79 = .ok (.goto (-70), 3) := by decide +kernel
theorem dX12_roots_82 : decode cX12_roots 82 = .ok (.lload_n 1, 1) := by decide +kernel
theorem dX12_roots_83 : decode cX12_roots 83 = .ok (.lreturn, 1) := by decide +kernel
theorem dX12_rootsOf_0 : decode cX12_rootsOf 0 = .ok (.iload_n 1, 1) := by decide +kernel
theorem dX12_rootsOf_1 : decode cX12_rootsOf 1 = .ok (.ifCond .ne 5, 3) := by decide +kernel
theorem dX12_rootsOf_4 : decode cX12_rootsOf 4 = .ok (.lconst 1, 1) := by decide +kernel
theorem dX12_rootsOf_5 : decode cX12_rootsOf 5 = .ok (.lreturn, 1) := by decide +kernel
theorem dX12_rootsOf_6 : decode cX12_rootsOf 6 = .ok (.iload_n 0, 1) := by decide +kernel
theorem dX12_rootsOf_7 : decode cX12_rootsOf 7 = .ok (.iconst 2, 1) := by decide +kernel
theorem dX12_rootsOf_8 : decode cX12_rootsOf 8 = .ok (.irem, 1) := by decide +kernel
theorem dX12_rootsOf_9 : decode cX12_rootsOf 9 = .ok (.iconst 1, 1) := by decide +kernel
theorem dX12_rootsOf_10 : decode cX12_rootsOf 10 = .ok (.if_icmp .ne 13, 3) := by decide +kernel
theorem dX12_rootsOf_13 : decode cX12_rootsOf 13 = .ok (.iload_n 0, 1) := by decide +kernel
theorem dX12_rootsOf_14 : decode cX12_rootsOf 14 = .ok (.iload_n 1, 1) := by decide +kernel
theorem dX12_rootsOf_15 : decode cX12_rootsOf 15 = .ok (.iconst 1, 1) := by decide +kernel
theorem dX12_rootsOf_16 : decode cX12_rootsOf 16 = .ok (.isub, 1) := by decide +kernel
theorem dX12_rootsOf_17 : decode cX12_rootsOf 17 = .ok (.invokestatic 414, 3) := by decide +kernel
theorem dX12_rootsOf_20 : decode cX12_rootsOf 20 = .ok (.goto 4, 3) := by decide +kernel
theorem dX12_rootsOf_23 : decode cX12_rootsOf 23 = .ok (.lconst 0, 1) := by decide +kernel
theorem dX12_rootsOf_24 : decode cX12_rootsOf 24 = .ok (.lstore_n 2, 1) := by decide +kernel
theorem dX12_rootsOf_25 : decode cX12_rootsOf 25 = .ok (.iload_n 1, 1) := by decide +kernel
theorem dX12_rootsOf_26 : decode cX12_rootsOf 26 = .ok (.iconst 2, 1) := by decide +kernel
theorem dX12_rootsOf_27 : decode cX12_rootsOf 27 = .ok (.if_icmp .ge 7, 3) := by decide +kernel
theorem dX12_rootsOf_30 : decode cX12_rootsOf 30 = .ok (.lload_n 2, 1) := by decide +kernel
theorem dX12_rootsOf_31 : decode cX12_rootsOf 31 = .ok (.goto 20, 3) := by decide +kernel
theorem dX12_rootsOf_34 : decode cX12_rootsOf 34 = .ok (.lload_n 2, 1) := by decide +kernel
theorem dX12_rootsOf_35 : decode cX12_rootsOf 35 = .ok (.iload_n 1, 1) := by decide +kernel
theorem dX12_rootsOf_36 : decode cX12_rootsOf 36 = .ok (.iconst 1, 1) := by decide +kernel
theorem dX12_rootsOf_37 : decode cX12_rootsOf 37 = .ok (.isub, 1) := by decide +kernel
theorem dX12_rootsOf_38 : decode cX12_rootsOf 38 = .ok (.i2l, 1) := by decide +kernel
theorem dX12_rootsOf_39 : decode cX12_rootsOf 39 = .ok (.iload_n 0, 1) := by decide +kernel
theorem dX12_rootsOf_40 : decode cX12_rootsOf 40 = .ok (.i2l, 1) := by decide +kernel
theorem dX12_rootsOf_41 : decode cX12_rootsOf 41 = .ok (.lmul, 1) := by decide +kernel
theorem dX12_rootsOf_42 : decode cX12_rootsOf 42 = .ok (.iload_n 0, 1) := by decide +kernel
theorem dX12_rootsOf_43 : decode cX12_rootsOf 43 = .ok (.iload_n 1, 1) := by decide +kernel
theorem dX12_rootsOf_44 : decode cX12_rootsOf 44 = .ok (.iconst 2, 1) := by decide +kernel
theorem dX12_rootsOf_45 : decode cX12_rootsOf 45 = .ok (.isub, 1) := by decide +kernel
theorem dX12_rootsOf_46 : decode cX12_rootsOf 46 = .ok (.invokestatic 414, 3) := by decide +kernel
theorem dX12_rootsOf_49 : decode cX12_rootsOf 49 = .ok (.lmul, 1) := by decide +kernel
theorem dX12_rootsOf_50 : decode cX12_rootsOf 50 = .ok (.ladd, 1) := by decide +kernel
theorem dX12_rootsOf_51 : decode cX12_rootsOf 51 = .ok (.lreturn, 1) := by decide +kernel
theorem dX12_spiral_0 : decode cX12_spiral 0 = .ok (.aload_n 0, 1) := by decide +kernel
theorem dX12_spiral_1 : decode cX12_spiral 1 = .ok (.iconst 0, 1) := by decide +kernel
theorem dX12_spiral_2 : decode cX12_spiral 2 = .ok (.putfield 157, 3) := by decide +kernel
theorem dX12_spiral_5 : decode cX12_spiral 5 = .ok (.iload_n 1, 1) := by decide +kernel
theorem dX12_spiral_6 : decode cX12_spiral 6 = .ok (.iconst 1, 1) := by decide +kernel
theorem dX12_spiral_7 : decode cX12_spiral 7 = .ok (.sipush 200, 3) := by decide +kernel
theorem dX12_spiral_10 : decode cX12_spiral 10 = .ok (.invokestatic 277, 3) := by decide +kernel
theorem dX12_spiral_13 : decode cX12_spiral 13 = .ok (.ifCond .eq 12, 3) := by decide +kernel
theorem dX12_spiral_16 : decode cX12_spiral 16 = .ok (.iload_n 2, 1) := by decide +kernel
theorem dX12_spiral_17 : decode cX12_spiral 17 = .ok (.iconst 0, 1) := by decide +kernel
theorem dX12_spiral_18 : decode cX12_spiral 18 = .ok (.iconst 2, 1) := by decide +kernel
theorem dX12_spiral_19 : decode cX12_spiral 19 = .ok (.invokestatic 277, 3) := by decide +kernel
theorem dX12_spiral_22 : decode cX12_spiral 22 = .ok (.ifCond .ne 5, 3) := by decide +kernel
theorem dX12_spiral_25 : decode cX12_spiral 25 = .ok (.iconst (-1), 1) := by decide +kernel
theorem dX12_spiral_26 : decode cX12_spiral 26 = .ok (.ireturn, 1) := by decide +kernel
theorem dX12_spiral_27 : decode cX12_spiral 27 = .ok (.iconst 0, 1) := by decide +kernel
theorem dX12_spiral_28 : decode cX12_spiral 28 = .ok (.istore_n 3, 1) := by decide +kernel
theorem dX12_spiral_29 : decode cX12_spiral 29 = .ok (.iconst 0, 1) := by decide +kernel
theorem dX12_spiral_30 : decode cX12_spiral 30 = .ok (.istore 4, 2) := by decide +kernel
theorem dX12_spiral_32 : decode cX12_spiral 32 = .ok (.iconst 0, 1) := by decide +kernel
theorem dX12_spiral_33 : decode cX12_spiral 33 = .ok (.istore 5, 2) := by decide +kernel
theorem dX12_spiral_35 : decode cX12_spiral 35 = .ok (.iload 5, 2) := by decide +kernel
theorem dX12_spiral_37 : decode cX12_spiral 37 = .ok (.sipush 200, 3) := by decide +kernel
theorem dX12_spiral_40 : decode cX12_spiral 40 = .ok (.if_icmp .gt 17, 3) := by decide +kernel
theorem dX12_spiral_43 : decode cX12_spiral 43 = .ok (.aload_n 0, 1) := by decide +kernel
theorem dX12_spiral_44 : decode cX12_spiral 44 = .ok (.getfield 117, 3) := by decide +kernel
theorem dX12_spiral_47 : decode cX12_spiral 47 = .ok (.iload 5, 2) := by decide +kernel
theorem dX12_spiral_49 : decode cX12_spiral 49 = .ok (.iconst 1, 1) := by decide +kernel
theorem dX12_spiral_50 : decode cX12_spiral 50 = .ok (.iastore, 1) := by decide +kernel
theorem dX12_spiral_51 : decode cX12_spiral 51 = .ok (.iinc 5 1, 3) := by decide +kernel
theorem dX12_spiral_54 : decode cX12_spiral 54 = .ok (.goto (-19), 3) := by decide +kernel
theorem dX12_spiral_57 : decode cX12_spiral 57 = .ok (.iconst 0, 1) := by decide +kernel
theorem dX12_spiral_58 : decode cX12_spiral 58 = .ok (.istore 5, 2) := by decide +kernel
theorem dX12_spiral_60 : decode cX12_spiral 60 = .ok (.iload 5, 2) := by decide +kernel
theorem dX12_spiral_62 : decode cX12_spiral 62 = .ok (.sipush 200, 3) := by decide +kernel
theorem dX12_spiral_65 : decode cX12_spiral 65 = .ok (.if_icmp .ge 17, 3) := by decide +kernel
theorem dX12_spiral_68 : decode cX12_spiral 68 = .ok (.aload_n 0, 1) := by decide +kernel
theorem dX12_spiral_69 : decode cX12_spiral 69 = .ok (.getfield 114, 3) := by decide +kernel
theorem dX12_spiral_72 : decode cX12_spiral 72 = .ok (.iload 5, 2) := by decide +kernel
theorem dX12_spiral_74 : decode cX12_spiral 74 = .ok (.iconst 0, 1) := by decide +kernel
theorem dX12_spiral_75 : decode cX12_spiral 75 = .ok (.bastore, 1) := by decide +kernel
theorem dX12_spiral_76 : decode cX12_spiral 76 = .ok (.iinc 5 1, 3) := by decide +kernel
theorem dX12_spiral_79 : decode cX12_spiral 79 = .ok (.goto (-19), 3) := by decide +kernel
theorem dX12_spiral_82 : decode cX12_spiral 82 = .ok (.iconst 0, 1) := by decide +kernel
theorem dX12_spiral_83 : decode cX12_spiral 83 = .ok (.istore 5, 2) := by decide +kernel
theorem dX12_spiral_85 : decode cX12_spiral 85 = .ok (.iload 5, 2) := by decide +kernel
theorem dX12_spiral_87 : decode cX12_spiral 87 = .ok (.iload_n 1, 1) := by decide +kernel
theorem dX12_spiral_88 : decode cX12_spiral 88 = .ok (.if_icmp .ge 146, 3) := by decide +kernel
theorem dX12_spiral_91 : decode cX12_spiral 91 = .ok (.iconst 0, 1) := by decide +kernel
theorem dX12_spiral_92 : decode cX12_spiral 92 = .ok (.istore 6, 2) := by decide +kernel
theorem dX12_spiral_94 : decode cX12_spiral 94 = .ok (.iload 5, 2) := by decide +kernel
theorem dX12_spiral_96 : decode cX12_spiral 96 = .ok (.istore 7, 2) := by decide +kernel
theorem dX12_spiral_98 : decode cX12_spiral 98 = .ok (.aload_n 0, 1) := by decide +kernel
theorem dX12_spiral_99 : decode cX12_spiral 99 = .ok (.getfield 114, 3) := by decide +kernel
theorem dX12_spiral_102 : decode cX12_spiral 102 = .ok (.iload 7, 2) := by decide +kernel
theorem dX12_spiral_104 : decode cX12_spiral 104 = .ok (.baload, 1) := by decide +kernel
theorem dX12_spiral_105 : decode cX12_spiral 105 = .ok (.ifCond .ne 41, 3) := by decide +kernel
theorem dX12_spiral_108 : decode cX12_spiral 108 = .ok (.aload_n 0, 1) := by decide +kernel
theorem dX12_spiral_109 : decode cX12_spiral 109 = .ok (.getfield 114, 3) := by decide +kernel
theorem dX12_spiral_112 : decode cX12_spiral 112 = .ok (.iload 7, 2) := by decide +kernel
theorem dX12_spiral_114 : decode cX12_spiral 114 = .ok (.iconst 1, 1) := by decide +kernel
theorem dX12_spiral_115 : decode cX12_spiral 115 = .ok (.bastore, 1) := by decide +kernel
theorem dX12_spiral_116 : decode cX12_spiral 116 = .ok (.iinc 6 1, 3) := by decide +kernel
theorem dX12_spiral_119 : decode cX12_spiral 119 = .ok (.iload 7, 2) := by decide +kernel
theorem dX12_spiral_121 : decode cX12_spiral 121 = .ok (.iconst 2, 1) := by decide +kernel
theorem dX12_spiral_122 : decode cX12_spiral 122 = .ok (.irem, 1) := by decide +kernel
theorem dX12_spiral_123 : decode cX12_spiral 123 = .ok (.ifCond .ne 14, 3) := by decide +kernel
theorem dX12_spiral_126 : decode cX12_spiral 126 = .ok (.iload_n 1, 1) := by decide +kernel
theorem dX12_spiral_127 : decode cX12_spiral 127 = .ok (.iconst 1, 1) := by decide +kernel
theorem dX12_spiral_128 : decode cX12_spiral 128 = .ok (.isub, 1) := by decide +kernel
theorem dX12_spiral_129 : decode cX12_spiral 129 = .ok (.iload 7, 2) := by decide +kernel
theorem dX12_spiral_131 : decode cX12_spiral 131 = .ok (.iconst 2, 1) := by decide +kernel
theorem dX12_spiral_132 : decode cX12_spiral 132 = .ok (.idiv, 1) := by decide +kernel
theorem dX12_spiral_133 : decode cX12_spiral 133 = .ok (.isub, 1) := by decide +kernel
theorem dX12_spiral_134 : decode cX12_spiral 134 = .ok (.goto 7, 3) := by decide +kernel
theorem dX12_spiral_137 : decode cX12_spiral 137 = .ok (.iload 7, 2) := by decide +kernel
theorem dX12_spiral_139 : decode cX12_spiral 139 = .ok (.iconst 2, 1) := by decide +kernel
theorem dX12_spiral_140 : decode cX12_spiral 140 = .ok (.idiv, 1) := by decide +kernel
theorem dX12_spiral_141 : decode cX12_spiral 141 = .ok (.istore 7, 2) := by decide +kernel
theorem dX12_spiral_143 : decode cX12_spiral 143 = .ok (.goto (-45), 3) := by decide +kernel
theorem dX12_spiral_146 : decode cX12_spiral 146 = .ok (.iload 6, 2) := by decide +kernel
theorem dX12_spiral_148 : decode cX12_spiral 148 = .ok (.ifCond .ne 6, 3) := by decide +kernel
theorem dX12_spiral_151 : decode cX12_spiral 151 = .ok (.goto 77, 3) := by decide +kernel
theorem dX12_spiral_154 : decode cX12_spiral 154 = .ok (.iinc 3 1, 3) := by decide +kernel
theorem dX12_spiral_157 : decode cX12_spiral 157 = .ok (.iload 4, 2) := by decide +kernel
theorem dX12_spiral_159 : decode cX12_spiral 159 = .ok (.iload 6, 2) := by decide +kernel
theorem dX12_spiral_161 : decode cX12_spiral 161 = .ok (.invokestatic 406, 3) := by decide +kernel
theorem dX12_spiral_164 : decode cX12_spiral 164 = .ok (.istore 4, 2) := by decide +kernel
theorem dX12_spiral_166 : decode cX12_spiral 166 = .ok (.iconst 2, 1) := by decide +kernel
theorem dX12_spiral_167 : decode cX12_spiral 167 = .ok (.istore 7, 2) := by decide +kernel
theorem dX12_spiral_169 : decode cX12_spiral 169 = .ok (.iload 6, 2) := by decide +kernel
theorem dX12_spiral_171 : decode cX12_spiral 171 = .ok (.iconst 1, 1) := by decide +kernel
theorem dX12_spiral_172 : decode cX12_spiral 172 = .ok (.if_icmp .le 56, 3) := by decide +kernel
theorem dX12_spiral_175 : decode cX12_spiral 175 = .ok (.iconst 1, 1) := by decide +kernel
theorem dX12_spiral_176 : decode cX12_spiral 176 = .ok (.istore 8, 2) := by decide +kernel
theorem dX12_spiral_178 : decode cX12_spiral 178 = .ok (.iload 6, 2) := by decide +kernel
theorem dX12_spiral_180 : decode cX12_spiral 180 = .ok (.iload 7, 2) := by decide +kernel
theorem dX12_spiral_182 : decode cX12_spiral 182 = .ok (.irem, 1) := by decide +kernel
theorem dX12_spiral_183 : decode cX12_spiral 183 = .ok (.ifCond .ne 20, 3) := by decide +kernel
theorem dX12_spiral_186 : decode cX12_spiral 186 = .ok (.iload 6, 2) := by decide +kernel
theorem dX12_spiral_188 : decode cX12_spiral 188 = .ok (.iload 7, 2) := by decide +kernel
theorem dX12_spiral_190 : decode cX12_spiral 190 = .ok (.idiv, 1) := by decide +kernel
theorem dX12_spiral_191 : decode cX12_spiral 191 = .ok (.istore 6, 2) := by decide +kernel
theorem dX12_spiral_193 : decode cX12_spiral 193 = .ok (.iload 8, 2) := by decide +kernel
theorem dX12_spiral_195 : decode cX12_spiral 195 = .ok (.iload 7, 2) := by decide +kernel
theorem dX12_spiral_197 : decode cX12_spiral 197 = .ok (.imul, 1) := by decide +kernel
theorem dX12_spiral_198 : decode cX12_spiral 198 = .ok (.istore 8, 2) := by decide +kernel
theorem dX12_spiral_200 : decode cX12_spiral 200 = .ok (.goto (-22), 3) := by decide +kernel
theorem dX12_spiral_203 : decode cX12_spiral 203 = .ok (.aload_n 0, 1) := by decide +kernel
theorem dX12_spiral_204 : decode cX12_spiral 204 = .ok (.getfield 117, 3) := by decide +kernel
theorem dX12_spiral_207 : decode cX12_spiral 207 = .ok (.iload 7, 2) := by decide +kernel
theorem dX12_spiral_209 : decode cX12_spiral 209 = .ok (.aload_n 0, 1) := by decide +kernel
theorem dX12_spiral_210 : decode cX12_spiral 210 = .ok (.getfield 117, 3) := by decide +kernel
theorem dX12_spiral_213 : decode cX12_spiral 213 = .ok (.iload 7, 2) := by decide +kernel
theorem dX12_spiral_215 : decode cX12_spiral 215 = .ok (.iaload, 1) := by decide +kernel
theorem dX12_spiral_216 : decode cX12_spiral 216 = .ok (.iload 8, 2) := by decide +kernel
theorem dX12_spiral_218 : decode cX12_spiral 218 = .ok (.invokestatic 406, 3) := by decide +kernel
theorem dX12_spiral_221 : decode cX12_spiral 221 = .ok (.iastore, 1) := by decide +kernel
theorem dX12_spiral_222 : decode cX12_spiral 222 = .ok (.iinc 7 1, 3) := by decide +kernel
theorem dX12_spiral_225 : decode cX12_spiral 225 = .ok (.goto (-56), 3) := by decide +kernel
theorem dX12_spiral_228 : decode cX12_spiral 228 = .ok (.iinc 5 1, 3) := by decide +kernel
theorem dX12_spiral_231 : decode cX12_spiral 231 = .ok (.goto (-146), 3) := by decide +kernel
theorem dX12_spiral_234 : decode cX12_spiral 234 = .ok (.iload_n 2, 1) := by decide +kernel
theorem dX12_spiral_235 : decode cX12_spiral 235 = .ok (.iconst 2, 1) := by decide +kernel
theorem dX12_spiral_236 : decode cX12_spiral 236 = .ok (.if_icmp .ge 14, 3) := by decide +kernel
theorem dX12_spiral_239 : decode cX12_spiral 239 = .ok (.iload_n 2, 1) := by decide +kernel
theorem dX12_spiral_240 : decode cX12_spiral 240 = .ok (.ifCond .ne 7, 3) := by decide +kernel
theorem dX12_spiral_243 : decode cX12_spiral 243 = .ok (.iload_n 3, 1) := by decide +kernel
theorem dX12_spiral_244 : decode cX12_spiral 244 = .ok (.goto 5, 3) := by decide +kernel
theorem dX12_spiral_247 : decode cX12_spiral 247 = .ok (.iload 4, 2) := by decide +kernel
theorem dX12_spiral_249 : decode cX12_spiral 249 = .ok (.ireturn, 1) := by decide +kernel
theorem dX12_spiral_250 : decode cX12_spiral 250 = .ok (.lconst 1, 1) := by decide +kernel
theorem dX12_spiral_251 : decode cX12_spiral 251 = .ok (.lstore 5, 2) := by decide +kernel
theorem dX12_spiral_253 : decode cX12_spiral 253 = .ok (.iconst 2, 1) := by decide +kernel
theorem dX12_spiral_254 : decode cX12_spiral 254 = .ok (.istore 7, 2) := by decide +kernel
theorem dX12_spiral_256 : decode cX12_spiral 256 = .ok (.iload 7, 2) := by decide +kernel
theorem dX12_spiral_258 : decode cX12_spiral 258 = .ok (.sipush 200, 3) := by decide +kernel
theorem dX12_spiral_261 : decode cX12_spiral 261 = .ok (.if_icmp .gt 26, 3) := by decide +kernel
theorem dX12_spiral_264 : decode cX12_spiral 264 = .ok (.lload 5, 2) := by decide +kernel
theorem dX12_spiral_266 : decode cX12_spiral 266 = .ok (.aload_n 0, 1) := by decide +kernel
theorem dX12_spiral_267 : decode cX12_spiral 267 = .ok (.getfield 117, 3) := by decide +kernel
theorem dX12_spiral_270 : decode cX12_spiral 270 = .ok (.iload 7, 2) := by decide +kernel
theorem dX12_spiral_272 : decode cX12_spiral 272 = .ok (.iaload, 1) := by decide +kernel
theorem dX12_spiral_273 : decode cX12_spiral 273 = .ok (.i2l, 1) := by decide +kernel
theorem dX12_spiral_274 : decode cX12_spiral 274 = .ok (.lmul, 1) := by decide +kernel
theorem dX12_spiral_275 : decode cX12_spiral 275 = .ok (.ldc2_w 418, 3) := by decide +kernel
theorem dX12_spiral_278 : decode cX12_spiral 278 = .ok (.lrem, 1) := by decide +kernel
theorem dX12_spiral_279 : decode cX12_spiral 279 = .ok (.lstore 5, 2) := by decide +kernel
theorem dX12_spiral_281 : decode cX12_spiral 281 = .ok (.iinc 7 1, 3) := by decide +kernel
theorem dX12_spiral_284 : decode cX12_spiral 284 = .ok (.goto (-28), 3) := by decide +kernel
theorem dX12_spiral_287 : decode cX12_spiral 287 = .ok (.lload 5, 2) := by decide +kernel
theorem dX12_spiral_289 : decode cX12_spiral 289 = .ok (.l2i, 1) := by decide +kernel
theorem dX12_spiral_290 : decode cX12_spiral 290 = .ok (.ireturn, 1) := by decide +kernel
theorem dX12_classes_0 : decode cX12_classes 0 = .ok (.iconst 0, 1) := by decide +kernel
theorem dX12_classes_1 : decode cX12_classes 1 = .ok (.istore_n 1, 1) := by decide +kernel
theorem dX12_classes_2 : decode cX12_classes 2 = .ok (.iload_n 1, 1) := by decide +kernel
theorem dX12_classes_3 : decode cX12_classes 3 = .ok (.bipush 12, 2) := by decide +kernel
theorem dX12_classes_5 : decode cX12_classes 5 = .ok (.if_icmp .ge 16, 3) := by decide +kernel
theorem dX12_classes_8 : decode cX12_classes 8 = .ok (.aload_n 0, 1) := by decide +kernel
theorem dX12_classes_9 : decode cX12_classes 9 = .ok (.getfield 120, 3) := by decide +kernel
theorem dX12_classes_12 : decode cX12_classes 12 = .ok (.iload_n 1, 1) := by decide +kernel
theorem dX12_classes_13 : decode cX12_classes 13 = .ok (.iload_n 1, 1) := by decide +kernel
theorem dX12_classes_14 : decode cX12_classes 14 = .ok (.iastore, 1) := by decide +kernel
theorem dX12_classes_15 : decode cX12_classes 15 = .ok (.iinc 1 1, 3) := by decide +kernel
theorem dX12_classes_18 : decode cX12_classes 18 = .ok (.goto (-16), 3) := by decide +kernel
theorem dX12_classes_21 : decode cX12_classes 21 = .ok (.aload_n 0, 1) := by decide +kernel
theorem dX12_classes_22 : decode cX12_classes 22 = .ok (.invokevirtual 411, 3) := by decide +kernel
theorem dX12_classes_25 : decode cX12_classes 25 = .ok (.istore_n 1, 1) := by decide +kernel
theorem dX12_classes_26 : decode cX12_classes 26 = .ok (.iconst 0, 1) := by decide +kernel
theorem dX12_classes_27 : decode cX12_classes 27 = .ok (.istore_n 2, 1) := by decide +kernel
theorem dX12_classes_28 : decode cX12_classes 28 = .ok (.iload_n 2, 1) := by decide +kernel
theorem dX12_classes_29 : decode cX12_classes 29 = .ok (.iload_n 1, 1) := by decide +kernel
theorem dX12_classes_30 : decode cX12_classes 30 = .ok (.if_icmp .ge 122, 3) := by decide +kernel
theorem dX12_classes_33 : decode cX12_classes 33 = .ok (.iconst 0, 1) := by decide +kernel
theorem dX12_classes_34 : decode cX12_classes 34 = .ok (.istore_n 3, 1) := by decide +kernel
theorem dX12_classes_35 : decode cX12_classes 35 = .ok (.iload_n 3, 1) := by decide +kernel
theorem dX12_classes_36 : decode cX12_classes 36 = .ok (.aload_n 0, 1) := by decide +kernel
theorem dX12_classes_37 : decode cX12_classes 37 = .ok (.getfield 355, 3) := by decide +kernel
theorem dX12_classes_40 : decode cX12_classes 40 = .ok (.if_icmp .ge 106, 3) := by decide +kernel
theorem dX12_classes_43 : decode cX12_classes 43 = .ok (.aload_n 0, 1) := by decide +kernel
theorem dX12_classes_44 : decode cX12_classes 44 = .ok (.getfield 120, 3) := by decide +kernel
theorem dX12_classes_47 : decode cX12_classes 47 = .ok (.aload_n 0, 1) := by decide +kernel
theorem dX12_classes_48 : decode cX12_classes 48 = .ok (.iload_n 2, 1) := by decide +kernel
theorem dX12_classes_49 : decode cX12_classes 49 = .ok (.i2l, 1) := by decide +kernel
theorem dX12_classes_50 : decode cX12_classes 50 = .ok (.aload_n 0, 1) := by decide +kernel
theorem dX12_classes_51 : decode cX12_classes 51 = .ok (.getfield 16, 3) := by decide +kernel
theorem dX12_classes_54 : decode cX12_classes 54 = .ok (.iload_n 3, 1) := by decide +kernel
theorem dX12_classes_55 : decode cX12_classes 55 = .ok (.iaload, 1) := by decide +kernel
theorem dX12_classes_56 : decode cX12_classes 56 = .ok (.invokevirtual 389, 3) := by decide +kernel
theorem dX12_classes_59 : decode cX12_classes 59 = .ok (.iaload, 1) := by decide +kernel
theorem dX12_classes_60 : decode cX12_classes 60 = .ok (.istore 4, 2) := by decide +kernel
theorem dX12_classes_62 : decode cX12_classes 62 = .ok (.aload_n 0, 1) := by decide +kernel
theorem dX12_classes_63 : decode cX12_classes 63 = .ok (.getfield 120, 3) := by decide +kernel
theorem dX12_classes_66 : decode cX12_classes 66 = .ok (.aload_n 0, 1) := by decide +kernel
theorem dX12_classes_67 : decode cX12_classes 67 = .ok (.iload_n 2, 1) := by decide +kernel
theorem dX12_classes_68 : decode cX12_classes 68 = .ok (.i2l, 1) := by decide +kernel
theorem dX12_classes_69 : decode cX12_classes 69 = .ok (.aload_n 0, 1) := by decide +kernel
theorem dX12_classes_70 : decode cX12_classes 70 = .ok (.getfield 19, 3) := by decide +kernel
theorem dX12_classes_73 : decode cX12_classes 73 = .ok (.iload_n 3, 1) := by decide +kernel
theorem dX12_classes_74 : decode cX12_classes 74 = .ok (.iaload, 1) := by decide +kernel
theorem dX12_classes_75 : decode cX12_classes 75 = .ok (.invokevirtual 389, 3) := by decide +kernel
theorem dX12_classes_78 : decode cX12_classes 78 = .ok (.iaload, 1) := by decide +kernel
theorem dX12_classes_79 : decode cX12_classes 79 = .ok (.istore 5, 2) := by decide +kernel
theorem dX12_classes_81 : decode cX12_classes 81 = .ok (.iconst 0, 1) := by decide +kernel
theorem dX12_classes_82 : decode cX12_classes 82 = .ok (.istore 6, 2) := by decide +kernel
theorem dX12_classes_84 : decode cX12_classes 84 = .ok (.iload 6, 2) := by decide +kernel
theorem dX12_classes_86 : decode cX12_classes 86 = .ok (.aload_n 0, 1) := by decide +kernel
theorem dX12_classes_87 : decode cX12_classes 87 = .ok (.getfield 153, 3) := by decide +kernel
theorem dX12_classes_90 : decode cX12_classes 90 = .ok (.if_icmp .ge 50, 3) := by decide +kernel
theorem dX12_classes_93 : decode cX12_classes 93 = .ok (.aload_n 0, 1) := by decide +kernel
theorem dX12_classes_94 : decode cX12_classes 94 = .ok (.getfield 120, 3) := by decide +kernel
theorem dX12_classes_97 : decode cX12_classes 97 = .ok (.iload 6, 2) := by decide +kernel
theorem dX12_classes_99 : decode cX12_classes 99 = .ok (.aload_n 0, 1) := by decide +kernel
theorem dX12_classes_100 : decode cX12_classes 100 = .ok (.getfield 120, 3) := by decide +kernel
theorem dX12_classes_103 : decode cX12_classes 103 = .ok (.iload 6, 2) := by decide +kernel
theorem dX12_classes_105 : decode cX12_classes 105 = .ok (.iaload, 1) := by decide +kernel
theorem dX12_classes_106 : decode cX12_classes 106 = .ok (.iload 4, 2) := by decide +kernel
theorem dX12_classes_108 : decode cX12_classes 108 = .ok (.iload 5, 2) := by decide +kernel
theorem dX12_classes_110 : decode cX12_classes 110 = .ok (.invokestatic 406, 3) := by decide +kernel
theorem dX12_classes_113 : decode cX12_classes 113 = .ok (.if_icmp .ne 13, 3) := by decide +kernel
theorem dX12_classes_116 : decode cX12_classes 116 = .ok (.iload 4, 2) := by decide +kernel
theorem dX12_classes_118 : decode cX12_classes 118 = .ok (.iload 5, 2) := by decide +kernel
theorem dX12_classes_120 : decode cX12_classes 120 = .ok (.invokestatic 420, 3) := by decide +kernel
theorem dX12_classes_123 : decode cX12_classes 123 = .ok (.goto 10, 3) := by decide +kernel
theorem dX12_classes_126 : decode cX12_classes 126 = .ok (.aload_n 0, 1) := by decide +kernel
theorem dX12_classes_127 : decode cX12_classes 127 = .ok (.getfield 120, 3) := by decide +kernel
theorem dX12_classes_130 : decode cX12_classes 130 = .ok (.iload 6, 2) := by decide +kernel
theorem dX12_classes_132 : decode cX12_classes 132 = .ok (.iaload, 1) := by decide +kernel
theorem dX12_classes_133 : decode cX12_classes 133 = .ok (.iastore, 1) := by decide +kernel
theorem dX12_classes_134 : decode cX12_classes 134 = .ok (.iinc 6 1, 3) := by decide +kernel
theorem dX12_classes_137 : decode cX12_classes 137 = .ok (.goto (-53), 3) := by decide +kernel
theorem dX12_classes_140 : decode cX12_classes 140 = .ok (.iinc 3 1, 3) := by decide +kernel
theorem dX12_classes_143 : decode cX12_classes 143 = .ok (.goto (-108), 3) := by decide +kernel
theorem dX12_classes_146 : decode cX12_classes 146 = .ok (.iinc 2 1, 3) := by decide +kernel
theorem dX12_classes_149 : decode cX12_classes 149 = .ok (.goto (-121), 3) := by decide +kernel
theorem dX12_classes_152 : decode cX12_classes 152 = .ok (.return_, 1) := by decide +kernel
theorem dX12_rhymes_0 : decode cX12_rhymes 0 = .ok (.aload_n 0, 1) := by decide +kernel
theorem dX12_rhymes_1 : decode cX12_rhymes 1 = .ok (.iconst 0, 1) := by decide +kernel
theorem dX12_rhymes_2 : decode cX12_rhymes 2 = .ok (.putfield 157, 3) := by decide +kernel
theorem dX12_rhymes_5 : decode cX12_rhymes 5 = .ok (.aload_n 0, 1) := by decide +kernel
theorem dX12_rhymes_6 : decode cX12_rhymes 6 = .ok (.invokevirtual 423, 3) := by decide +kernel
theorem dX12_rhymes_9 : decode cX12_rhymes 9 = .ok (.aload_n 0, 1) := by decide +kernel
theorem dX12_rhymes_10 : decode cX12_rhymes 10 = .ok (.iload_n 1, 1) := by decide +kernel
theorem dX12_rhymes_11 : decode cX12_rhymes 11 = .ok (.invokevirtual 378, 3) := by decide +kernel
theorem dX12_rhymes_14 : decode cX12_rhymes 14 = .ok (.ifCond .eq 12, 3) := by decide +kernel
theorem dX12_rhymes_17 : decode cX12_rhymes 17 = .ok (.aload_n 0, 1) := by decide +kernel
theorem dX12_rhymes_18 : decode cX12_rhymes 18 = .ok (.getfield 120, 3) := by decide +kernel
theorem dX12_rhymes_21 : decode cX12_rhymes 21 = .ok (.iload_n 1, 1) := by decide +kernel
theorem dX12_rhymes_22 : decode cX12_rhymes 22 = .ok (.iaload, 1) := by decide +kernel
theorem dX12_rhymes_23 : decode cX12_rhymes 23 = .ok (.goto 4, 3) := by decide +kernel
theorem dX12_rhymes_26 : decode cX12_rhymes 26 = .ok (.iconst (-1), 1) := by decide +kernel
theorem dX12_rhymes_27 : decode cX12_rhymes 27 = .ok (.ireturn, 1) := by decide +kernel
theorem dX12_beside_0 : decode cX12_beside 0 = .ok (.aload_n 0, 1) := by decide +kernel
theorem dX12_beside_1 : decode cX12_beside 1 = .ok (.iconst 0, 1) := by decide +kernel
theorem dX12_beside_2 : decode cX12_beside 2 = .ok (.putfield 157, 3) := by decide +kernel
theorem dX12_beside_5 : decode cX12_beside 5 = .ok (.aload_n 0, 1) := by decide +kernel
theorem dX12_beside_6 : decode cX12_beside 6 = .ok (.iload_n 1, 1) := by decide +kernel
theorem dX12_beside_7 : decode cX12_beside 7 = .ok (.invokevirtual 378, 3) := by decide +kernel
theorem dX12_beside_10 : decode cX12_beside 10 = .ok (.ifCond .eq 16, 3) := by decide +kernel
theorem dX12_beside_13 : decode cX12_beside 13 = .ok (.aload_n 0, 1) := by decide +kernel
theorem dX12_beside_14 : decode cX12_beside 14 = .ok (.iload_n 2, 1) := by decide +kernel
theorem dX12_beside_15 : decode cX12_beside 15 = .ok (.invokevirtual 378, 3) := by decide +kernel
theorem dX12_beside_18 : decode cX12_beside 18 = .ok (.ifCond .eq 8, 3) := by decide +kernel
theorem dX12_beside_21 : decode cX12_beside 21 = .ok (.iload_n 1, 1) := by decide +kernel
theorem dX12_beside_22 : decode cX12_beside 22 = .ok (.iload_n 2, 1) := by decide +kernel
theorem dX12_beside_23 : decode cX12_beside 23 = .ok (.if_icmp .ne 5, 3) := by decide +kernel
theorem dX12_beside_26 : decode cX12_beside 26 = .ok (.iconst (-1), 1) := by decide +kernel
theorem dX12_beside_27 : decode cX12_beside 27 = .ok (.ireturn, 1) := by decide +kernel
theorem dX12_beside_28 : decode cX12_beside 28 = .ok (.aload_n 0, 1) := by decide +kernel
theorem dX12_beside_29 : decode cX12_beside 29 = .ok (.invokevirtual 411, 3) := by decide +kernel
theorem dX12_beside_32 : decode cX12_beside 32 = .ok (.istore_n 3, 1) := by decide +kernel
theorem dX12_beside_33 : decode cX12_beside 33 = .ok (.iconst 0, 1) := by decide +kernel
theorem dX12_beside_34 : decode cX12_beside 34 = .ok (.istore 4, 2) := by decide +kernel
theorem dX12_beside_36 : decode cX12_beside 36 = .ok (.iconst 0, 1) := by decide +kernel
theorem dX12_beside_37 : decode cX12_beside 37 = .ok (.istore 5, 2) := by decide +kernel
theorem dX12_beside_39 : decode cX12_beside 39 = .ok (.iload 5, 2) := by decide +kernel
theorem dX12_beside_41 : decode cX12_beside 41 = .ok (.iload_n 3, 1) := by decide +kernel
theorem dX12_beside_42 : decode cX12_beside 42 = .ok (.if_icmp .ge 43, 3) := by decide +kernel
theorem dX12_beside_45 : decode cX12_beside 45 = .ok (.iload 4, 2) := by decide +kernel
theorem dX12_beside_47 : decode cX12_beside 47 = .ok (.aload_n 0, 1) := by decide +kernel
