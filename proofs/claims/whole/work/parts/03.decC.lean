theorem dX6_init_0 : decode cX6_init 0 = .ok (.aload_n 0, 1) := by decide +kernel
theorem dX6_init_1 : decode cX6_init 1 = .ok (.invokespecial 1, 3) := by decide +kernel
theorem dX6_init_4 : decode cX6_init 4 = .ok (.aload_n 0, 1) := by decide +kernel
theorem dX6_init_5 : decode cX6_init 5 = .ok (.iconst 3, 1) := by decide +kernel
theorem dX6_init_6 : decode cX6_init 6 = .ok (.putfield 7, 3) := by decide +kernel
theorem dX6_init_9 : decode cX6_init 9 = .ok (.aload_n 0, 1) := by decide +kernel
theorem dX6_init_10 : decode cX6_init 10 = .ok (.bipush 25, 2) := by decide +kernel
theorem dX6_init_12 : decode cX6_init 12 = .ok (.newarray .int, 2) := by decide +kernel
theorem dX6_init_14 : decode cX6_init 14 = .ok (.putfield 13, 3) := by decide +kernel
theorem dX6_init_17 : decode cX6_init 17 = .ok (.aload_n 0, 1) := by decide +kernel
theorem dX6_init_18 : decode cX6_init 18 = .ok (.iconst 5, 1) := by decide +kernel
theorem dX6_init_19 : decode cX6_init 19 = .ok (.newarray .int, 2) := by decide +kernel
theorem dX6_init_21 : decode cX6_init 21 = .ok (.putfield 17, 3) := by decide +kernel
theorem dX6_init_24 : decode cX6_init 24 = .ok (.aload_n 0, 1) := by decide +kernel
theorem dX6_init_25 : decode cX6_init 25 = .ok (.iconst 5, 1) := by decide +kernel
theorem dX6_init_26 : decode cX6_init 26 = .ok (.newarray .int, 2) := by decide +kernel
theorem dX6_init_28 : decode cX6_init 28 = .ok (.putfield 20, 3) := by decide +kernel
theorem dX6_init_31 : decode cX6_init 31 = .ok (.aload_n 0, 1) := by decide +kernel
theorem dX6_init_32 : decode cX6_init 32 = .ok (.iconst 5, 1) := by decide +kernel
theorem dX6_init_33 : decode cX6_init 33 = .ok (.newarray .int, 2) := by decide +kernel
theorem dX6_init_35 : decode cX6_init 35 = .ok (.putfield 23, 3) := by decide +kernel
theorem dX6_init_38 : decode cX6_init 38 = .ok (.aload_n 0, 1) := by decide +kernel
theorem dX6_init_39 : decode cX6_init 39 = .ok (.iconst 5, 1) := by decide +kernel
theorem dX6_init_40 : decode cX6_init 40 = .ok (.newarray .boolean, 2) := by decide +kernel
theorem dX6_init_42 : decode cX6_init 42 = .ok (.putfield 26, 3) := by decide +kernel
theorem dX6_init_45 : decode cX6_init 45 = .ok (.aload_n 0, 1) := by decide +kernel
theorem dX6_init_46 : decode cX6_init 46 = .ok (.iconst 5, 1) := by decide +kernel
theorem dX6_init_47 : decode cX6_init 47 = .ok (.newarray .int, 2) := by decide +kernel
theorem dX6_init_49 : decode cX6_init 49 = .ok (.putfield 30, 3) := by decide +kernel
theorem dX6_init_52 : decode cX6_init 52 = .ok (.aload_n 0, 1) := by decide +kernel
theorem dX6_init_53 : decode cX6_init 53 = .ok (.bipush 12, 2) := by decide +kernel
theorem dX6_init_55 : decode cX6_init 55 = .ok (.newarray .int, 2) := by decide +kernel
theorem dX6_init_57 : decode cX6_init 57 = .ok (.putfield 33, 3) := by decide +kernel
theorem dX6_init_60 : decode cX6_init 60 = .ok (.aload_n 0, 1) := by decide +kernel
theorem dX6_init_61 : decode cX6_init 61 = .ok (.bipush 25, 2) := by decide +kernel
theorem dX6_init_63 : decode cX6_init 63 = .ok (.newarray .long, 2) := by decide +kernel
theorem dX6_init_65 : decode cX6_init 65 = .ok (.putfield 36, 3) := by decide +kernel
theorem dX6_init_68 : decode cX6_init 68 = .ok (.aload_n 0, 1) := by decide +kernel
theorem dX6_init_69 : decode cX6_init 69 = .ok (.bipush 32, 2) := by decide +kernel
theorem dX6_init_71 : decode cX6_init 71 = .ok (.newarray .long, 2) := by decide +kernel
theorem dX6_init_73 : decode cX6_init 73 = .ok (.putfield 40, 3) := by decide +kernel
theorem dX6_init_76 : decode cX6_init 76 = .ok (.aload_n 0, 1) := by decide +kernel
theorem dX6_init_77 : decode cX6_init 77 = .ok (.iconst 5, 1) := by decide +kernel
theorem dX6_init_78 : decode cX6_init 78 = .ok (.newarray .int, 2) := by decide +kernel
theorem dX6_init_80 : decode cX6_init 80 = .ok (.putfield 43, 3) := by decide +kernel
theorem dX6_init_83 : decode cX6_init 83 = .ok (.aload_n 0, 1) := by decide +kernel
theorem dX6_init_84 : decode cX6_init 84 = .ok (.iconst 1, 1) := by decide +kernel
theorem dX6_init_85 : decode cX6_init 85 = .ok (.putfield 46, 3) := by decide +kernel
theorem dX6_init_88 : decode cX6_init 88 = .ok (.aload_n 0, 1) := by decide +kernel
theorem dX6_init_89 : decode cX6_init 89 = .ok (.iconst 5, 1) := by decide +kernel
theorem dX6_init_90 : decode cX6_init 90 = .ok (.newarray .int, 2) := by decide +kernel
theorem dX6_init_92 : decode cX6_init 92 = .ok (.putfield 49, 3) := by decide +kernel
theorem dX6_init_95 : decode cX6_init 95 = .ok (.aload_n 0, 1) := by decide +kernel
theorem dX6_init_96 : decode cX6_init 96 = .ok (.iconst 5, 1) := by decide +kernel
theorem dX6_init_97 : decode cX6_init 97 = .ok (.newarray .int, 2) := by decide +kernel
theorem dX6_init_99 : decode cX6_init 99 = .ok (.putfield 52, 3) := by decide +kernel
theorem dX6_init_102 : decode cX6_init 102 = .ok (.aload_n 0, 1) := by decide +kernel
theorem dX6_init_103 : decode cX6_init 103 = .ok (.iconst 5, 1) := by decide +kernel
theorem dX6_init_104 : decode cX6_init 104 = .ok (.newarray .int, 2) := by decide +kernel
theorem dX6_init_106 : decode cX6_init 106 = .ok (.putfield 55, 3) := by decide +kernel
theorem dX6_init_109 : decode cX6_init 109 = .ok (.aload_n 0, 1) := by decide +kernel
theorem dX6_init_110 : decode cX6_init 110 = .ok (.iconst 4, 1) := by decide +kernel
theorem dX6_init_111 : decode cX6_init 111 = .ok (.newarray .boolean, 2) := by decide +kernel
theorem dX6_init_113 : decode cX6_init 113 = .ok (.putfield 58, 3) := by decide +kernel
theorem dX6_init_116 : decode cX6_init 116 = .ok (.aload_n 0, 1) := by decide +kernel
theorem dX6_init_117 : decode cX6_init 117 = .ok (.iconst 4, 1) := by decide +kernel
theorem dX6_init_118 : decode cX6_init 118 = .ok (.newarray .int, 2) := by decide +kernel
theorem dX6_init_120 : decode cX6_init 120 = .ok (.putfield 61, 3) := by decide +kernel
theorem dX6_init_123 : decode cX6_init 123 = .ok (.aload_n 0, 1) := by decide +kernel
theorem dX6_init_124 : decode cX6_init 124 = .ok (.iconst 4, 1) := by decide +kernel
theorem dX6_init_125 : decode cX6_init 125 = .ok (.newarray .int, 2) := by decide +kernel
theorem dX6_init_127 : decode cX6_init 127 = .ok (.putfield 64, 3) := by decide +kernel
theorem dX6_init_130 : decode cX6_init 130 = .ok (.aload_n 0, 1) := by decide +kernel
theorem dX6_init_131 : decode cX6_init 131 = .ok (.sipush 240, 3) := by decide +kernel
theorem dX6_init_134 : decode cX6_init 134 = .ok (.newarray .int, 2) := by decide +kernel
theorem dX6_init_136 : decode cX6_init 136 = .ok (.putfield 67, 3) := by decide +kernel
theorem dX6_init_139 : decode cX6_init 139 = .ok (.aload_n 0, 1) := by decide +kernel
theorem dX6_init_140 : decode cX6_init 140 = .ok (.bipush 60, 2) := by decide +kernel
theorem dX6_init_142 : decode cX6_init 142 = .ok (.newarray .int, 2) := by decide +kernel
theorem dX6_init_144 : decode cX6_init 144 = .ok (.putfield 70, 3) := by decide +kernel
theorem dX6_init_147 : decode cX6_init 147 = .ok (.iconst 0, 1) := by decide +kernel
theorem dX6_init_148 : decode cX6_init 148 = .ok (.istore_n 1, 1) := by decide +kernel
theorem dX6_init_149 : decode cX6_init 149 = .ok (.iload_n 1, 1) := by decide +kernel
theorem dX6_init_150 : decode cX6_init 150 = .ok (.iconst 5, 1) := by decide +kernel
theorem dX6_init_151 : decode cX6_init 151 = .ok (.if_icmp .ge 72, 3) := by decide +kernel
theorem dX6_init_154 : decode cX6_init 154 = .ok (.aload_n 0, 1) := by decide +kernel
theorem dX6_init_155 : decode cX6_init 155 = .ok (.getfield 17, 3) := by decide +kernel
theorem dX6_init_158 : decode cX6_init 158 = .ok (.iload_n 1, 1) := by decide +kernel
theorem dX6_init_159 : decode cX6_init 159 = .ok (.iconst 5, 1) := by decide +kernel
theorem dX6_init_160 : decode cX6_init 160 = .ok (.iastore, 1) := by decide +kernel
theorem dX6_init_161 : decode cX6_init 161 = .ok (.aload_n 0, 1) := by decide +kernel
theorem dX6_init_162 : decode cX6_init 162 = .ok (.getfield 20, 3) := by decide +kernel
theorem dX6_init_165 : decode cX6_init 165 = .ok (.iload_n 1, 1) := by decide +kernel
theorem dX6_init_166 : decode cX6_init 166 = .ok (.iconst 1, 1) := by decide +kernel
theorem dX6_init_167 : decode cX6_init 167 = .ok (.iastore, 1) := by decide +kernel
theorem dX6_init_168 : decode cX6_init 168 = .ok (.aload_n 0, 1) := by decide +kernel
theorem dX6_init_169 : decode cX6_init 169 = .ok (.getfield 23, 3) := by decide +kernel
theorem dX6_init_172 : decode cX6_init 172 = .ok (.iload_n 1, 1) := by decide +kernel
theorem dX6_init_173 : decode cX6_init 173 = .ok (.bipush 100, 2) := by decide +kernel
theorem dX6_init_175 : decode cX6_init 175 = .ok (.iastore, 1) := by decide +kernel
theorem dX6_init_176 : decode cX6_init 176 = .ok (.aload_n 0, 1) := by decide +kernel
theorem dX6_init_177 : decode cX6_init 177 = .ok (.getfield 26, 3) := by decide +kernel
theorem dX6_init_180 : decode cX6_init 180 = .ok (.iload_n 1, 1) := by decide +kernel
theorem dX6_init_181 : decode cX6_init 181 = .ok (.iconst 1, 1) := by decide +kernel
theorem dX6_init_182 : decode cX6_init 182 = .ok (.bastore, 1) := by decide +kernel
theorem dX6_init_183 : decode cX6_init 183 = .ok (.iconst 0, 1) := by decide +kernel
theorem dX6_init_184 : decode cX6_init 184 = .ok (.istore_n 2, 1) := by decide +kernel
theorem dX6_init_185 : decode cX6_init 185 = .ok (.iload_n 2, 1) := by decide +kernel
theorem dX6_init_186 : decode cX6_init 186 = .ok (.iconst 5, 1) := by decide +kernel
theorem dX6_init_187 : decode cX6_init 187 = .ok (.if_icmp .ge 30, 3) := by decide +kernel
theorem dX6_init_190 : decode cX6_init 190 = .ok (.aload_n 0, 1) := by decide +kernel
theorem dX6_init_191 : decode cX6_init 191 = .ok (.getfield 13, 3) := by decide +kernel
theorem dX6_init_194 : decode cX6_init 194 = .ok (.iconst 5, 1) := by decide +kernel
theorem dX6_init_195 : decode cX6_init 195 = .ok (.iload_n 1, 1) := by decide +kernel
theorem dX6_init_196 : decode cX6_init 196 = .ok (.imul, 1) := by decide +kernel
theorem dX6_init_197 : decode cX6_init 197 = .ok (.iload_n 2, 1) := by decide +kernel
theorem dX6_init_198 : decode cX6_init 198 = .ok (.iadd, 1) := by decide +kernel
theorem dX6_init_199 : decode cX6_init 199 = .ok (.iload_n 1, 1) := by decide +kernel
theorem dX6_init_200 : decode cX6_init 200 = .ok (.iload_n 2, 1) := by decide +kernel
theorem dX6_init_201 : decode cX6_init 201 = .ok (.if_icmp .ne 8, 3) := by decide +kernel
theorem dX6_init_204 : decode cX6_init 204 = .ok (.bipush 10, 2) := by decide +kernel
theorem dX6_init_206 : decode cX6_init 206 = .ok (.goto 4, 3) := by decide +kernel
theorem dX6_init_209 : decode cX6_init 209 = .ok (.iconst 1, 1) := by decide +kernel
theorem dX6_init_210 : decode cX6_init 210 = .ok (.iastore, 1) := by decide +kernel
theorem dX6_init_211 : decode cX6_init 211 = .ok (.iinc 2 1, 3) := by decide +kernel
theorem dX6_init_214 : decode cX6_init 214 = .ok (.goto (-29), 3) := by decide +kernel
theorem dX6_init_217 : decode cX6_init 217 = .ok (.iinc 1 1, 3) := by decide +kernel
theorem dX6_init_220 : decode cX6_init 220 = .ok (.goto (-71), 3) := by decide +kernel
theorem dX6_init_223 : decode cX6_init 223 = .ok (.return_, 1) := by decide +kernel
theorem dX6_in_0 : decode cX6_in 0 = .ok (.iload_n 0, 1) := by decide +kernel
theorem dX6_in_1 : decode cX6_in 1 = .ok (.iload_n 1, 1) := by decide +kernel
theorem dX6_in_2 : decode cX6_in 2 = .ok (.if_icmp .lt 12, 3) := by decide +kernel
theorem dX6_in_5 : decode cX6_in 5 = .ok (.iload_n 0, 1) := by decide +kernel
theorem dX6_in_6 : decode cX6_in 6 = .ok (.iload_n 2, 1) := by decide +kernel
theorem dX6_in_7 : decode cX6_in 7 = .ok (.if_icmp .gt 7, 3) := by decide +kernel
theorem dX6_in_10 : decode cX6_in 10 = .ok (.iconst 1, 1) := by decide +kernel
theorem dX6_in_11 : decode cX6_in 11 = .ok (.goto 4, 3) := by decide +kernel
theorem dX6_in_14 : decode cX6_in 14 = .ok (.iconst 0, 1) := by decide +kernel
theorem dX6_in_15 : decode cX6_in 15 = .ok (.ireturn, 1) := by decide +kernel
theorem dX6_no_0 : decode cX6_no 0 = .ok (.ldc2_w 73, 3) := by decide +kernel
theorem dX6_no_3 : decode cX6_no 3 = .ok (.iload_n 0, 1) := by decide +kernel
theorem dX6_no_4 : decode cX6_no 4 = .ok (.i2l, 1) := by decide +kernel
theorem dX6_no_5 : decode cX6_no 5 = .ok (.lsub, 1) := by decide +kernel
theorem dX6_no_6 : decode cX6_no 6 = .ok (.lreturn, 1) := by decide +kernel
theorem dX6_isSender_0 : decode cX6_isSender 0 = .ok (.iload_n 1, 1) := by decide +kernel
theorem dX6_isSender_1 : decode cX6_isSender 1 = .ok (.iconst 0, 1) := by decide +kernel
theorem dX6_isSender_2 : decode cX6_isSender 2 = .ok (.aload_n 0, 1) := by decide +kernel
theorem dX6_isSender_3 : decode cX6_isSender 3 = .ok (.getfield 7, 3) := by decide +kernel
theorem dX6_isSender_6 : decode cX6_isSender 6 = .ok (.iconst 1, 1) := by decide +kernel
theorem dX6_isSender_7 : decode cX6_isSender 7 = .ok (.isub, 1) := by decide +kernel
theorem dX6_isSender_8 : decode cX6_isSender 8 = .ok (.invokestatic 75, 3) := by decide +kernel
theorem dX6_isSender_11 : decode cX6_isSender 11 = .ok (.ireturn, 1) := by decide +kernel
theorem dX6_isGain_0 : decode cX6_isGain 0 = .ok (.iload_n 0, 1) := by decide +kernel
theorem dX6_isGain_1 : decode cX6_isGain 1 = .ok (.iload_n 1, 1) := by decide +kernel
theorem dX6_isGain_2 : decode cX6_isGain 2 = .ok (.if_icmp .ne 13, 3) := by decide +kernel
theorem dX6_isGain_5 : decode cX6_isGain 5 = .ok (.iload_n 2, 1) := by decide +kernel
theorem dX6_isGain_6 : decode cX6_isGain 6 = .ok (.iconst 1, 1) := by decide +kernel
theorem dX6_isGain_7 : decode cX6_isGain 7 = .ok (.bipush 30, 2) := by decide +kernel
theorem dX6_isGain_9 : decode cX6_isGain 9 = .ok (.invokestatic 75, 3) := by decide +kernel
theorem dX6_isGain_12 : decode cX6_isGain 12 = .ok (.goto 10, 3) := by decide +kernel
theorem dX6_isGain_15 : decode cX6_isGain 15 = .ok (.iload_n 2, 1) := by decide +kernel
theorem dX6_isGain_16 : decode cX6_isGain 16 = .ok (.iconst 0, 1) := by decide +kernel
theorem dX6_isGain_17 : decode cX6_isGain 17 = .ok (.bipush 9, 2) := by decide +kernel
theorem dX6_isGain_19 : decode cX6_isGain 19 = .ok (.invokestatic 75, 3) := by decide +kernel
theorem dX6_isGain_22 : decode cX6_isGain 22 = .ok (.ireturn, 1) := by decide +kernel
theorem dX6_senders_0 : decode cX6_senders 0 = .ok (.iload_n 1, 1) := by decide +kernel
theorem dX6_senders_1 : decode cX6_senders 1 = .ok (.iconst 1, 1) := by decide +kernel
theorem dX6_senders_2 : decode cX6_senders 2 = .ok (.iconst 5, 1) := by decide +kernel
theorem dX6_senders_3 : decode cX6_senders 3 = .ok (.invokestatic 75, 3) := by decide +kernel
theorem dX6_senders_6 : decode cX6_senders 6 = .ok (.ifCond .ne 6, 3) := by decide +kernel
theorem dX6_senders_9 : decode cX6_senders 9 = .ok (.bipush (-2), 2) := by decide +kernel
theorem dX6_senders_11 : decode cX6_senders 11 = .ok (.ireturn, 1) := by decide +kernel
theorem dX6_senders_12 : decode cX6_senders 12 = .ok (.aload_n 0, 1) := by decide +kernel
theorem dX6_senders_13 : decode cX6_senders 13 = .ok (.getfield 7, 3) := by decide +kernel
theorem dX6_senders_16 : decode cX6_senders 16 = .ok (.istore_n 2, 1) := by decide +kernel
theorem dX6_senders_17 : decode cX6_senders 17 = .ok (.aload_n 0, 1) := by decide +kernel
theorem dX6_senders_18 : decode cX6_senders 18 = .ok (.iload_n 1, 1) := by decide +kernel
theorem dX6_senders_19 : decode cX6_senders 19 = .ok (.putfield 7, 3) := by decide +kernel
theorem dX6_senders_22 : decode cX6_senders 22 = .ok (.iload_n 2, 1) := by decide +kernel
theorem dX6_senders_23 : decode cX6_senders 23 = .ok (.ireturn, 1) := by decide +kernel
theorem dX6_gain_0 : decode cX6_gain 0 = .ok (.aload_n 0, 1) := by decide +kernel
theorem dX6_gain_1 : decode cX6_gain 1 = .ok (.iload_n 1, 1) := by decide +kernel
theorem dX6_gain_2 : decode cX6_gain 2 = .ok (.invokevirtual 79, 3) := by decide +kernel
theorem dX6_gain_5 : decode cX6_gain 5 = .ok (.ifCond .eq 20, 3) := by decide +kernel
theorem dX6_gain_8 : decode cX6_gain 8 = .ok (.aload_n 0, 1) := by decide +kernel
theorem dX6_gain_9 : decode cX6_gain 9 = .ok (.iload_n 2, 1) := by decide +kernel
theorem dX6_gain_10 : decode cX6_gain 10 = .ok (.invokevirtual 79, 3) := by decide +kernel
theorem dX6_gain_13 : decode cX6_gain 13 = .ok (.ifCond .eq 12, 3) := by decide +kernel
theorem dX6_gain_16 : decode cX6_gain 16 = .ok (.iload_n 1, 1) := by decide +kernel
theorem dX6_gain_17 : decode cX6_gain 17 = .ok (.iload_n 2, 1) := by decide +kernel
theorem dX6_gain_18 : decode cX6_gain 18 = .ok (.iload_n 3, 1) := by decide +kernel
theorem dX6_gain_19 : decode cX6_gain 19 = .ok (.invokestatic 83, 3) := by decide +kernel
theorem dX6_gain_22 : decode cX6_gain 22 = .ok (.ifCond .ne 6, 3) := by decide +kernel
theorem dX6_gain_25 : decode cX6_gain 25 = .ok (.bipush (-2), 2) := by decide +kernel
theorem dX6_gain_27 : decode cX6_gain 27 = .ok (.ireturn, 1) := by decide +kernel
theorem dX6_gain_28 : decode cX6_gain 28 = .ok (.aload_n 0, 1) := by decide +kernel
theorem dX6_gain_29 : decode cX6_gain 29 = .ok (.getfield 13, 3) := by decide +kernel
theorem dX6_gain_32 : decode cX6_gain 32 = .ok (.iconst 5, 1) := by decide +kernel
theorem dX6_gain_33 : decode cX6_gain 33 = .ok (.iload_n 1, 1) := by decide +kernel
theorem dX6_gain_34 : decode cX6_gain 34 = .ok (.imul, 1) := by decide +kernel
theorem dX6_gain_35 : decode cX6_gain 35 = .ok (.iload_n 2, 1) := by decide +kernel
theorem dX6_gain_36 : decode cX6_gain 36 = .ok (.iadd, 1) := by decide +kernel
theorem dX6_gain_37 : decode cX6_gain 37 = .ok (.iaload, 1) := by decide +kernel
theorem dX6_gain_38 : decode cX6_gain 38 = .ok (.istore 4, 2) := by decide +kernel
theorem dX6_gain_40 : decode cX6_gain 40 = .ok (.aload_n 0, 1) := by decide +kernel
theorem dX6_gain_41 : decode cX6_gain 41 = .ok (.getfield 13, 3) := by decide +kernel
theorem dX6_gain_44 : decode cX6_gain 44 = .ok (.iconst 5, 1) := by decide +kernel
theorem dX6_gain_45 : decode cX6_gain 45 = .ok (.iload_n 1, 1) := by decide +kernel
theorem dX6_gain_46 : decode cX6_gain 46 = .ok (.imul, 1) := by decide +kernel
theorem dX6_gain_47 : decode cX6_gain 47 = .ok (.iload_n 2, 1) := by decide +kernel
theorem dX6_gain_48 : decode cX6_gain 48 = .ok (.iadd, 1) := by decide +kernel
theorem dX6_gain_49 : decode cX6_gain 49 = .ok (.iload_n 3, 1) := by decide +kernel
theorem dX6_gain_50 : decode cX6_gain 50 = .ok (.iastore, 1) := by decide +kernel
theorem dX6_gain_51 : decode cX6_gain 51 = .ok (.iload 4, 2) := by decide +kernel
theorem dX6_gain_53 : decode cX6_gain 53 = .ok (.ireturn, 1) := by decide +kernel
theorem dX6_isSetting_0 : decode cX6_isSetting 0 = .ok (.iload_n 0, 1) := by decide +kernel
theorem dX6_isSetting_1 : decode cX6_isSetting 1 = .ok (.ifCond .ne 13, 3) := by decide +kernel
theorem dX6_isSetting_4 : decode cX6_isSetting 4 = .ok (.iload_n 1, 1) := by decide +kernel
theorem dX6_isSetting_5 : decode cX6_isSetting 5 = .ok (.iconst 1, 1) := by decide +kernel
theorem dX6_isSetting_6 : decode cX6_isSetting 6 = .ok (.bipush 20, 2) := by decide +kernel
theorem dX6_isSetting_8 : decode cX6_isSetting 8 = .ok (.invokestatic 75, 3) := by decide +kernel
theorem dX6_isSetting_11 : decode cX6_isSetting 11 = .ok (.goto 39, 3) := by decide +kernel
theorem dX6_isSetting_14 : decode cX6_isSetting 14 = .ok (.iload_n 0, 1) := by decide +kernel
theorem dX6_isSetting_15 : decode cX6_isSetting 15 = .ok (.iconst 1, 1) := by decide +kernel
theorem dX6_isSetting_16 : decode cX6_isSetting 16 = .ok (.if_icmp .ne 13, 3) := by decide +kernel
theorem dX6_isSetting_19 : decode cX6_isSetting 19 = .ok (.iload_n 1, 1) := by decide +kernel
theorem dX6_isSetting_20 : decode cX6_isSetting 20 = .ok (.iconst 0, 1) := by decide +kernel
theorem dX6_isSetting_21 : decode cX6_isSetting 21 = .ok (.bipush 9, 2) := by decide +kernel
theorem dX6_isSetting_23 : decode cX6_isSetting 23 = .ok (.invokestatic 75, 3) := by decide +kernel
theorem dX6_isSetting_26 : decode cX6_isSetting 26 = .ok (.goto 24, 3) := by decide +kernel
theorem dX6_isSetting_29 : decode cX6_isSetting 29 = .ok (.iload_n 0, 1) := by decide +kernel
theorem dX6_isSetting_30 : decode cX6_isSetting 30 = .ok (.iconst 2, 1) := by decide +kernel
theorem dX6_isSetting_31 : decode cX6_isSetting 31 = .ok (.if_icmp .ne 18, 3) := by decide +kernel
theorem dX6_isSetting_34 : decode cX6_isSetting 34 = .ok (.iload_n 1, 1) := by decide +kernel
theorem dX6_isSetting_35 : decode cX6_isSetting 35 = .ok (.iconst 0, 1) := by decide +kernel
theorem dX6_isSetting_36 : decode cX6_isSetting 36 = .ok (.sipush 999, 3) := by decide +kernel
theorem dX6_isSetting_39 : decode cX6_isSetting 39 = .ok (.invokestatic 75, 3) := by decide +kernel
theorem dX6_isSetting_42 : decode cX6_isSetting 42 = .ok (.ifCond .eq 7, 3) := by decide +kernel
theorem dX6_isSetting_45 : decode cX6_isSetting 45 = .ok (.iconst 1, 1) := by decide +kernel
theorem dX6_isSetting_46 : decode cX6_isSetting 46 = .ok (.goto 4, 3) := by decide +kernel
theorem dX6_isSetting_49 : decode cX6_isSetting 49 = .ok (.iconst 0, 1) := by decide +kernel
theorem dX6_isSetting_50 : decode cX6_isSetting 50 = .ok (.ireturn, 1) := by decide +kernel
theorem dX6_setting_0 : decode cX6_setting 0 = .ok (.iload_n 2, 1) := by decide +kernel
theorem dX6_setting_1 : decode cX6_setting 1 = .ok (.ifCond .ne 12, 3) := by decide +kernel
theorem dX6_setting_4 : decode cX6_setting 4 = .ok (.aload_n 0, 1) := by decide +kernel
theorem dX6_setting_5 : decode cX6_setting 5 = .ok (.getfield 17, 3) := by decide +kernel
theorem dX6_setting_8 : decode cX6_setting 8 = .ok (.iload_n 1, 1) := by decide +kernel
theorem dX6_setting_9 : decode cX6_setting 9 = .ok (.iaload, 1) := by decide +kernel
theorem dX6_setting_10 : decode cX6_setting 10 = .ok (.goto 23, 3) := by decide +kernel
theorem dX6_setting_13 : decode cX6_setting 13 = .ok (.iload_n 2, 1) := by decide +kernel
theorem dX6_setting_14 : decode cX6_setting 14 = .ok (.iconst 1, 1) := by decide +kernel
theorem dX6_setting_15 : decode cX6_setting 15 = .ok (.if_icmp .ne 12, 3) := by decide +kernel
theorem dX6_setting_18 : decode cX6_setting 18 = .ok (.aload_n 0, 1) := by decide +kernel
theorem dX6_setting_19 : decode cX6_setting 19 = .ok (.getfield 20, 3) := by decide +kernel
theorem dX6_setting_22 : decode cX6_setting 22 = .ok (.iload_n 1, 1) := by decide +kernel
theorem dX6_setting_23 : decode cX6_setting 23 = .ok (.iaload, 1) := by decide +kernel
theorem dX6_setting_24 : decode cX6_setting 24 = .ok (.goto 9, 3) := by decide +kernel
theorem dX6_setting_27 : decode cX6_setting 27 = .ok (.aload_n 0, 1) := by decide +kernel
theorem dX6_setting_28 : decode cX6_setting 28 = .ok (.getfield 23, 3) := by decide +kernel
theorem dX6_setting_31 : decode cX6_setting 31 = .ok (.iload_n 1, 1) := by decide +kernel
theorem dX6_setting_32 : decode cX6_setting 32 = .ok (.iaload, 1) := by decide +kernel
theorem dX6_setting_33 : decode cX6_setting 33 = .ok (.ireturn, 1) := by decide +kernel
theorem dX6_set_0 : decode cX6_set 0 = .ok (.aload_n 0, 1) := by decide +kernel
theorem dX6_set_1 : decode cX6_set 1 = .ok (.iload_n 1, 1) := by decide +kernel
theorem dX6_set_2 : decode cX6_set 2 = .ok (.invokevirtual 79, 3) := by decide +kernel
theorem dX6_set_5 : decode cX6_set 5 = .ok (.ifCond .eq 11, 3) := by decide +kernel
theorem dX6_set_8 : decode cX6_set 8 = .ok (.iload_n 2, 1) := by decide +kernel
theorem dX6_set_9 : decode cX6_set 9 = .ok (.iload_n 3, 1) := by decide +kernel
theorem dX6_set_10 : decode cX6_set 10 = .ok (.invokestatic 86, 3) := by decide +kernel
theorem dX6_set_13 : decode cX6_set 13 = .ok (.ifCond .ne 6, 3) := by decide +kernel
theorem dX6_set_16 : decode cX6_set 16 = .ok (.bipush (-2), 2) := by decide +kernel
theorem dX6_set_18 : decode cX6_set 18 = .ok (.ireturn, 1) := by decide +kernel
theorem dX6_set_19 : decode cX6_set 19 = .ok (.aload_n 0, 1) := by decide +kernel
theorem dX6_set_20 : decode cX6_set 20 = .ok (.iload_n 1, 1) := by decide +kernel
theorem dX6_set_21 : decode cX6_set 21 = .ok (.iload_n 2, 1) := by decide +kernel
theorem dX6_set_22 : decode cX6_set 22 = .ok (.invokevirtual 90, 3) := by decide +kernel
theorem dX6_set_25 : decode cX6_set 25 = .ok (.istore 4, 2) := by decide +kernel
theorem dX6_set_27 : decode cX6_set 27 = .ok (.iload_n 2, 1) := by decide +kernel
theorem dX6_set_28 : decode cX6_set 28 = .ok (.ifCond .ne 13, 3) := by decide +kernel
theorem dX6_set_31 : decode cX6_set 31 = .ok (.aload_n 0, 1) := by decide +kernel
theorem dX6_set_32 : decode cX6_set 32 = .ok (.getfield 17, 3) := by decide +kernel
theorem dX6_set_35 : decode cX6_set 35 = .ok (.iload_n 1, 1) := by decide +kernel
theorem dX6_set_36 : decode cX6_set 36 = .ok (.iload_n 3, 1) := by decide +kernel
theorem dX6_set_37 : decode cX6_set 37 = .ok (.iastore, 1) := by decide +kernel
theorem dX6_set_38 : decode cX6_set 38 = .ok (.goto 25, 3) := by decide +kernel
theorem dX6_set_41 : decode cX6_set 41 = .ok (.iload_n 2, 1) := by decide +kernel
theorem dX6_set_42 : decode cX6_set 42 = .ok (.iconst 1, 1) := by decide +kernel
theorem dX6_set_43 : decode cX6_set 43 = .ok (.if_icmp .ne 13, 3) := by decide +kernel
theorem dX6_set_46 : decode cX6_set 46 = .ok (.aload_n 0, 1) := by decide +kernel
theorem dX6_set_47 : decode cX6_set 47 = .ok (.getfield 20, 3) := by decide +kernel
theorem dX6_set_50 : decode cX6_set 50 = .ok (.iload_n 1, 1) := by decide +kernel
theorem dX6_set_51 : decode cX6_set 51 = .ok (.iload_n 3, 1) := by decide +kernel
theorem dX6_set_52 : decode cX6_set 52 = .ok (.iastore, 1) := by decide +kernel
theorem dX6_set_53 : decode cX6_set 53 = .ok (.goto 10, 3) := by decide +kernel
theorem dX6_set_56 : decode cX6_set 56 = .ok (.aload_n 0, 1) := by decide +kernel
theorem dX6_set_57 : decode cX6_set 57 = .ok (.getfield 23, 3) := by decide +kernel
theorem dX6_set_60 : decode cX6_set 60 = .ok (.iload_n 1, 1) := by decide +kernel
theorem dX6_set_61 : decode cX6_set 61 = .ok (.iload_n 3, 1) := by decide +kernel
theorem dX6_set_62 : decode cX6_set 62 = .ok (.iastore, 1) := by decide +kernel
theorem dX6_set_63 : decode cX6_set 63 = .ok (.iload 4, 2) := by decide +kernel
theorem dX6_set_65 : decode cX6_set 65 = .ok (.ireturn, 1) := by decide +kernel
theorem dX6_onNow_0 : decode cX6_onNow 0 = .ok (.iconst 0, 1) := by decide +kernel
theorem dX6_onNow_1 : decode cX6_onNow 1 = .ok (.istore_n 1, 1) := by decide +kernel
theorem dX6_onNow_2 : decode cX6_onNow 2 = .ok (.iconst 0, 1) := by decide +kernel
theorem dX6_onNow_3 : decode cX6_onNow 3 = .ok (.istore_n 2, 1) := by decide +kernel
theorem dX6_onNow_4 : decode cX6_onNow 4 = .ok (.iload_n 2, 1) := by decide +kernel
theorem dX6_onNow_5 : decode cX6_onNow 5 = .ok (.aload_n 0, 1) := by decide +kernel
theorem dX6_onNow_6 : decode cX6_onNow 6 = .ok (.getfield 7, 3) := by decide +kernel
theorem dX6_onNow_9 : decode cX6_onNow 9 = .ok (.if_icmp .ge 28, 3) := by decide +kernel
theorem dX6_onNow_12 : decode cX6_onNow 12 = .ok (.iload_n 1, 1) := by decide +kernel
theorem dX6_onNow_13 : decode cX6_onNow 13 = .ok (.aload_n 0, 1) := by decide +kernel
theorem dX6_onNow_14 : decode cX6_onNow 14 = .ok (.getfield 26, 3) := by decide +kernel
theorem dX6_onNow_17 : decode cX6_onNow 17 = .ok (.iload_n 2, 1) := by decide +kernel
theorem dX6_onNow_18 : decode cX6_onNow 18 = .ok (.baload, 1) := by decide +kernel
theorem dX6_onNow_19 : decode cX6_onNow 19 = .ok (.ifCond .eq 9, 3) := by decide +kernel
theorem dX6_onNow_22 : decode cX6_onNow 22 = .ok (.iconst 1, 1) := by decide +kernel
theorem dX6_onNow_23 : decode cX6_onNow 23 = .ok (.iload_n 2, 1) := by decide +kernel
theorem dX6_onNow_24 : decode cX6_onNow 24 = .ok (.ishl, 1) := by decide +kernel
theorem dX6_onNow_25 : decode cX6_onNow 25 = .ok (.goto 4, 3) := by decide +kernel
theorem dX6_onNow_28 : decode cX6_onNow 28 = .ok (.iconst 0, 1) := by decide +kernel
theorem dX6_onNow_29 : decode cX6_onNow 29 = .ok (.ior, 1) := by decide +kernel
theorem dX6_onNow_30 : decode cX6_onNow 30 = .ok (.istore_n 1, 1) := by decide +kernel
theorem dX6_onNow_31 : decode cX6_onNow 31 = .ok (.iinc 2 1, 3) := by decide +kernel
theorem dX6_onNow_34 : decode cX6_onNow 34 = .ok (.goto (-30), 3) := by decide +kernel
theorem dX6_onNow_37 : decode cX6_onNow 37 = .ok (.iload_n 1, 1) := by decide +kernel
theorem dX6_onNow_38 : decode cX6_onNow 38 = .ok (.ireturn, 1) := by decide +kernel
theorem dX6_on_0 : decode cX6_on 0 = .ok (.aload_n 0, 1) := by decide +kernel
theorem dX6_on_1 : decode cX6_on 1 = .ok (.iload_n 1, 1) := by decide +kernel
theorem dX6_on_2 : decode cX6_on 2 = .ok (.invokevirtual 79, 3) := by decide +kernel
theorem dX6_on_5 : decode cX6_on 5 = .ok (.ifCond .ne 6, 3) := by decide +kernel
theorem dX6_on_8 : decode cX6_on 8 = .ok (.bipush (-2), 2) := by decide +kernel
theorem dX6_on_10 : decode cX6_on 10 = .ok (.ireturn, 1) := by decide +kernel
theorem dX6_on_11 : decode cX6_on 11 = .ok (.aload_n 0, 1) := by decide +kernel
theorem dX6_on_12 : decode cX6_on 12 = .ok (.getfield 26, 3) := by decide +kernel
theorem dX6_on_15 : decode cX6_on 15 = .ok (.iload_n 1, 1) := by decide +kernel
theorem dX6_on_16 : decode cX6_on 16 = .ok (.aload_n 0, 1) := by decide +kernel
theorem dX6_on_17 : decode cX6_on 17 = .ok (.getfield 26, 3) := by decide +kernel
theorem dX6_on_20 : decode cX6_on 20 = .ok (.iload_n 1, 1) := by decide +kernel
theorem dX6_on_21 : decode cX6_on 21 = .ok (.baload, 1) := by decide +kernel
theorem dX6_on_22 : decode cX6_on 22 = .ok (.ifCond .ne 7, 3) := by decide +kernel
theorem dX6_on_25 : decode cX6_on 25 = .ok (.iconst 1, 1) := by decide +kernel
theorem dX6_on_26 : decode cX6_on 26 = .ok (.goto 4, 3) := by decide +kernel
theorem dX6_on_29 : decode cX6_on 29 = .ok (.iconst 0, 1) := by decide +kernel
theorem dX6_on_30 : decode cX6_on 30 = .ok (.bastore, 1) := by decide +kernel
theorem dX6_on_31 : decode cX6_on 31 = .ok (.aload_n 0, 1) := by decide +kernel
theorem dX6_on_32 : decode cX6_on 32 = .ok (.invokevirtual 94, 3) := by decide +kernel
theorem dX6_on_35 : decode cX6_on 35 = .ok (.ireturn, 1) := by decide +kernel
theorem dX6_power_0 : decode cX6_power 0 = .ok (.aload_n 0, 1) := by decide +kernel
theorem dX6_power_1 : decode cX6_power 1 = .ok (.iload_n 1, 1) := by decide +kernel
theorem dX6_power_2 : decode cX6_power 2 = .ok (.invokevirtual 79, 3) := by decide +kernel
theorem dX6_power_5 : decode cX6_power 5 = .ok (.ifCond .eq 14, 3) := by decide +kernel
theorem dX6_power_8 : decode cX6_power 8 = .ok (.iload_n 2, 1) := by decide +kernel
theorem dX6_power_9 : decode cX6_power 9 = .ok (.iconst 0, 1) := by decide +kernel
theorem dX6_power_10 : decode cX6_power 10 = .ok (.sipush 999, 3) := by decide +kernel
theorem dX6_power_13 : decode cX6_power 13 = .ok (.invokestatic 75, 3) := by decide +kernel
theorem dX6_power_16 : decode cX6_power 16 = .ok (.ifCond .ne 6, 3) := by decide +kernel
theorem dX6_power_19 : decode cX6_power 19 = .ok (.bipush (-2), 2) := by decide +kernel
theorem dX6_power_21 : decode cX6_power 21 = .ok (.ireturn, 1) := by decide +kernel
theorem dX6_power_22 : decode cX6_power 22 = .ok (.aload_n 0, 1) := by decide +kernel
theorem dX6_power_23 : decode cX6_power 23 = .ok (.getfield 30, 3) := by decide +kernel
theorem dX6_power_26 : decode cX6_power 26 = .ok (.iload_n 1, 1) := by decide +kernel
theorem dX6_power_27 : decode cX6_power 27 = .ok (.iaload, 1) := by decide +kernel
theorem dX6_power_28 : decode cX6_power 28 = .ok (.istore_n 3, 1) := by decide +kernel
theorem dX6_power_29 : decode cX6_power 29 = .ok (.aload_n 0, 1) := by decide +kernel
theorem dX6_power_30 : decode cX6_power 30 = .ok (.getfield 30, 3) := by decide +kernel
theorem dX6_power_33 : decode cX6_power 33 = .ok (.iload_n 1, 1) := by decide +kernel
theorem dX6_power_34 : decode cX6_power 34 = .ok (.iload_n 2, 1) := by decide +kernel
theorem dX6_power_35 : decode cX6_power 35 = .ok (.iastore, 1) := by decide +kernel
theorem dX6_power_36 : decode cX6_power 36 = .ok (.iload_n 3, 1) := by decide +kernel
theorem dX6_power_37 : decode cX6_power 37 = .ok (.ireturn, 1) := by decide +kernel
theorem dX6_rule_0 : decode cX6_rule 0 = .ok (.iload_n 1, 1) := by decide +kernel
theorem dX6_rule_1 : decode cX6_rule 1 = .ok (.iconst 0, 1) := by decide +kernel
theorem dX6_rule_2 : decode cX6_rule 2 = .ok (.iconst 2, 1) := by decide +kernel
theorem dX6_rule_3 : decode cX6_rule 3 = .ok (.invokestatic 75, 3) := by decide +kernel
theorem dX6_rule_6 : decode cX6_rule 6 = .ok (.ifCond .ne 6, 3) := by decide +kernel
theorem dX6_rule_9 : decode cX6_rule 9 = .ok (.bipush (-2), 2) := by decide +kernel
theorem dX6_rule_11 : decode cX6_rule 11 = .ok (.ireturn, 1) := by decide +kernel
theorem dX6_rule_12 : decode cX6_rule 12 = .ok (.aload_n 0, 1) := by decide +kernel
theorem dX6_rule_13 : decode cX6_rule 13 = .ok (.getfield 98, 3) := by decide +kernel
theorem dX6_rule_16 : decode cX6_rule 16 = .ok (.istore_n 2, 1) := by decide +kernel
theorem dX6_rule_17 : decode cX6_rule 17 = .ok (.aload_n 0, 1) := by decide +kernel
theorem dX6_rule_18 : decode cX6_rule 18 = .ok (.iload_n 1, 1) := by decide +kernel
theorem dX6_rule_19 : decode cX6_rule 19 = .ok (.putfield 98, 3) := by decide +kernel
theorem dX6_rule_22 : decode cX6_rule 22 = .ok (.iload_n 2, 1) := by decide +kernel
theorem dX6_rule_23 : decode cX6_rule 23 = .ok (.ireturn, 1) := by decide +kernel
theorem dX6_type_0 : decode cX6_type 0 = .ok (.iload_n 1, 1) := by decide +kernel
theorem dX6_type_1 : decode cX6_type 1 = .ok (.iconst 0, 1) := by decide +kernel
theorem dX6_type_2 : decode cX6_type 2 = .ok (.sipush 255, 3) := by decide +kernel
theorem dX6_type_5 : decode cX6_type 5 = .ok (.invokestatic 75, 3) := by decide +kernel
theorem dX6_type_8 : decode cX6_type 8 = .ok (.ifCond .ne 6, 3) := by decide +kernel
theorem dX6_type_11 : decode cX6_type 11 = .ok (.bipush (-2), 2) := by decide +kernel
theorem dX6_type_13 : decode cX6_type 13 = .ok (.ireturn, 1) := by decide +kernel
theorem dX6_type_14 : decode cX6_type 14 = .ok (.aload_n 0, 1) := by decide +kernel
theorem dX6_type_15 : decode cX6_type 15 = .ok (.getfield 101, 3) := by decide +kernel
theorem dX6_type_18 : decode cX6_type 18 = .ok (.bipush 12, 2) := by decide +kernel
theorem dX6_type_20 : decode cX6_type 20 = .ok (.if_icmp .ne 6, 3) := by decide +kernel
theorem dX6_type_23 : decode cX6_type 23 = .ok (.bipush (-4), 2) := by decide +kernel
theorem dX6_type_25 : decode cX6_type 25 = .ok (.ireturn, 1) := by decide +kernel
theorem dX6_type_26 : decode cX6_type 26 = .ok (.aload_n 0, 1) := by decide +kernel
theorem dX6_type_27 : decode cX6_type 27 = .ok (.getfield 33, 3) := by decide +kernel
theorem dX6_type_30 : decode cX6_type 30 = .ok (.aload_n 0, 1) := by decide +kernel
theorem dX6_type_31 : decode cX6_type 31 = .ok (.getfield 101, 3) := by decide +kernel
theorem dX6_type_34 : decode cX6_type 34 = .ok (.iload_n 1, 1) := by decide +kernel
theorem dX6_type_35 : decode cX6_type 35 = .ok (.iastore, 1) := by decide +kernel
theorem dX6_type_36 : decode cX6_type 36 = .ok (.aload_n 0, 1) := by decide +kernel
theorem dX6_type_37 : decode cX6_type 37 = .ok (.dup, 1) := by decide +kernel
theorem dX6_type_38 : decode cX6_type 38 = .ok (.getfield 101, 3) := by decide +kernel
theorem dX6_type_41 : decode cX6_type 41 = .ok (.iconst 1, 1) := by decide +kernel
theorem dX6_type_42 : decode cX6_type 42 = .ok (.iadd, 1) := by decide +kernel
theorem dX6_type_43 : decode cX6_type 43 = .ok (.putfield 101, 3) := by decide +kernel
theorem dX6_type_46 : decode cX6_type 46 = .ok (.aload_n 0, 1) := by decide +kernel
theorem dX6_type_47 : decode cX6_type 47 = .ok (.getfield 101, 3) := by decide +kernel
theorem dX6_type_50 : decode cX6_type 50 = .ok (.ireturn, 1) := by decide +kernel
theorem dX6_wipe_0 : decode cX6_wipe 0 = .ok (.aload_n 0, 1) := by decide +kernel
theorem dX6_wipe_1 : decode cX6_wipe 1 = .ok (.getfield 101, 3) := by decide +kernel
theorem dX6_wipe_4 : decode cX6_wipe 4 = .ok (.istore_n 1, 1) := by decide +kernel
theorem dX6_wipe_5 : decode cX6_wipe 5 = .ok (.aload_n 0, 1) := by decide +kernel
theorem dX6_wipe_6 : decode cX6_wipe 6 = .ok (.iconst 0, 1) := by decide +kernel
theorem dX6_wipe_7 : decode cX6_wipe 7 = .ok (.putfield 101, 3) := by decide +kernel
theorem dX6_wipe_10 : decode cX6_wipe 10 = .ok (.iload_n 1, 1) := by decide +kernel
theorem dX6_wipe_11 : decode cX6_wipe 11 = .ok (.ireturn, 1) := by decide +kernel
theorem dX6_fault_0 : decode cX6_fault 0 = .ok (.iconst (-1), 1) := by decide +kernel
theorem dX6_fault_1 : decode cX6_fault 1 = .ok (.istore_n 1, 1) := by decide +kernel
theorem dX6_fault_2 : decode cX6_fault 2 = .ok (.aload_n 0, 1) := by decide +kernel
theorem dX6_fault_3 : decode cX6_fault 3 = .ok (.getfield 101, 3) := by decide +kernel
theorem dX6_fault_6 : decode cX6_fault 6 = .ok (.iconst 1, 1) := by decide +kernel
theorem dX6_fault_7 : decode cX6_fault 7 = .ok (.isub, 1) := by decide +kernel
theorem dX6_fault_8 : decode cX6_fault 8 = .ok (.istore_n 2, 1) := by decide +kernel
theorem dX6_fault_9 : decode cX6_fault 9 = .ok (.iload_n 2, 1) := by decide +kernel
theorem dX6_fault_10 : decode cX6_fault 10 = .ok (.ifCond .lt 31, 3) := by decide +kernel
theorem dX6_fault_13 : decode cX6_fault 13 = .ok (.aload_n 0, 1) := by decide +kernel
theorem dX6_fault_14 : decode cX6_fault 14 = .ok (.aload_n 0, 1) := by decide +kernel
theorem dX6_fault_15 : decode cX6_fault 15 = .ok (.getfield 33, 3) := by decide +kernel
theorem dX6_fault_18 : decode cX6_fault 18 = .ok (.iload_n 2, 1) := by decide +kernel
theorem dX6_fault_19 : decode cX6_fault 19 = .ok (.iaload, 1) := by decide +kernel
theorem dX6_fault_20 : decode cX6_fault 20 = .ok (.bipush 97, 2) := by decide +kernel
theorem dX6_fault_22 : decode cX6_fault 22 = .ok (.isub, 1) := by decide +kernel
theorem dX6_fault_23 : decode cX6_fault 23 = .ok (.invokevirtual 79, 3) := by decide +kernel
theorem dX6_fault_26 : decode cX6_fault 26 = .ok (.ifCond .eq 7, 3) := by decide +kernel
theorem dX6_fault_29 : decode cX6_fault 29 = .ok (.iload_n 1, 1) := by decide +kernel
theorem dX6_fault_30 : decode cX6_fault 30 = .ok (.goto 4, 3) := by decide +kernel
theorem dX6_fault_33 : decode cX6_fault 33 = .ok (.iload_n 2, 1) := by decide +kernel
theorem dX6_fault_34 : decode cX6_fault 34 = .ok (.istore_n 1, 1) := by decide +kernel
theorem dX6_fault_35 : decode cX6_fault 35 = .ok (.iinc 2 (-1), 3) := by decide +kernel
theorem dX6_fault_38 : decode cX6_fault 38 = .ok (.goto (-29), 3) := by decide +kernel
theorem dX6_fault_41 : decode cX6_fault 41 = .ok (.iload_n 1, 1) := by decide +kernel
theorem dX6_fault_42 : decode cX6_fault 42 = .ok (.ireturn, 1) := by decide +kernel
theorem dX6_read_0 : decode cX6_read 0 = .ok (.iload_n 1, 1) := by decide +kernel
theorem dX6_read_1 : decode cX6_read 1 = .ok (.invokestatic 104, 3) := by decide +kernel
theorem dX6_read_4 : decode cX6_read 4 = .ok (.ifCond .ne 6, 3) := by decide +kernel
theorem dX6_read_7 : decode cX6_read 7 = .ok (.bipush (-2), 2) := by decide +kernel
theorem dX6_read_9 : decode cX6_read 9 = .ok (.ireturn, 1) := by decide +kernel
theorem dX6_read_10 : decode cX6_read 10 = .ok (.aload_n 0, 1) := by decide +kernel
theorem dX6_read_11 : decode cX6_read 11 = .ok (.getfield 58, 3) := by decide +kernel
theorem dX6_read_14 : decode cX6_read 14 = .ok (.iload_n 1, 1) := by decide +kernel
theorem dX6_read_15 : decode cX6_read 15 = .ok (.baload, 1) := by decide +kernel
theorem dX6_read_16 : decode cX6_read 16 = .ok (.ifCond .ne 9, 3) := by decide +kernel
theorem dX6_read_19 : decode cX6_read 19 = .ok (.aload_n 0, 1) := by decide +kernel
theorem dX6_read_20 : decode cX6_read 20 = .ok (.iconst 1, 1) := by decide +kernel
theorem dX6_read_21 : decode cX6_read 21 = .ok (.invokevirtual 107, 3) := by decide +kernel
theorem dX6_read_24 : decode cX6_read 24 = .ok (.ireturn, 1) := by decide +kernel
theorem dX6_read_25 : decode cX6_read 25 = .ok (.iconst 0, 1) := by decide +kernel
theorem dX6_read_26 : decode cX6_read 26 = .ok (.istore_n 2, 1) := by decide +kernel
theorem dX6_read_27 : decode cX6_read 27 = .ok (.iload_n 2, 1) := by decide +kernel
theorem dX6_read_28 : decode cX6_read 28 = .ok (.aload_n 0, 1) := by decide +kernel
theorem dX6_read_29 : decode cX6_read 29 = .ok (.getfield 64, 3) := by decide +kernel
theorem dX6_read_32 : decode cX6_read 32 = .ok (.iload_n 1, 1) := by decide +kernel
theorem dX6_read_33 : decode cX6_read 33 = .ok (.iaload, 1) := by decide +kernel
theorem dX6_read_34 : decode cX6_read 34 = .ok (.if_icmp .ge 82, 3) := by decide +kernel
theorem dX6_read_37 : decode cX6_read 37 = .ok (.iload_n 2, 1) := by decide +kernel
theorem dX6_read_38 : decode cX6_read 38 = .ok (.aload_n 0, 1) := by decide +kernel
theorem dX6_read_39 : decode cX6_read 39 = .ok (.getfield 7, 3) := by decide +kernel
theorem dX6_read_42 : decode cX6_read 42 = .ok (.aload_n 0, 1) := by decide +kernel
theorem dX6_read_43 : decode cX6_read 43 = .ok (.getfield 7, 3) := by decide +kernel
theorem dX6_read_46 : decode cX6_read 46 = .ok (.imul, 1) := by decide +kernel
theorem dX6_read_47 : decode cX6_read 47 = .ok (.if_icmp .ge 69, 3) := by decide +kernel
theorem dX6_read_50 : decode cX6_read 50 = .ok (.iload_n 2, 1) := by decide +kernel
theorem dX6_read_51 : decode cX6_read 51 = .ok (.aload_n 0, 1) := by decide +kernel
theorem dX6_read_52 : decode cX6_read 52 = .ok (.getfield 7, 3) := by decide +kernel
theorem dX6_read_55 : decode cX6_read 55 = .ok (.idiv, 1) := by decide +kernel
theorem dX6_read_56 : decode cX6_read 56 = .ok (.iload_n 2, 1) := by decide +kernel
theorem dX6_read_57 : decode cX6_read 57 = .ok (.aload_n 0, 1) := by decide +kernel
theorem dX6_read_58 : decode cX6_read 58 = .ok (.getfield 7, 3) := by decide +kernel
theorem dX6_read_61 : decode cX6_read 61 = .ok (.irem, 1) := by decide +kernel
theorem dX6_read_62 : decode cX6_read 62 = .ok (.aload_n 0, 1) := by decide +kernel
theorem dX6_read_63 : decode cX6_read 63 = .ok (.getfield 67, 3) := by decide +kernel
theorem dX6_read_66 : decode cX6_read 66 = .ok (.bipush 60, 2) := by decide +kernel
theorem dX6_read_68 : decode cX6_read 68 = .ok (.iload_n 1, 1) := by decide +kernel
theorem dX6_read_69 : decode cX6_read 69 = .ok (.imul, 1) := by decide +kernel
theorem dX6_read_70 : decode cX6_read 70 = .ok (.iload_n 2, 1) := by decide +kernel
theorem dX6_read_71 : decode cX6_read 71 = .ok (.iadd, 1) := by decide +kernel
theorem dX6_read_72 : decode cX6_read 72 = .ok (.iaload, 1) := by decide +kernel
theorem dX6_read_73 : decode cX6_read 73 = .ok (.invokestatic 83, 3) := by decide +kernel
theorem dX6_read_76 : decode cX6_read 76 = .ok (.ifCond .eq 40, 3) := by decide +kernel
theorem dX6_read_79 : decode cX6_read 79 = .ok (.aload_n 0, 1) := by decide +kernel
theorem dX6_read_80 : decode cX6_read 80 = .ok (.getfield 13, 3) := by decide +kernel
theorem dX6_read_83 : decode cX6_read 83 = .ok (.iconst 5, 1) := by decide +kernel
theorem dX6_read_84 : decode cX6_read 84 = .ok (.iload_n 2, 1) := by decide +kernel
theorem dX6_read_85 : decode cX6_read 85 = .ok (.aload_n 0, 1) := by decide +kernel
theorem dX6_read_86 : decode cX6_read 86 = .ok (.getfield 7, 3) := by decide +kernel
theorem dX6_read_89 : decode cX6_read 89 = .ok (.idiv, 1) := by decide +kernel
theorem dX6_read_90 : decode cX6_read 90 = .ok (.imul, 1) := by decide +kernel
theorem dX6_read_91 : decode cX6_read 91 = .ok (.iload_n 2, 1) := by decide +kernel
theorem dX6_read_92 : decode cX6_read 92 = .ok (.aload_n 0, 1) := by decide +kernel
theorem dX6_read_93 : decode cX6_read 93 = .ok (.getfield 7, 3) := by decide +kernel
theorem dX6_read_96 : decode cX6_read 96 = .ok (.irem, 1) := by decide +kernel
theorem dX6_read_97 : decode cX6_read 97 = .ok (.iadd, 1) := by decide +kernel
theorem dX6_read_98 : decode cX6_read 98 = .ok (.aload_n 0, 1) := by decide +kernel
theorem dX6_read_99 : decode cX6_read 99 = .ok (.getfield 67, 3) := by decide +kernel
theorem dX6_read_102 : decode cX6_read 102 = .ok (.bipush 60, 2) := by decide +kernel
theorem dX6_read_104 : decode cX6_read 104 = .ok (.iload_n 1, 1) := by decide +kernel
theorem dX6_read_105 : decode cX6_read 105 = .ok (.imul, 1) := by decide +kernel
theorem dX6_read_106 : decode cX6_read 106 = .ok (.iload_n 2, 1) := by decide +kernel
theorem dX6_read_107 : decode cX6_read 107 = .ok (.iadd, 1) := by decide +kernel
theorem dX6_read_108 : decode cX6_read 108 = .ok (.iaload, 1) := by decide +kernel
theorem dX6_read_109 : decode cX6_read 109 = .ok (.iastore, 1) := by decide +kernel
theorem dX6_read_110 : decode cX6_read 110 = .ok (.iinc 2 1, 3) := by decide +kernel
theorem dX6_read_113 : decode cX6_read 113 = .ok (.goto (-86), 3) := by decide +kernel
theorem dX6_read_116 : decode cX6_read 116 = .ok (.iload_n 2, 1) := by decide +kernel
theorem dX6_read_117 : decode cX6_read 117 = .ok (.ireturn, 1) := by decide +kernel
theorem dX6_heardBy_0 : decode cX6_heardBy 0 = .ok (.aload_n 0, 1) := by decide +kernel
theorem dX6_heardBy_1 : decode cX6_heardBy 1 = .ok (.getfield 20, 3) := by decide +kernel
theorem dX6_heardBy_4 : decode cX6_heardBy 4 = .ok (.iload_n 1, 1) := by decide +kernel
theorem dX6_heardBy_5 : decode cX6_heardBy 5 = .ok (.iaload, 1) := by decide +kernel
theorem dX6_heardBy_6 : decode cX6_heardBy 6 = .ok (.istore_n 2, 1) := by decide +kernel
theorem dX6_heardBy_7 : decode cX6_heardBy 7 = .ok (.iconst 0, 1) := by decide +kernel
theorem dX6_heardBy_8 : decode cX6_heardBy 8 = .ok (.istore_n 3, 1) := by decide +kernel
theorem dX6_heardBy_9 : decode cX6_heardBy 9 = .ok (.iload_n 3, 1) := by decide +kernel
theorem dX6_heardBy_10 : decode cX6_heardBy 10 = .ok (.aload_n 0, 1) := by decide +kernel
theorem dX6_heardBy_11 : decode cX6_heardBy 11 = .ok (.getfield 7, 3) := by decide +kernel
theorem dX6_heardBy_14 : decode cX6_heardBy 14 = .ok (.if_icmp .ge 47, 3) := by decide +kernel
theorem dX6_heardBy_17 : decode cX6_heardBy 17 = .ok (.iload_n 2, 1) := by decide +kernel
theorem dX6_heardBy_18 : decode cX6_heardBy 18 = .ok (.iload_n 3, 1) := by decide +kernel
theorem dX6_heardBy_19 : decode cX6_heardBy 19 = .ok (.iload_n 1, 1) := by decide +kernel
theorem dX6_heardBy_20 : decode cX6_heardBy 20 = .ok (.if_icmp .eq 32, 3) := by decide +kernel
theorem dX6_heardBy_23 : decode cX6_heardBy 23 = .ok (.aload_n 0, 1) := by decide +kernel
theorem dX6_heardBy_24 : decode cX6_heardBy 24 = .ok (.getfield 26, 3) := by decide +kernel
theorem dX6_heardBy_27 : decode cX6_heardBy 27 = .ok (.iload_n 3, 1) := by decide +kernel
theorem dX6_heardBy_28 : decode cX6_heardBy 28 = .ok (.baload, 1) := by decide +kernel
theorem dX6_heardBy_29 : decode cX6_heardBy 29 = .ok (.ifCond .eq 23, 3) := by decide +kernel
theorem dX6_heardBy_32 : decode cX6_heardBy 32 = .ok (.aload_n 0, 1) := by decide +kernel
theorem dX6_heardBy_33 : decode cX6_heardBy 33 = .ok (.getfield 13, 3) := by decide +kernel
theorem dX6_heardBy_36 : decode cX6_heardBy 36 = .ok (.iconst 5, 1) := by decide +kernel
theorem dX6_heardBy_37 : decode cX6_heardBy 37 = .ok (.iload_n 1, 1) := by decide +kernel
theorem dX6_heardBy_38 : decode cX6_heardBy 38 = .ok (.imul, 1) := by decide +kernel
theorem dX6_heardBy_39 : decode cX6_heardBy 39 = .ok (.iload_n 3, 1) := by decide +kernel
theorem dX6_heardBy_40 : decode cX6_heardBy 40 = .ok (.iadd, 1) := by decide +kernel
theorem dX6_heardBy_41 : decode cX6_heardBy 41 = .ok (.iaload, 1) := by decide +kernel
theorem dX6_heardBy_42 : decode cX6_heardBy 42 = .ok (.aload_n 0, 1) := by decide +kernel
theorem dX6_heardBy_43 : decode cX6_heardBy 43 = .ok (.getfield 49, 3) := by decide +kernel
theorem dX6_heardBy_46 : decode cX6_heardBy 46 = .ok (.iload_n 3, 1) := by decide +kernel
theorem dX6_heardBy_47 : decode cX6_heardBy 47 = .ok (.iaload, 1) := by decide +kernel
theorem dX6_heardBy_48 : decode cX6_heardBy 48 = .ok (.imul, 1) := by decide +kernel
theorem dX6_heardBy_49 : decode cX6_heardBy 49 = .ok (.goto 4, 3) := by decide +kernel
theorem dX6_heardBy_52 : decode cX6_heardBy 52 = .ok (.iconst 0, 1) := by decide +kernel
theorem dX6_heardBy_53 : decode cX6_heardBy 53 = .ok (.iadd, 1) := by decide +kernel
theorem dX6_heardBy_54 : decode cX6_heardBy 54 = .ok (.istore_n 2, 1) := by decide +kernel
theorem dX6_heardBy_55 : decode cX6_heardBy 55 = .ok (.iinc 3 1, 3) := by decide +kernel
theorem dX6_heardBy_58 : decode cX6_heardBy 58 = .ok (.goto (-49), 3) := by decide +kernel
theorem dX6_heardBy_61 : decode cX6_heardBy 61 = .ok (.iload_n 2, 1) := by decide +kernel
theorem dX6_heardBy_62 : decode cX6_heardBy 62 = .ok (.ireturn, 1) := by decide +kernel
theorem dX6_triesNow_0 : decode cX6_triesNow 0 = .ok (.iconst 0, 1) := by decide +kernel
theorem dX6_triesNow_1 : decode cX6_triesNow 1 = .ok (.istore_n 1, 1) := by decide +kernel
theorem dX6_triesNow_2 : decode cX6_triesNow 2 = .ok (.iload_n 1, 1) := by decide +kernel
theorem dX6_triesNow_3 : decode cX6_triesNow 3 = .ok (.iconst 5, 1) := by decide +kernel
theorem dX6_triesNow_4 : decode cX6_triesNow 4 = .ok (.if_icmp .ge 21, 3) := by decide +kernel
theorem dX6_triesNow_7 : decode cX6_triesNow 7 = .ok (.aload_n 0, 1) := by decide +kernel
theorem dX6_triesNow_8 : decode cX6_triesNow 8 = .ok (.getfield 49, 3) := by decide +kernel
theorem dX6_triesNow_11 : decode cX6_triesNow 11 = .ok (.iload_n 1, 1) := by decide +kernel
theorem dX6_triesNow_12 : decode cX6_triesNow 12 = .ok (.aload_n 0, 1) := by decide +kernel
theorem dX6_triesNow_13 : decode cX6_triesNow 13 = .ok (.getfield 30, 3) := by decide +kernel
theorem dX6_triesNow_16 : decode cX6_triesNow 16 = .ok (.iload_n 1, 1) := by decide +kernel
theorem dX6_triesNow_17 : decode cX6_triesNow 17 = .ok (.iaload, 1) := by decide +kernel
theorem dX6_triesNow_18 : decode cX6_triesNow 18 = .ok (.iastore, 1) := by decide +kernel
theorem dX6_triesNow_19 : decode cX6_triesNow 19 = .ok (.iinc 1 1, 3) := by decide +kernel
theorem dX6_triesNow_22 : decode cX6_triesNow 22 = .ok (.goto (-20), 3) := by decide +kernel
theorem dX6_triesNow_25 : decode cX6_triesNow 25 = .ok (.return_, 1) := by decide +kernel
theorem dX6_needOf_0 : decode cX6_needOf 0 = .ok (.bipush 10, 2) := by decide +kernel
theorem dX6_needOf_2 : decode cX6_needOf 2 = .ok (.aload_n 0, 1) := by decide +kernel
theorem dX6_needOf_3 : decode cX6_needOf 3 = .ok (.getfield 13, 3) := by decide +kernel
theorem dX6_needOf_6 : decode cX6_needOf 6 = .ok (.bipush 6, 2) := by decide +kernel
theorem dX6_needOf_8 : decode cX6_needOf 8 = .ok (.iload_n 1, 1) := by decide +kernel
theorem dX6_needOf_9 : decode cX6_needOf 9 = .ok (.imul, 1) := by decide +kernel
theorem dX6_needOf_10 : decode cX6_needOf 10 = .ok (.iaload, 1) := by decide +kernel
theorem dX6_needOf_11 : decode cX6_needOf 11 = .ok (.imul, 1) := by decide +kernel
theorem dX6_needOf_12 : decode cX6_needOf 12 = .ok (.istore_n 2, 1) := by decide +kernel
theorem dX6_needOf_13 : decode cX6_needOf 13 = .ok (.aload_n 0, 1) := by decide +kernel
theorem dX6_needOf_14 : decode cX6_needOf 14 = .ok (.getfield 17, 3) := by decide +kernel
theorem dX6_needOf_17 : decode cX6_needOf 17 = .ok (.iload_n 1, 1) := by decide +kernel
theorem dX6_needOf_18 : decode cX6_needOf 18 = .ok (.iaload, 1) := by decide +kernel
theorem dX6_needOf_19 : decode cX6_needOf 19 = .ok (.aload_n 0, 1) := by decide +kernel
theorem dX6_needOf_20 : decode cX6_needOf 20 = .ok (.iload_n 1, 1) := by decide +kernel
theorem dX6_needOf_21 : decode cX6_needOf 21 = .ok (.invokevirtual 111, 3) := by decide +kernel
theorem dX6_needOf_24 : decode cX6_needOf 24 = .ok (.imul, 1) := by decide +kernel
theorem dX6_needOf_25 : decode cX6_needOf 25 = .ok (.iload_n 2, 1) := by decide +kernel
theorem dX6_needOf_26 : decode cX6_needOf 26 = .ok (.iadd, 1) := by decide +kernel
theorem dX6_needOf_27 : decode cX6_needOf 27 = .ok (.iconst 1, 1) := by decide +kernel
theorem dX6_needOf_28 : decode cX6_needOf 28 = .ok (.isub, 1) := by decide +kernel
theorem dX6_needOf_29 : decode cX6_needOf 29 = .ok (.iload_n 2, 1) := by decide +kernel
theorem dX6_needOf_30 : decode cX6_needOf 30 = .ok (.idiv, 1) := by decide +kernel
theorem dX6_needOf_31 : decode cX6_needOf 31 = .ok (.ireturn, 1) := by decide +kernel
theorem dX6_hasWish_0 : decode cX6_hasWish 0 = .ok (.aload_n 0, 1) := by decide +kernel
theorem dX6_hasWish_1 : decode cX6_hasWish 1 = .ok (.invokevirtual 114, 3) := by decide +kernel
theorem dX6_hasWish_4 : decode cX6_hasWish 4 = .ok (.aload_n 0, 1) := by decide +kernel
theorem dX6_hasWish_5 : decode cX6_hasWish 5 = .ok (.getfield 26, 3) := by decide +kernel
theorem dX6_hasWish_8 : decode cX6_hasWish 8 = .ok (.iload_n 1, 1) := by decide +kernel
theorem dX6_hasWish_9 : decode cX6_hasWish 9 = .ok (.baload, 1) := by decide +kernel
theorem dX6_hasWish_10 : decode cX6_hasWish 10 = .ok (.ifCond .eq 41, 3) := by decide +kernel
theorem dX6_hasWish_13 : decode cX6_hasWish 13 = .ok (.bipush 10, 2) := by decide +kernel
theorem dX6_hasWish_15 : decode cX6_hasWish 15 = .ok (.aload_n 0, 1) := by decide +kernel
theorem dX6_hasWish_16 : decode cX6_hasWish 16 = .ok (.getfield 13, 3) := by decide +kernel
theorem dX6_hasWish_19 : decode cX6_hasWish 19 = .ok (.bipush 6, 2) := by decide +kernel
theorem dX6_hasWish_21 : decode cX6_hasWish 21 = .ok (.iload_n 1, 1) := by decide +kernel
theorem dX6_hasWish_22 : decode cX6_hasWish 22 = .ok (.imul, 1) := by decide +kernel
theorem dX6_hasWish_23 : decode cX6_hasWish 23 = .ok (.iaload, 1) := by decide +kernel
theorem dX6_hasWish_24 : decode cX6_hasWish 24 = .ok (.imul, 1) := by decide +kernel
theorem dX6_hasWish_25 : decode cX6_hasWish 25 = .ok (.aload_n 0, 1) := by decide +kernel
theorem dX6_hasWish_26 : decode cX6_hasWish 26 = .ok (.getfield 30, 3) := by decide +kernel
theorem dX6_hasWish_29 : decode cX6_hasWish 29 = .ok (.iload_n 1, 1) := by decide +kernel
theorem dX6_hasWish_30 : decode cX6_hasWish 30 = .ok (.iaload, 1) := by decide +kernel
theorem dX6_hasWish_31 : decode cX6_hasWish 31 = .ok (.imul, 1) := by decide +kernel
theorem dX6_hasWish_32 : decode cX6_hasWish 32 = .ok (.aload_n 0, 1) := by decide +kernel
theorem dX6_hasWish_33 : decode cX6_hasWish 33 = .ok (.getfield 17, 3) := by decide +kernel
theorem dX6_hasWish_36 : decode cX6_hasWish 36 = .ok (.iload_n 1, 1) := by decide +kernel
theorem dX6_hasWish_37 : decode cX6_hasWish 37 = .ok (.iaload, 1) := by decide +kernel
theorem dX6_hasWish_38 : decode cX6_hasWish 38 = .ok (.aload_n 0, 1) := by decide +kernel
theorem dX6_hasWish_39 : decode cX6_hasWish 39 = .ok (.iload_n 1, 1) := by decide +kernel
theorem dX6_hasWish_40 : decode cX6_hasWish 40 = .ok (.invokevirtual 111, 3) := by decide +kernel
theorem dX6_hasWish_43 : decode cX6_hasWish 43 = .ok (.imul, 1) := by decide +kernel
theorem dX6_hasWish_44 : decode cX6_hasWish 44 = .ok (.if_icmp .lt 7, 3) := by decide +kernel
theorem dX6_hasWish_47 : decode cX6_hasWish 47 = .ok (.iconst 1, 1) := by decide +kernel
theorem dX6_hasWish_48 : decode cX6_hasWish 48 = .ok (.goto 4, 3) := by decide +kernel
theorem dX6_hasWish_51 : decode cX6_hasWish 51 = .ok (.iconst 0, 1) := by decide +kernel
theorem dX6_hasWish_52 : decode cX6_hasWish 52 = .ok (.ireturn, 1) := by decide +kernel
theorem dX6_infoOf_0 : decode cX6_infoOf 0 = .ok (.aload_n 0, 1) := by decide +kernel
theorem dX6_infoOf_1 : decode cX6_infoOf 1 = .ok (.invokevirtual 114, 3) := by decide +kernel
theorem dX6_infoOf_4 : decode cX6_infoOf 4 = .ok (.iload_n 2, 1) := by decide +kernel
theorem dX6_infoOf_5 : decode cX6_infoOf 5 = .ok (.tableswitch 92 0 6 #[43, 43, 43, 50, 65, 72, 78], 43) := by decide +kernel
theorem dX6_infoOf_48 : decode cX6_infoOf 48 = .ok (.aload_n 0, 1) := by decide +kernel
theorem dX6_infoOf_49 : decode cX6_infoOf 49 = .ok (.iload_n 1, 1) := by decide +kernel
theorem dX6_infoOf_50 : decode cX6_infoOf 50 = .ok (.iload_n 2, 1) := by decide +kernel
theorem dX6_infoOf_51 : decode cX6_infoOf 51 = .ok (.invokevirtual 90, 3) := by decide +kernel
theorem dX6_infoOf_54 : decode cX6_infoOf 54 = .ok (.ireturn, 1) := by decide +kernel
theorem dX6_infoOf_55 : decode cX6_infoOf 55 = .ok (.aload_n 0, 1) := by decide +kernel
theorem dX6_infoOf_56 : decode cX6_infoOf 56 = .ok (.getfield 26, 3) := by decide +kernel
theorem dX6_infoOf_59 : decode cX6_infoOf 59 = .ok (.iload_n 1, 1) := by decide +kernel
theorem dX6_infoOf_60 : decode cX6_infoOf 60 = .ok (.baload, 1) := by decide +kernel
theorem dX6_infoOf_61 : decode cX6_infoOf 61 = .ok (.ifCond .eq 7, 3) := by decide +kernel
theorem dX6_infoOf_64 : decode cX6_infoOf 64 = .ok (.iconst 1, 1) := by decide +kernel
theorem dX6_infoOf_65 : decode cX6_infoOf 65 = .ok (.goto 4, 3) := by decide +kernel
theorem dX6_infoOf_68 : decode cX6_infoOf 68 = .ok (.iconst 0, 1) := by decide +kernel
theorem dX6_infoOf_69 : decode cX6_infoOf 69 = .ok (.ireturn, 1) := by decide +kernel
theorem dX6_infoOf_70 : decode cX6_infoOf 70 = .ok (.aload_n 0, 1) := by decide +kernel
theorem dX6_infoOf_71 : decode cX6_infoOf 71 = .ok (.getfield 30, 3) := by decide +kernel
theorem dX6_infoOf_74 : decode cX6_infoOf 74 = .ok (.iload_n 1, 1) := by decide +kernel
theorem dX6_infoOf_75 : decode cX6_infoOf 75 = .ok (.iaload, 1) := by decide +kernel
theorem dX6_infoOf_76 : decode cX6_infoOf 76 = .ok (.ireturn, 1) := by decide +kernel
theorem dX6_infoOf_77 : decode cX6_infoOf 77 = .ok (.aload_n 0, 1) := by decide +kernel
theorem dX6_infoOf_78 : decode cX6_infoOf 78 = .ok (.iload_n 1, 1) := by decide +kernel
theorem dX6_infoOf_79 : decode cX6_infoOf 79 = .ok (.invokevirtual 117, 3) := by decide +kernel
theorem dX6_infoOf_82 : decode cX6_infoOf 82 = .ok (.ireturn, 1) := by decide +kernel
theorem dX6_infoOf_83 : decode cX6_infoOf 83 = .ok (.aload_n 0, 1) := by decide +kernel
theorem dX6_infoOf_84 : decode cX6_infoOf 84 = .ok (.iload_n 1, 1) := by decide +kernel
theorem dX6_infoOf_85 : decode cX6_infoOf 85 = .ok (.invokevirtual 120, 3) := by decide +kernel
theorem dX6_infoOf_88 : decode cX6_infoOf 88 = .ok (.ifCond .eq 7, 3) := by decide +kernel
theorem dX6_infoOf_91 : decode cX6_infoOf 91 = .ok (.iconst 1, 1) := by decide +kernel
theorem dX6_infoOf_92 : decode cX6_infoOf 92 = .ok (.goto 4, 3) := by decide +kernel
theorem dX6_infoOf_95 : decode cX6_infoOf 95 = .ok (.iconst 0, 1) := by decide +kernel
theorem dX6_infoOf_96 : decode cX6_infoOf 96 = .ok (.ireturn, 1) := by decide +kernel
theorem dX6_infoOf_97 : decode cX6_infoOf 97 = .ok (.aload_n 0, 1) := by decide +kernel
theorem dX6_infoOf_98 : decode cX6_infoOf 98 = .ok (.getfield 13, 3) := by decide +kernel
theorem dX6_infoOf_101 : decode cX6_infoOf 101 = .ok (.bipush 6, 2) := by decide +kernel
theorem dX6_infoOf_103 : decode cX6_infoOf 103 = .ok (.iload_n 1, 1) := by decide +kernel
theorem dX6_infoOf_104 : decode cX6_infoOf 104 = .ok (.imul, 1) := by decide +kernel
theorem dX6_infoOf_105 : decode cX6_infoOf 105 = .ok (.iaload, 1) := by decide +kernel
theorem dX6_infoOf_106 : decode cX6_infoOf 106 = .ok (.ireturn, 1) := by decide +kernel
theorem dX6_info_0 : decode cX6_info 0 = .ok (.aload_n 0, 1) := by decide +kernel
theorem dX6_info_1 : decode cX6_info 1 = .ok (.iload_n 1, 1) := by decide +kernel
theorem dX6_info_2 : decode cX6_info 2 = .ok (.invokevirtual 79, 3) := by decide +kernel
theorem dX6_info_5 : decode cX6_info 5 = .ok (.ifCond .eq 22, 3) := by decide +kernel
theorem dX6_info_8 : decode cX6_info 8 = .ok (.iload_n 2, 1) := by decide +kernel
theorem dX6_info_9 : decode cX6_info 9 = .ok (.iconst 0, 1) := by decide +kernel
theorem dX6_info_10 : decode cX6_info 10 = .ok (.bipush 7, 2) := by decide +kernel
theorem dX6_info_12 : decode cX6_info 12 = .ok (.invokestatic 75, 3) := by decide +kernel
theorem dX6_info_15 : decode cX6_info 15 = .ok (.ifCond .eq 12, 3) := by decide +kernel
theorem dX6_info_18 : decode cX6_info 18 = .ok (.aload_n 0, 1) := by decide +kernel
theorem dX6_info_19 : decode cX6_info 19 = .ok (.iload_n 1, 1) := by decide +kernel
theorem dX6_info_20 : decode cX6_info 20 = .ok (.iload_n 2, 1) := by decide +kernel
theorem dX6_info_21 : decode cX6_info 21 = .ok (.invokevirtual 123, 3) := by decide +kernel
theorem dX6_info_24 : decode cX6_info 24 = .ok (.goto 5, 3) := by decide +kernel
theorem dX6_info_27 : decode cX6_info 27 = .ok (.bipush (-2), 2) := by decide +kernel
theorem dX6_info_29 : decode cX6_info 29 = .ok (.ireturn, 1) := by decide +kernel
theorem dX6_heard_0 : decode cX6_heard 0 = .ok (.aload_n 0, 1) := by decide +kernel
theorem dX6_heard_1 : decode cX6_heard 1 = .ok (.iload_n 1, 1) := by decide +kernel
theorem dX6_heard_2 : decode cX6_heard 2 = .ok (.invokevirtual 79, 3) := by decide +kernel
theorem dX6_heard_5 : decode cX6_heard 5 = .ok (.ifCond .eq 24, 3) := by decide +kernel
theorem dX6_heard_8 : decode cX6_heard 8 = .ok (.aload_n 0, 1) := by decide +kernel
theorem dX6_heard_9 : decode cX6_heard 9 = .ok (.iload_n 2, 1) := by decide +kernel
theorem dX6_heard_10 : decode cX6_heard 10 = .ok (.invokevirtual 79, 3) := by decide +kernel
theorem dX6_heard_13 : decode cX6_heard 13 = .ok (.ifCond .eq 16, 3) := by decide +kernel
theorem dX6_heard_16 : decode cX6_heard 16 = .ok (.aload_n 0, 1) := by decide +kernel
theorem dX6_heard_17 : decode cX6_heard 17 = .ok (.getfield 13, 3) := by decide +kernel
theorem dX6_heard_20 : decode cX6_heard 20 = .ok (.iconst 5, 1) := by decide +kernel
theorem dX6_heard_21 : decode cX6_heard 21 = .ok (.iload_n 1, 1) := by decide +kernel
theorem dX6_heard_22 : decode cX6_heard 22 = .ok (.imul, 1) := by decide +kernel
theorem dX6_heard_23 : decode cX6_heard 23 = .ok (.iload_n 2, 1) := by decide +kernel
theorem dX6_heard_24 : decode cX6_heard 24 = .ok (.iadd, 1) := by decide +kernel
theorem dX6_heard_25 : decode cX6_heard 25 = .ok (.iaload, 1) := by decide +kernel
theorem dX6_heard_26 : decode cX6_heard 26 = .ok (.goto 5, 3) := by decide +kernel
theorem dX6_heard_29 : decode cX6_heard 29 = .ok (.bipush (-2), 2) := by decide +kernel
theorem dX6_heard_31 : decode cX6_heard 31 = .ok (.ireturn, 1) := by decide +kernel
theorem dX6_bitsOf_0 : decode cX6_bitsOf 0 = .ok (.iconst 0, 1) := by decide +kernel
theorem dX6_bitsOf_1 : decode cX6_bitsOf 1 = .ok (.istore_n 1, 1) := by decide +kernel
theorem dX6_bitsOf_2 : decode cX6_bitsOf 2 = .ok (.iconst 0, 1) := by decide +kernel
theorem dX6_bitsOf_3 : decode cX6_bitsOf 3 = .ok (.istore_n 2, 1) := by decide +kernel
theorem dX6_bitsOf_4 : decode cX6_bitsOf 4 = .ok (.iload_n 2, 1) := by decide +kernel
theorem dX6_bitsOf_5 : decode cX6_bitsOf 5 = .ok (.iconst 5, 1) := by decide +kernel
theorem dX6_bitsOf_6 : decode cX6_bitsOf 6 = .ok (.if_icmp .ge 17, 3) := by decide +kernel
theorem dX6_bitsOf_9 : decode cX6_bitsOf 9 = .ok (.iload_n 1, 1) := by decide +kernel
theorem dX6_bitsOf_10 : decode cX6_bitsOf 10 = .ok (.iload_n 0, 1) := by decide +kernel
theorem dX6_bitsOf_11 : decode cX6_bitsOf 11 = .ok (.iload_n 2, 1) := by decide +kernel
theorem dX6_bitsOf_12 : decode cX6_bitsOf 12 = .ok (.ishr, 1) := by decide +kernel
theorem dX6_bitsOf_13 : decode cX6_bitsOf 13 = .ok (.iconst 1, 1) := by decide +kernel
theorem dX6_bitsOf_14 : decode cX6_bitsOf 14 = .ok (.iand, 1) := by decide +kernel
theorem dX6_bitsOf_15 : decode cX6_bitsOf 15 = .ok (.iadd, 1) := by decide +kernel
theorem dX6_bitsOf_16 : decode cX6_bitsOf 16 = .ok (.istore_n 1, 1) := by decide +kernel
theorem dX6_bitsOf_17 : decode cX6_bitsOf 17 = .ok (.iinc 2 1, 3) := by decide +kernel
theorem dX6_bitsOf_20 : decode cX6_bitsOf 20 = .ok (.goto (-16), 3) := by decide +kernel
theorem dX6_bitsOf_23 : decode cX6_bitsOf 23 = .ok (.iload_n 1, 1) := by decide +kernel
theorem dX6_bitsOf_24 : decode cX6_bitsOf 24 = .ok (.ireturn, 1) := by decide +kernel
theorem dX6_asksAsTold_0 : decode cX6_asksAsTold 0 = .ok (.aload_n 0, 1) := by decide +kernel
theorem dX6_asksAsTold_1 : decode cX6_asksAsTold 1 = .ok (.iconst 1, 1) := by decide +kernel
theorem dX6_asksAsTold_2 : decode cX6_asksAsTold 2 = .ok (.putfield 46, 3) := by decide +kernel
theorem dX6_asksAsTold_5 : decode cX6_asksAsTold 5 = .ok (.iconst 0, 1) := by decide +kernel
theorem dX6_asksAsTold_6 : decode cX6_asksAsTold 6 = .ok (.istore_n 1, 1) := by decide +kernel
theorem dX6_asksAsTold_7 : decode cX6_asksAsTold 7 = .ok (.iload_n 1, 1) := by decide +kernel
theorem dX6_asksAsTold_8 : decode cX6_asksAsTold 8 = .ok (.iconst 5, 1) := by decide +kernel
theorem dX6_asksAsTold_9 : decode cX6_asksAsTold 9 = .ok (.if_icmp .ge 21, 3) := by decide +kernel
theorem dX6_asksAsTold_12 : decode cX6_asksAsTold 12 = .ok (.aload_n 0, 1) := by decide +kernel
theorem dX6_asksAsTold_13 : decode cX6_asksAsTold 13 = .ok (.getfield 43, 3) := by decide +kernel
theorem dX6_asksAsTold_16 : decode cX6_asksAsTold 16 = .ok (.iload_n 1, 1) := by decide +kernel
theorem dX6_asksAsTold_17 : decode cX6_asksAsTold 17 = .ok (.aload_n 0, 1) := by decide +kernel
theorem dX6_asksAsTold_18 : decode cX6_asksAsTold 18 = .ok (.getfield 17, 3) := by decide +kernel
theorem dX6_asksAsTold_21 : decode cX6_asksAsTold 21 = .ok (.iload_n 1, 1) := by decide +kernel
theorem dX6_asksAsTold_22 : decode cX6_asksAsTold 22 = .ok (.iaload, 1) := by decide +kernel
theorem dX6_asksAsTold_23 : decode cX6_asksAsTold 23 = .ok (.iastore, 1) := by decide +kernel
theorem dX6_asksAsTold_24 : decode cX6_asksAsTold 24 = .ok (.iinc 1 1, 3) := by decide +kernel
theorem dX6_asksAsTold_27 : decode cX6_asksAsTold 27 = .ok (.goto (-20), 3) := by decide +kernel
theorem dX6_asksAsTold_30 : decode cX6_asksAsTold 30 = .ok (.return_, 1) := by decide +kernel
theorem dX6_lays_0 : decode cX6_lays 0 = .ok (.aload_n 0, 1) := by decide +kernel
theorem dX6_lays_1 : decode cX6_lays 1 = .ok (.iconst 0, 1) := by decide +kernel
theorem dX6_lays_2 : decode cX6_lays 2 = .ok (.putfield 126, 3) := by decide +kernel
theorem dX6_lays_5 : decode cX6_lays 5 = .ok (.iconst 0, 1) := by decide +kernel
theorem dX6_lays_6 : decode cX6_lays 6 = .ok (.istore_n 3, 1) := by decide +kernel
theorem dX6_lays_7 : decode cX6_lays 7 = .ok (.iload_n 3, 1) := by decide +kernel
theorem dX6_lays_8 : decode cX6_lays 8 = .ok (.iconst 5, 1) := by decide +kernel
theorem dX6_lays_9 : decode cX6_lays 9 = .ok (.if_icmp .ge 151, 3) := by decide +kernel
theorem dX6_lays_12 : decode cX6_lays 12 = .ok (.iload_n 1, 1) := by decide +kernel
theorem dX6_lays_13 : decode cX6_lays 13 = .ok (.iload_n 3, 1) := by decide +kernel
theorem dX6_lays_14 : decode cX6_lays 14 = .ok (.ishr, 1) := by decide +kernel
theorem dX6_lays_15 : decode cX6_lays 15 = .ok (.iconst 1, 1) := by decide +kernel
theorem dX6_lays_16 : decode cX6_lays 16 = .ok (.iand, 1) := by decide +kernel
theorem dX6_lays_17 : decode cX6_lays 17 = .ok (.iconst 1, 1) := by decide +kernel
theorem dX6_lays_18 : decode cX6_lays 18 = .ok (.if_icmp .ne 136, 3) := by decide +kernel
theorem dX6_lays_21 : decode cX6_lays 21 = .ok (.iconst 0, 1) := by decide +kernel
theorem dX6_lays_22 : decode cX6_lays 22 = .ok (.istore 4, 2) := by decide +kernel
theorem dX6_lays_24 : decode cX6_lays 24 = .ok (.iconst 0, 1) := by decide +kernel
theorem dX6_lays_25 : decode cX6_lays 25 = .ok (.istore 5, 2) := by decide +kernel
theorem dX6_lays_27 : decode cX6_lays 27 = .ok (.iload 5, 2) := by decide +kernel
theorem dX6_lays_29 : decode cX6_lays 29 = .ok (.iconst 5, 1) := by decide +kernel
theorem dX6_lays_30 : decode cX6_lays 30 = .ok (.if_icmp .ge 114, 3) := by decide +kernel
theorem dX6_lays_33 : decode cX6_lays 33 = .ok (.iload_n 1, 1) := by decide +kernel
theorem dX6_lays_34 : decode cX6_lays 34 = .ok (.iload 5, 2) := by decide +kernel
theorem dX6_lays_36 : decode cX6_lays 36 = .ok (.ishr, 1) := by decide +kernel
theorem dX6_lays_37 : decode cX6_lays 37 = .ok (.iconst 1, 1) := by decide +kernel
theorem dX6_lays_38 : decode cX6_lays 38 = .ok (.iand, 1) := by decide +kernel
theorem dX6_lays_39 : decode cX6_lays 39 = .ok (.iconst 1, 1) := by decide +kernel
theorem dX6_lays_40 : decode cX6_lays 40 = .ok (.if_icmp .ne 98, 3) := by decide +kernel
theorem dX6_lays_43 : decode cX6_lays 43 = .ok (.iload_n 3, 1) := by decide +kernel
theorem dX6_lays_44 : decode cX6_lays 44 = .ok (.iload 5, 2) := by decide +kernel
theorem dX6_lays_46 : decode cX6_lays 46 = .ok (.if_icmp .ne 26, 3) := by decide +kernel
theorem dX6_lays_49 : decode cX6_lays 49 = .ok (.ldc2_w 129, 3) := by decide +kernel
theorem dX6_lays_52 : decode cX6_lays 52 = .ok (.aload_n 0, 1) := by decide +kernel
theorem dX6_lays_53 : decode cX6_lays 53 = .ok (.getfield 46, 3) := by decide +kernel
theorem dX6_lays_56 : decode cX6_lays 56 = .ok (.i2l, 1) := by decide +kernel
theorem dX6_lays_57 : decode cX6_lays 57 = .ok (.lmul, 1) := by decide +kernel
theorem dX6_lays_58 : decode cX6_lays 58 = .ok (.aload_n 0, 1) := by decide +kernel
theorem dX6_lays_59 : decode cX6_lays 59 = .ok (.getfield 13, 3) := by decide +kernel
theorem dX6_lays_62 : decode cX6_lays 62 = .ok (.bipush 6, 2) := by decide +kernel
theorem dX6_lays_64 : decode cX6_lays 64 = .ok (.iload_n 3, 1) := by decide +kernel
theorem dX6_lays_65 : decode cX6_lays 65 = .ok (.imul, 1) := by decide +kernel
theorem dX6_lays_66 : decode cX6_lays 66 = .ok (.iaload, 1) := by decide +kernel
theorem dX6_lays_67 : decode cX6_lays 67 = .ok (.i2l, 1) := by decide +kernel
theorem dX6_lays_68 : decode cX6_lays 68 = .ok (.lmul, 1) := by decide +kernel
theorem dX6_lays_69 : decode cX6_lays 69 = .ok (.goto 24, 3) := by decide +kernel
theorem dX6_lays_72 : decode cX6_lays 72 = .ok (.aload_n 0, 1) := by decide +kernel
theorem dX6_lays_73 : decode cX6_lays 73 = .ok (.getfield 43, 3) := by decide +kernel
theorem dX6_lays_76 : decode cX6_lays 76 = .ok (.iload_n 3, 1) := by decide +kernel
theorem dX6_lays_77 : decode cX6_lays 77 = .ok (.iaload, 1) := by decide +kernel
theorem dX6_lays_78 : decode cX6_lays 78 = .ok (.i2l, 1) := by decide +kernel
theorem dX6_lays_79 : decode cX6_lays 79 = .ok (.lneg, 1) := by decide +kernel
theorem dX6_lays_80 : decode cX6_lays 80 = .ok (.aload_n 0, 1) := by decide +kernel
theorem dX6_lays_81 : decode cX6_lays 81 = .ok (.getfield 13, 3) := by decide +kernel
theorem dX6_lays_84 : decode cX6_lays 84 = .ok (.iconst 5, 1) := by decide +kernel
theorem dX6_lays_85 : decode cX6_lays 85 = .ok (.iload_n 3, 1) := by decide +kernel
theorem dX6_lays_86 : decode cX6_lays 86 = .ok (.imul, 1) := by decide +kernel
theorem dX6_lays_87 : decode cX6_lays 87 = .ok (.iload 5, 2) := by decide +kernel
theorem dX6_lays_89 : decode cX6_lays 89 = .ok (.iadd, 1) := by decide +kernel
theorem dX6_lays_90 : decode cX6_lays 90 = .ok (.iaload, 1) := by decide +kernel
theorem dX6_lays_91 : decode cX6_lays 91 = .ok (.i2l, 1) := by decide +kernel
theorem dX6_lays_92 : decode cX6_lays 92 = .ok (.lmul, 1) := by decide +kernel
theorem dX6_lays_93 : decode cX6_lays 93 = .ok (.lstore 6, 2) := by decide +kernel
theorem dX6_lays_95 : decode cX6_lays 95 = .ok (.aload_n 0, 1) := by decide +kernel
theorem dX6_lays_96 : decode cX6_lays 96 = .ok (.getfield 36, 3) := by decide +kernel
theorem dX6_lays_99 : decode cX6_lays 99 = .ok (.iconst 5, 1) := by decide +kernel
theorem dX6_lays_100 : decode cX6_lays 100 = .ok (.aload_n 0, 1) := by decide +kernel
theorem dX6_lays_101 : decode cX6_lays 101 = .ok (.getfield 126, 3) := by decide +kernel
theorem dX6_lays_104 : decode cX6_lays 104 = .ok (.imul, 1) := by decide +kernel
theorem dX6_lays_105 : decode cX6_lays 105 = .ok (.iload 4, 2) := by decide +kernel
theorem dX6_lays_107 : decode cX6_lays 107 = .ok (.iadd, 1) := by decide +kernel
theorem dX6_lays_108 : decode cX6_lays 108 = .ok (.iload 4, 2) := by decide +kernel
theorem dX6_lays_110 : decode cX6_lays 110 = .ok (.iload_n 2, 1) := by decide +kernel
theorem dX6_lays_111 : decode cX6_lays 111 = .ok (.if_icmp .ne 21, 3) := by decide +kernel
theorem dX6_lays_114 : decode cX6_lays 114 = .ok (.aload_n 0, 1) := by decide +kernel
theorem dX6_lays_115 : decode cX6_lays 115 = .ok (.getfield 43, 3) := by decide +kernel
theorem dX6_lays_118 : decode cX6_lays 118 = .ok (.iload_n 3, 1) := by decide +kernel
theorem dX6_lays_119 : decode cX6_lays 119 = .ok (.iaload, 1) := by decide +kernel
theorem dX6_lays_120 : decode cX6_lays 120 = .ok (.i2l, 1) := by decide +kernel
theorem dX6_lays_121 : decode cX6_lays 121 = .ok (.aload_n 0, 1) := by decide +kernel
theorem dX6_lays_122 : decode cX6_lays 122 = .ok (.getfield 20, 3) := by decide +kernel
theorem dX6_lays_125 : decode cX6_lays 125 = .ok (.iload_n 3, 1) := by decide +kernel
theorem dX6_lays_126 : decode cX6_lays 126 = .ok (.iaload, 1) := by decide +kernel
theorem dX6_lays_127 : decode cX6_lays 127 = .ok (.i2l, 1) := by decide +kernel
theorem dX6_lays_128 : decode cX6_lays 128 = .ok (.lmul, 1) := by decide +kernel
theorem dX6_lays_129 : decode cX6_lays 129 = .ok (.goto 5, 3) := by decide +kernel
theorem dX6_lays_132 : decode cX6_lays 132 = .ok (.lload 6, 2) := by decide +kernel
theorem dX6_lays_134 : decode cX6_lays 134 = .ok (.lastore, 1) := by decide +kernel
theorem dX6_lays_135 : decode cX6_lays 135 = .ok (.iinc 4 1, 3) := by decide +kernel
theorem dX6_lays_138 : decode cX6_lays 138 = .ok (.iinc 5 1, 3) := by decide +kernel
theorem dX6_lays_141 : decode cX6_lays 141 = .ok (.goto (-114), 3) := by decide +kernel
theorem dX6_lays_144 : decode cX6_lays 144 = .ok (.aload_n 0, 1) := by decide +kernel
theorem dX6_lays_145 : decode cX6_lays 145 = .ok (.dup, 1) := by decide +kernel
theorem dX6_lays_146 : decode cX6_lays 146 = .ok (.getfield 126, 3) := by decide +kernel
theorem dX6_lays_149 : decode cX6_lays 149 = .ok (.iconst 1, 1) := by decide +kernel
theorem dX6_lays_150 : decode cX6_lays 150 = .ok (.iadd, 1) := by decide +kernel
theorem dX6_lays_151 : decode cX6_lays 151 = .ok (.putfield 126, 3) := by decide +kernel
theorem dX6_lays_154 : decode cX6_lays 154 = .ok (.iinc 3 1, 3) := by decide +kernel
theorem dX6_lays_157 : decode cX6_lays 157 = .ok (.goto (-150), 3) := by decide +kernel
theorem dX6_lays_160 : decode cX6_lays 160 = .ok (.aload_n 0, 1) := by decide +kernel
theorem dX6_lays_161 : decode cX6_lays 161 = .ok (.invokevirtual 131, 3) := by decide +kernel
theorem dX6_lays_164 : decode cX6_lays 164 = .ok (.return_, 1) := by decide +kernel
theorem dX6_determines_0 : decode cX6_determines 0 = .ok (.aload_n 0, 1) := by decide +kernel
theorem dX6_determines_1 : decode cX6_determines 1 = .ok (.getfield 40, 3) := by decide +kernel
theorem dX6_determines_4 : decode cX6_determines 4 = .ok (.iconst 0, 1) := by decide +kernel
theorem dX6_determines_5 : decode cX6_determines 5 = .ok (.lconst 1, 1) := by decide +kernel
theorem dX6_determines_6 : decode cX6_determines 6 = .ok (.lastore, 1) := by decide +kernel
theorem dX6_determines_7 : decode cX6_determines 7 = .ok (.iconst 1, 1) := by decide +kernel
theorem dX6_determines_8 : decode cX6_determines 8 = .ok (.istore_n 1, 1) := by decide +kernel
theorem dX6_determines_9 : decode cX6_determines 9 = .ok (.iload_n 1, 1) := by decide +kernel
theorem dX6_determines_10 : decode cX6_determines 10 = .ok (.iconst 1, 1) := by decide +kernel
theorem dX6_determines_11 : decode cX6_determines 11 = .ok (.aload_n 0, 1) := by decide +kernel
theorem dX6_determines_12 : decode cX6_determines 12 = .ok (.getfield 126, 3) := by decide +kernel
theorem dX6_determines_15 : decode cX6_determines 15 = .ok (.ishl, 1) := by decide +kernel
theorem dX6_determines_16 : decode cX6_determines 16 = .ok (.if_icmp .ge 103, 3) := by decide +kernel
theorem dX6_determines_19 : decode cX6_determines 19 = .ok (.iload_n 1, 1) := by decide +kernel
theorem dX6_determines_20 : decode cX6_determines 20 = .ok (.invokestatic 134, 3) := by decide +kernel
theorem dX6_determines_23 : decode cX6_determines 23 = .ok (.iconst 1, 1) := by decide +kernel
theorem dX6_determines_24 : decode cX6_determines 24 = .ok (.isub, 1) := by decide +kernel
theorem dX6_determines_25 : decode cX6_determines 25 = .ok (.istore_n 2, 1) := by decide +kernel
theorem dX6_determines_26 : decode cX6_determines 26 = .ok (.lconst 0, 1) := by decide +kernel
theorem dX6_determines_27 : decode cX6_determines 27 = .ok (.lstore_n 3, 1) := by decide +kernel
theorem dX6_determines_28 : decode cX6_determines 28 = .ok (.iconst 0, 1) := by decide +kernel
theorem dX6_determines_29 : decode cX6_determines 29 = .ok (.istore 5, 2) := by decide +kernel
theorem dX6_determines_31 : decode cX6_determines 31 = .ok (.iload 5, 2) := by decide +kernel
theorem dX6_determines_33 : decode cX6_determines 33 = .ok (.aload_n 0, 1) := by decide +kernel
theorem dX6_determines_34 : decode cX6_determines 34 = .ok (.getfield 126, 3) := by decide +kernel
theorem dX6_determines_37 : decode cX6_determines 37 = .ok (.if_icmp .ge 69, 3) := by decide +kernel
theorem dX6_determines_40 : decode cX6_determines 40 = .ok (.iload_n 1, 1) := by decide +kernel
theorem dX6_determines_41 : decode cX6_determines 41 = .ok (.iload 5, 2) := by decide +kernel
theorem dX6_determines_43 : decode cX6_determines 43 = .ok (.ishr, 1) := by decide +kernel
theorem dX6_determines_44 : decode cX6_determines 44 = .ok (.iconst 1, 1) := by decide +kernel
theorem dX6_determines_45 : decode cX6_determines 45 = .ok (.iand, 1) := by decide +kernel
theorem dX6_determines_46 : decode cX6_determines 46 = .ok (.iconst 1, 1) := by decide +kernel
theorem dX6_determines_47 : decode cX6_determines 47 = .ok (.if_icmp .ne 53, 3) := by decide +kernel
theorem dX6_determines_50 : decode cX6_determines 50 = .ok (.aload_n 0, 1) := by decide +kernel
theorem dX6_determines_51 : decode cX6_determines 51 = .ok (.getfield 36, 3) := by decide +kernel
theorem dX6_determines_54 : decode cX6_determines 54 = .ok (.iconst 5, 1) := by decide +kernel
theorem dX6_determines_55 : decode cX6_determines 55 = .ok (.iload_n 2, 1) := by decide +kernel
theorem dX6_determines_56 : decode cX6_determines 56 = .ok (.imul, 1) := by decide +kernel
theorem dX6_determines_57 : decode cX6_determines 57 = .ok (.iload 5, 2) := by decide +kernel
theorem dX6_determines_59 : decode cX6_determines 59 = .ok (.iadd, 1) := by decide +kernel
theorem dX6_determines_60 : decode cX6_determines 60 = .ok (.laload, 1) := by decide +kernel
theorem dX6_determines_61 : decode cX6_determines 61 = .ok (.aload_n 0, 1) := by decide +kernel
theorem dX6_determines_62 : decode cX6_determines 62 = .ok (.getfield 40, 3) := by decide +kernel
theorem dX6_determines_65 : decode cX6_determines 65 = .ok (.iload_n 1, 1) := by decide +kernel
theorem dX6_determines_66 : decode cX6_determines 66 = .ok (.iconst 1, 1) := by decide +kernel
theorem dX6_determines_67 : decode cX6_determines 67 = .ok (.iload 5, 2) := by decide +kernel
theorem dX6_determines_69 : decode cX6_determines 69 = .ok (.ishl, 1) := by decide +kernel
theorem dX6_determines_70 : decode cX6_determines 70 = .ok (.isub, 1) := by decide +kernel
theorem dX6_determines_71 : decode cX6_determines 71 = .ok (.laload, 1) := by decide +kernel
theorem dX6_determines_72 : decode cX6_determines 72 = .ok (.lmul, 1) := by decide +kernel
theorem dX6_determines_73 : decode cX6_determines 73 = .ok (.lstore 6, 2) := by decide +kernel
theorem dX6_determines_75 : decode cX6_determines 75 = .ok (.lload_n 3, 1) := by decide +kernel
theorem dX6_determines_76 : decode cX6_determines 76 = .ok (.iload_n 1, 1) := by decide +kernel
theorem dX6_determines_77 : decode cX6_determines 77 = .ok (.iload 5, 2) := by decide +kernel
theorem dX6_determines_79 : decode cX6_determines 79 = .ok (.iconst 1, 1) := by decide +kernel
theorem dX6_determines_80 : decode cX6_determines 80 = .ok (.iadd, 1) := by decide +kernel
theorem dX6_determines_81 : decode cX6_determines 81 = .ok (.ishr, 1) := by decide +kernel
theorem dX6_determines_82 : decode cX6_determines 82 = .ok (.invokestatic 134, 3) := by decide +kernel
theorem dX6_determines_85 : decode cX6_determines 85 = .ok (.iconst 2, 1) := by decide +kernel
theorem dX6_determines_86 : decode cX6_determines 86 = .ok (.irem, 1) := by decide +kernel
theorem dX6_determines_87 : decode cX6_determines 87 = .ok (.ifCond .ne 8, 3) := by decide +kernel
theorem dX6_determines_90 : decode cX6_determines 90 = .ok (.lload 6, 2) := by decide +kernel
theorem dX6_determines_92 : decode cX6_determines 92 = .ok (.goto 6, 3) := by decide +kernel
theorem dX6_determines_95 : decode cX6_determines 95 = .ok (.lload 6, 2) := by decide +kernel
theorem dX6_determines_97 : decode cX6_determines 97 = .ok (.lneg, 1) := by decide +kernel
theorem dX6_determines_98 : decode cX6_determines 98 = .ok (.ladd, 1) := by decide +kernel
theorem dX6_determines_99 : decode cX6_determines 99 = .ok (.lstore_n 3, 1) := by decide +kernel
theorem dX6_determines_100 : decode cX6_determines 100 = .ok (.iinc 5 1, 3) := by decide +kernel
theorem dX6_determines_103 : decode cX6_determines 103 = .ok (.goto (-72), 3) := by decide +kernel
theorem dX6_determines_106 : decode cX6_determines 106 = .ok (.aload_n 0, 1) := by decide +kernel
theorem dX6_determines_107 : decode cX6_determines 107 = .ok (.getfield 40, 3) := by decide +kernel
theorem dX6_determines_110 : decode cX6_determines 110 = .ok (.iload_n 1, 1) := by decide +kernel
theorem dX6_determines_111 : decode cX6_determines 111 = .ok (.lload_n 3, 1) := by decide +kernel
theorem dX6_determines_112 : decode cX6_determines 112 = .ok (.lastore, 1) := by decide +kernel
theorem dX6_determines_113 : decode cX6_determines 113 = .ok (.iinc 1 1, 3) := by decide +kernel
theorem dX6_determines_116 : decode cX6_determines 116 = .ok (.goto (-107), 3) := by decide +kernel
theorem dX6_determines_119 : decode cX6_determines 119 = .ok (.return_, 1) := by decide +kernel
theorem dX6_isFeasible_0 : decode cX6_isFeasible 0 = .ok (.aload_n 0, 1) := by decide +kernel
theorem dX6_isFeasible_1 : decode cX6_isFeasible 1 = .ok (.iload_n 1, 1) := by decide +kernel
theorem dX6_isFeasible_2 : decode cX6_isFeasible 2 = .ok (.iconst (-1), 1) := by decide +kernel
theorem dX6_isFeasible_3 : decode cX6_isFeasible 3 = .ok (.invokevirtual 137, 3) := by decide +kernel
theorem dX6_isFeasible_6 : decode cX6_isFeasible 6 = .ok (.iconst 1, 1) := by decide +kernel
theorem dX6_isFeasible_7 : decode cX6_isFeasible 7 = .ok (.istore_n 2, 1) := by decide +kernel
theorem dX6_isFeasible_8 : decode cX6_isFeasible 8 = .ok (.iconst 1, 1) := by decide +kernel
theorem dX6_isFeasible_9 : decode cX6_isFeasible 9 = .ok (.istore_n 3, 1) := by decide +kernel
theorem dX6_isFeasible_10 : decode cX6_isFeasible 10 = .ok (.iload_n 3, 1) := by decide +kernel
theorem dX6_isFeasible_11 : decode cX6_isFeasible 11 = .ok (.aload_n 0, 1) := by decide +kernel
theorem dX6_isFeasible_12 : decode cX6_isFeasible 12 = .ok (.getfield 126, 3) := by decide +kernel
theorem dX6_isFeasible_15 : decode cX6_isFeasible 15 = .ok (.if_icmp .gt 34, 3) := by decide +kernel
theorem dX6_isFeasible_18 : decode cX6_isFeasible 18 = .ok (.iload_n 2, 1) := by decide +kernel
theorem dX6_isFeasible_19 : decode cX6_isFeasible 19 = .ok (.ifCond .eq 22, 3) := by decide +kernel
theorem dX6_isFeasible_22 : decode cX6_isFeasible 22 = .ok (.aload_n 0, 1) := by decide +kernel
theorem dX6_isFeasible_23 : decode cX6_isFeasible 23 = .ok (.getfield 40, 3) := by decide +kernel
theorem dX6_isFeasible_26 : decode cX6_isFeasible 26 = .ok (.iconst 1, 1) := by decide +kernel
theorem dX6_isFeasible_27 : decode cX6_isFeasible 27 = .ok (.iload_n 3, 1) := by decide +kernel
theorem dX6_isFeasible_28 : decode cX6_isFeasible 28 = .ok (.ishl, 1) := by decide +kernel
theorem dX6_isFeasible_29 : decode cX6_isFeasible 29 = .ok (.iconst 1, 1) := by decide +kernel
theorem dX6_isFeasible_30 : decode cX6_isFeasible 30 = .ok (.isub, 1) := by decide +kernel
theorem dX6_isFeasible_31 : decode cX6_isFeasible 31 = .ok (.laload, 1) := by decide +kernel
theorem dX6_isFeasible_32 : decode cX6_isFeasible 32 = .ok (.lconst 0, 1) := by decide +kernel
theorem dX6_isFeasible_33 : decode cX6_isFeasible 33 = .ok (.lcmp, 1) := by decide +kernel
theorem dX6_isFeasible_34 : decode cX6_isFeasible 34 = .ok (.ifCond .le 7, 3) := by decide +kernel
theorem dX6_isFeasible_37 : decode cX6_isFeasible 37 = .ok (.iconst 1, 1) := by decide +kernel
theorem dX6_isFeasible_38 : decode cX6_isFeasible 38 = .ok (.goto 4, 3) := by decide +kernel
theorem dX6_isFeasible_41 : decode cX6_isFeasible 41 = .ok (.iconst 0, 1) := by decide +kernel
theorem dX6_isFeasible_42 : decode cX6_isFeasible 42 = .ok (.istore_n 2, 1) := by decide +kernel
theorem dX6_isFeasible_43 : decode cX6_isFeasible 43 = .ok (.iinc 3 1, 3) := by decide +kernel
theorem dX6_isFeasible_46 : decode cX6_isFeasible 46 = .ok (.goto (-36), 3) := by decide +kernel
theorem dX6_isFeasible_49 : decode cX6_isFeasible 49 = .ok (.iload_n 2, 1) := by decide +kernel
theorem dX6_isFeasible_50 : decode cX6_isFeasible 50 = .ok (.ireturn, 1) := by decide +kernel
theorem dX6_minor_0 : decode cX6_minor 0 = .ok (.iload_n 1, 1) := by decide +kernel
theorem dX6_minor_1 : decode cX6_minor 1 = .ok (.iconst 0, 1) := by decide +kernel
theorem dX6_minor_2 : decode cX6_minor 2 = .ok (.iconst 1, 1) := by decide +kernel
theorem dX6_minor_3 : decode cX6_minor 3 = .ok (.aload_n 0, 1) := by decide +kernel
theorem dX6_minor_4 : decode cX6_minor 4 = .ok (.getfield 7, 3) := by decide +kernel
theorem dX6_minor_7 : decode cX6_minor 7 = .ok (.ishl, 1) := by decide +kernel
theorem dX6_minor_8 : decode cX6_minor 8 = .ok (.iconst 1, 1) := by decide +kernel
theorem dX6_minor_9 : decode cX6_minor 9 = .ok (.isub, 1) := by decide +kernel
theorem dX6_minor_10 : decode cX6_minor 10 = .ok (.invokestatic 75, 3) := by decide +kernel
theorem dX6_minor_13 : decode cX6_minor 13 = .ok (.ifCond .ne 9, 3) := by decide +kernel
theorem dX6_minor_16 : decode cX6_minor 16 = .ok (.bipush (-2), 2) := by decide +kernel
theorem dX6_minor_18 : decode cX6_minor 18 = .ok (.invokestatic 141, 3) := by decide +kernel
theorem dX6_minor_21 : decode cX6_minor 21 = .ok (.lreturn, 1) := by decide +kernel
theorem dX6_minor_22 : decode cX6_minor 22 = .ok (.aload_n 0, 1) := by decide +kernel
theorem dX6_minor_23 : decode cX6_minor 23 = .ok (.invokevirtual 145, 3) := by decide +kernel
theorem dX6_minor_26 : decode cX6_minor 26 = .ok (.aload_n 0, 1) := by decide +kernel
theorem dX6_minor_27 : decode cX6_minor 27 = .ok (.iload_n 1, 1) := by decide +kernel
theorem dX6_minor_28 : decode cX6_minor 28 = .ok (.aload_n 0, 1) := by decide +kernel
theorem dX6_minor_29 : decode cX6_minor 29 = .ok (.invokevirtual 94, 3) := by decide +kernel
theorem dX6_minor_32 : decode cX6_minor 32 = .ok (.iand, 1) := by decide +kernel
theorem dX6_minor_33 : decode cX6_minor 33 = .ok (.iconst (-1), 1) := by decide +kernel
theorem dX6_minor_34 : decode cX6_minor 34 = .ok (.invokevirtual 137, 3) := by decide +kernel
theorem dX6_minor_37 : decode cX6_minor 37 = .ok (.aload_n 0, 1) := by decide +kernel
theorem dX6_minor_38 : decode cX6_minor 38 = .ok (.getfield 40, 3) := by decide +kernel
theorem dX6_minor_41 : decode cX6_minor 41 = .ok (.iconst 1, 1) := by decide +kernel
theorem dX6_minor_42 : decode cX6_minor 42 = .ok (.aload_n 0, 1) := by decide +kernel
theorem dX6_minor_43 : decode cX6_minor 43 = .ok (.getfield 126, 3) := by decide +kernel
theorem dX6_minor_46 : decode cX6_minor 46 = .ok (.ishl, 1) := by decide +kernel
theorem dX6_minor_47 : decode cX6_minor 47 = .ok (.iconst 1, 1) := by decide +kernel
theorem dX6_minor_48 : decode cX6_minor 48 = .ok (.isub, 1) := by decide +kernel
theorem dX6_minor_49 : decode cX6_minor 49 = .ok (.laload, 1) := by decide +kernel
theorem dX6_minor_50 : decode cX6_minor 50 = .ok (.lreturn, 1) := by decide +kernel
theorem dX6_isFeasibleNow_0 : decode cX6_isFeasibleNow 0 = .ok (.aload_n 0, 1) := by decide +kernel
theorem dX6_isFeasibleNow_1 : decode cX6_isFeasibleNow 1 = .ok (.invokevirtual 145, 3) := by decide +kernel
theorem dX6_isFeasibleNow_4 : decode cX6_isFeasibleNow 4 = .ok (.aload_n 0, 1) := by decide +kernel
theorem dX6_isFeasibleNow_5 : decode cX6_isFeasibleNow 5 = .ok (.aload_n 0, 1) := by decide +kernel
theorem dX6_isFeasibleNow_6 : decode cX6_isFeasibleNow 6 = .ok (.invokevirtual 94, 3) := by decide +kernel
theorem dX6_isFeasibleNow_9 : decode cX6_isFeasibleNow 9 = .ok (.invokevirtual 148, 3) := by decide +kernel
theorem dX6_isFeasibleNow_12 : decode cX6_isFeasibleNow 12 = .ok (.ireturn, 1) := by decide +kernel
theorem dX6_feasible_0 : decode cX6_feasible 0 = .ok (.aload_n 0, 1) := by decide +kernel
theorem dX6_feasible_1 : decode cX6_feasible 1 = .ok (.invokevirtual 151, 3) := by decide +kernel
theorem dX6_feasible_4 : decode cX6_feasible 4 = .ok (.ifCond .eq 7, 3) := by decide +kernel
theorem dX6_feasible_7 : decode cX6_feasible 7 = .ok (.iconst 1, 1) := by decide +kernel
theorem dX6_feasible_8 : decode cX6_feasible 8 = .ok (.goto 4, 3) := by decide +kernel
theorem dX6_feasible_11 : decode cX6_feasible 11 = .ok (.iconst 0, 1) := by decide +kernel
theorem dX6_feasible_12 : decode cX6_feasible 12 = .ok (.ireturn, 1) := by decide +kernel
theorem dX6_partOf_0 : decode cX6_partOf 0 = .ok (.lload_n 0, 1) := by decide +kernel
theorem dX6_partOf_1 : decode cX6_partOf 1 = .ok (.lstore 5, 2) := by decide +kernel
theorem dX6_partOf_3 : decode cX6_partOf 3 = .ok (.lload_n 2, 1) := by decide +kernel
theorem dX6_partOf_4 : decode cX6_partOf 4 = .ok (.lstore 7, 2) := by decide +kernel
theorem dX6_partOf_6 : decode cX6_partOf 6 = .ok (.lload 7, 2) := by decide +kernel
theorem dX6_partOf_8 : decode cX6_partOf 8 = .ok (.lconst 0, 1) := by decide +kernel
theorem dX6_partOf_9 : decode cX6_partOf 9 = .ok (.lcmp, 1) := by decide +kernel
theorem dX6_partOf_10 : decode cX6_partOf 10 = .ok (.ifCond .eq 21, 3) := by decide +kernel
theorem dX6_partOf_13 : decode cX6_partOf 13 = .ok (.lload 5, 2) := by decide +kernel
theorem dX6_partOf_15 : decode cX6_partOf 15 = .ok (.lload 7, 2) := by decide +kernel
theorem dX6_partOf_17 : decode cX6_partOf 17 = .ok (.lrem, 1) := by decide +kernel
theorem dX6_partOf_18 : decode cX6_partOf 18 = .ok (.lstore 9, 2) := by decide +kernel
theorem dX6_partOf_20 : decode cX6_partOf 20 = .ok (.lload 7, 2) := by decide +kernel
theorem dX6_partOf_22 : decode cX6_partOf 22 = .ok (.lstore 5, 2) := by decide +kernel
theorem dX6_partOf_24 : decode cX6_partOf 24 = .ok (.lload 9, 2) := by decide +kernel
theorem dX6_partOf_26 : decode cX6_partOf 26 = .ok (.lstore 7, 2) := by decide +kernel
theorem dX6_partOf_28 : decode cX6_partOf 28 = .ok (.goto (-22), 3) := by decide +kernel
theorem dX6_partOf_31 : decode cX6_partOf 31 = .ok (.iload 4, 2) := by decide +kernel
theorem dX6_partOf_33 : decode cX6_partOf 33 = .ok (.ifCond .ne 10, 3) := by decide +kernel
theorem dX6_partOf_36 : decode cX6_partOf 36 = .ok (.lload_n 0, 1) := by decide +kernel
theorem dX6_partOf_37 : decode cX6_partOf 37 = .ok (.lload 5, 2) := by decide +kernel
theorem dX6_partOf_39 : decode cX6_partOf 39 = .ok (.ldiv, 1) := by decide +kernel
theorem dX6_partOf_40 : decode cX6_partOf 40 = .ok (.goto 7, 3) := by decide +kernel
theorem dX6_partOf_43 : decode cX6_partOf 43 = .ok (.lload_n 2, 1) := by decide +kernel
theorem dX6_partOf_44 : decode cX6_partOf 44 = .ok (.lload 5, 2) := by decide +kernel
theorem dX6_partOf_46 : decode cX6_partOf 46 = .ok (.ldiv, 1) := by decide +kernel
theorem dX6_partOf_47 : decode cX6_partOf 47 = .ok (.lreturn, 1) := by decide +kernel
theorem dX6_leastOf_0 : decode cX6_leastOf 0 = .ok (.aload_n 0, 1) := by decide +kernel
theorem dX6_leastOf_1 : decode cX6_leastOf 1 = .ok (.invokevirtual 94, 3) := by decide +kernel
theorem dX6_leastOf_4 : decode cX6_leastOf 4 = .ok (.istore_n 3, 1) := by decide +kernel
theorem dX6_leastOf_5 : decode cX6_leastOf 5 = .ok (.iload_n 3, 1) := by decide +kernel
theorem dX6_leastOf_6 : decode cX6_leastOf 6 = .ok (.iconst 1, 1) := by decide +kernel
theorem dX6_leastOf_7 : decode cX6_leastOf 7 = .ok (.iload_n 1, 1) := by decide +kernel
theorem dX6_leastOf_8 : decode cX6_leastOf 8 = .ok (.ishl, 1) := by decide +kernel
theorem dX6_leastOf_9 : decode cX6_leastOf 9 = .ok (.iconst 1, 1) := by decide +kernel
theorem dX6_leastOf_10 : decode cX6_leastOf 10 = .ok (.isub, 1) := by decide +kernel
theorem dX6_leastOf_11 : decode cX6_leastOf 11 = .ok (.iand, 1) := by decide +kernel
theorem dX6_leastOf_12 : decode cX6_leastOf 12 = .ok (.invokestatic 134, 3) := by decide +kernel
theorem dX6_leastOf_15 : decode cX6_leastOf 15 = .ok (.istore 4, 2) := by decide +kernel
theorem dX6_leastOf_17 : decode cX6_leastOf 17 = .ok (.aload_n 0, 1) := by decide +kernel
theorem dX6_leastOf_18 : decode cX6_leastOf 18 = .ok (.iload_n 3, 1) := by decide +kernel
theorem dX6_leastOf_19 : decode cX6_leastOf 19 = .ok (.iconst (-1), 1) := by decide +kernel
theorem dX6_leastOf_20 : decode cX6_leastOf 20 = .ok (.invokevirtual 137, 3) := by decide +kernel
theorem dX6_leastOf_23 : decode cX6_leastOf 23 = .ok (.aload_n 0, 1) := by decide +kernel
theorem dX6_leastOf_24 : decode cX6_leastOf 24 = .ok (.getfield 40, 3) := by decide +kernel
theorem dX6_leastOf_27 : decode cX6_leastOf 27 = .ok (.iconst 1, 1) := by decide +kernel
theorem dX6_leastOf_28 : decode cX6_leastOf 28 = .ok (.aload_n 0, 1) := by decide +kernel
theorem dX6_leastOf_29 : decode cX6_leastOf 29 = .ok (.getfield 126, 3) := by decide +kernel
theorem dX6_leastOf_32 : decode cX6_leastOf 32 = .ok (.ishl, 1) := by decide +kernel
theorem dX6_leastOf_33 : decode cX6_leastOf 33 = .ok (.iconst 1, 1) := by decide +kernel
theorem dX6_leastOf_34 : decode cX6_leastOf 34 = .ok (.isub, 1) := by decide +kernel
theorem dX6_leastOf_35 : decode cX6_leastOf 35 = .ok (.laload, 1) := by decide +kernel
theorem dX6_leastOf_36 : decode cX6_leastOf 36 = .ok (.lstore 5, 2) := by decide +kernel
theorem dX6_leastOf_38 : decode cX6_leastOf 38 = .ok (.aload_n 0, 1) := by decide +kernel
theorem dX6_leastOf_39 : decode cX6_leastOf 39 = .ok (.iload_n 3, 1) := by decide +kernel
theorem dX6_leastOf_40 : decode cX6_leastOf 40 = .ok (.iload 4, 2) := by decide +kernel
theorem dX6_leastOf_42 : decode cX6_leastOf 42 = .ok (.invokevirtual 137, 3) := by decide +kernel
theorem dX6_leastOf_45 : decode cX6_leastOf 45 = .ok (.aload_n 0, 1) := by decide +kernel
theorem dX6_leastOf_46 : decode cX6_leastOf 46 = .ok (.getfield 40, 3) := by decide +kernel
theorem dX6_leastOf_49 : decode cX6_leastOf 49 = .ok (.iconst 1, 1) := by decide +kernel
theorem dX6_leastOf_50 : decode cX6_leastOf 50 = .ok (.aload_n 0, 1) := by decide +kernel
theorem dX6_leastOf_51 : decode cX6_leastOf 51 = .ok (.getfield 126, 3) := by decide +kernel
theorem dX6_leastOf_54 : decode cX6_leastOf 54 = .ok (.ishl, 1) := by decide +kernel
theorem dX6_leastOf_55 : decode cX6_leastOf 55 = .ok (.iconst 1, 1) := by decide +kernel
theorem dX6_leastOf_56 : decode cX6_leastOf 56 = .ok (.isub, 1) := by decide +kernel
theorem dX6_leastOf_57 : decode cX6_leastOf 57 = .ok (.laload, 1) := by decide +kernel
theorem dX6_leastOf_58 : decode cX6_leastOf 58 = .ok (.lload 5, 2) := by decide +kernel
theorem dX6_leastOf_60 : decode cX6_leastOf 60 = .ok (.iload_n 2, 1) := by decide +kernel
theorem dX6_leastOf_61 : decode cX6_leastOf 61 = .ok (.invokestatic 155, 3) := by decide +kernel
theorem dX6_leastOf_64 : decode cX6_leastOf 64 = .ok (.lreturn, 1) := by decide +kernel
theorem dX6_least_0 : decode cX6_least 0 = .ok (.aload_n 0, 1) := by decide +kernel
theorem dX6_least_1 : decode cX6_least 1 = .ok (.iload_n 1, 1) := by decide +kernel
theorem dX6_least_2 : decode cX6_least 2 = .ok (.invokevirtual 79, 3) := by decide +kernel
theorem dX6_least_5 : decode cX6_least 5 = .ok (.ifCond .eq 12, 3) := by decide +kernel
theorem dX6_least_8 : decode cX6_least 8 = .ok (.iload_n 2, 1) := by decide +kernel
theorem dX6_least_9 : decode cX6_least 9 = .ok (.iconst 0, 1) := by decide +kernel
theorem dX6_least_10 : decode cX6_least 10 = .ok (.iconst 1, 1) := by decide +kernel
theorem dX6_least_11 : decode cX6_least 11 = .ok (.invokestatic 75, 3) := by decide +kernel
theorem dX6_least_14 : decode cX6_least 14 = .ok (.ifCond .ne 9, 3) := by decide +kernel
theorem dX6_least_17 : decode cX6_least 17 = .ok (.bipush (-2), 2) := by decide +kernel
theorem dX6_least_19 : decode cX6_least 19 = .ok (.invokestatic 141, 3) := by decide +kernel
theorem dX6_least_22 : decode cX6_least 22 = .ok (.lreturn, 1) := by decide +kernel
theorem dX6_least_23 : decode cX6_least 23 = .ok (.aload_n 0, 1) := by decide +kernel
theorem dX6_least_24 : decode cX6_least 24 = .ok (.getfield 26, 3) := by decide +kernel
theorem dX6_least_27 : decode cX6_least 27 = .ok (.iload_n 1, 1) := by decide +kernel
theorem dX6_least_28 : decode cX6_least 28 = .ok (.baload, 1) := by decide +kernel
theorem dX6_least_29 : decode cX6_least 29 = .ok (.ifCond .eq 19, 3) := by decide +kernel
theorem dX6_least_32 : decode cX6_least 32 = .ok (.aload_n 0, 1) := by decide +kernel
theorem dX6_least_33 : decode cX6_least 33 = .ok (.invokevirtual 151, 3) := by decide +kernel
theorem dX6_least_36 : decode cX6_least 36 = .ok (.ifCond .eq 12, 3) := by decide +kernel
theorem dX6_least_39 : decode cX6_least 39 = .ok (.aload_n 0, 1) := by decide +kernel
theorem dX6_least_40 : decode cX6_least 40 = .ok (.iload_n 1, 1) := by decide +kernel
theorem dX6_least_41 : decode cX6_least 41 = .ok (.iload_n 2, 1) := by decide +kernel
theorem dX6_least_42 : decode cX6_least 42 = .ok (.invokevirtual 159, 3) := by decide +kernel
theorem dX6_least_45 : decode cX6_least 45 = .ok (.goto 8, 3) := by decide +kernel
theorem dX6_least_48 : decode cX6_least 48 = .ok (.bipush (-3), 2) := by decide +kernel
theorem dX6_least_50 : decode cX6_least 50 = .ok (.invokestatic 141, 3) := by decide +kernel
theorem dX6_least_53 : decode cX6_least 53 = .ok (.lreturn, 1) := by decide +kernel
theorem dX6_witnessNow_0 : decode cX6_witnessNow 0 = .ok (.aload_n 0, 1) := by decide +kernel
theorem dX6_witnessNow_1 : decode cX6_witnessNow 1 = .ok (.invokevirtual 94, 3) := by decide +kernel
theorem dX6_witnessNow_4 : decode cX6_witnessNow 4 = .ok (.istore_n 1, 1) := by decide +kernel
theorem dX6_witnessNow_5 : decode cX6_witnessNow 5 = .ok (.iconst 0, 1) := by decide +kernel
theorem dX6_witnessNow_6 : decode cX6_witnessNow 6 = .ok (.istore_n 2, 1) := by decide +kernel
theorem dX6_witnessNow_7 : decode cX6_witnessNow 7 = .ok (.aload_n 0, 1) := by decide +kernel
theorem dX6_witnessNow_8 : decode cX6_witnessNow 8 = .ok (.invokevirtual 151, 3) := by decide +kernel
theorem dX6_witnessNow_11 : decode cX6_witnessNow 11 = .ok (.istore_n 3, 1) := by decide +kernel
theorem dX6_witnessNow_12 : decode cX6_witnessNow 12 = .ok (.iconst 1, 1) := by decide +kernel
theorem dX6_witnessNow_13 : decode cX6_witnessNow 13 = .ok (.istore 4, 2) := by decide +kernel
theorem dX6_witnessNow_15 : decode cX6_witnessNow 15 = .ok (.iload 4, 2) := by decide +kernel
theorem dX6_witnessNow_17 : decode cX6_witnessNow 17 = .ok (.bipush 32, 2) := by decide +kernel
theorem dX6_witnessNow_19 : decode cX6_witnessNow 19 = .ok (.if_icmp .ge 66, 3) := by decide +kernel
theorem dX6_witnessNow_22 : decode cX6_witnessNow 22 = .ok (.iload_n 3, 1) := by decide +kernel
theorem dX6_witnessNow_23 : decode cX6_witnessNow 23 = .ok (.ifCond .ne 62, 3) := by decide +kernel
theorem dX6_witnessNow_26 : decode cX6_witnessNow 26 = .ok (.iload_n 2, 1) := by decide +kernel
theorem dX6_witnessNow_27 : decode cX6_witnessNow 27 = .ok (.ifCond .eq 15, 3) := by decide +kernel
theorem dX6_witnessNow_30 : decode cX6_witnessNow 30 = .ok (.iload 4, 2) := by decide +kernel
theorem dX6_witnessNow_32 : decode cX6_witnessNow 32 = .ok (.invokestatic 134, 3) := by decide +kernel
theorem dX6_witnessNow_35 : decode cX6_witnessNow 35 = .ok (.iload_n 2, 1) := by decide +kernel
theorem dX6_witnessNow_36 : decode cX6_witnessNow 36 = .ok (.invokestatic 134, 3) := by decide +kernel
theorem dX6_witnessNow_39 : decode cX6_witnessNow 39 = .ok (.if_icmp .ge 7, 3) := by decide +kernel
theorem dX6_witnessNow_42 : decode cX6_witnessNow 42 = .ok (.iconst 1, 1) := by decide +kernel
theorem dX6_witnessNow_43 : decode cX6_witnessNow 43 = .ok (.goto 4, 3) := by decide +kernel
theorem dX6_witnessNow_46 : decode cX6_witnessNow 46 = .ok (.iconst 0, 1) := by decide +kernel
theorem dX6_witnessNow_47 : decode cX6_witnessNow 47 = .ok (.istore 5, 2) := by decide +kernel
theorem dX6_witnessNow_49 : decode cX6_witnessNow 49 = .ok (.iload 4, 2) := by decide +kernel
theorem dX6_witnessNow_51 : decode cX6_witnessNow 51 = .ok (.iload_n 1, 1) := by decide +kernel
theorem dX6_witnessNow_52 : decode cX6_witnessNow 52 = .ok (.iconst (-1), 1) := by decide +kernel
theorem dX6_witnessNow_53 : decode cX6_witnessNow 53 = .ok (.ixor, 1) := by decide +kernel
theorem dX6_witnessNow_54 : decode cX6_witnessNow 54 = .ok (.iand, 1) := by decide +kernel
theorem dX6_witnessNow_55 : decode cX6_witnessNow 55 = .ok (.ifCond .ne 22, 3) := by decide +kernel
theorem dX6_witnessNow_58 : decode cX6_witnessNow 58 = .ok (.iload 5, 2) := by decide +kernel
theorem dX6_witnessNow_60 : decode cX6_witnessNow 60 = .ok (.ifCond .eq 17, 3) := by decide +kernel
theorem dX6_witnessNow_63 : decode cX6_witnessNow 63 = .ok (.aload_n 0, 1) := by decide +kernel
theorem dX6_witnessNow_64 : decode cX6_witnessNow 64 = .ok (.iload 4, 2) := by decide +kernel
theorem dX6_witnessNow_66 : decode cX6_witnessNow 66 = .ok (.invokevirtual 148, 3) := by decide +kernel
theorem dX6_witnessNow_69 : decode cX6_witnessNow 69 = .ok (.ifCond .ne 8, 3) := by decide +kernel
theorem dX6_witnessNow_72 : decode cX6_witnessNow 72 = .ok (.iload 4, 2) := by decide +kernel
theorem dX6_witnessNow_74 : decode cX6_witnessNow 74 = .ok (.goto 4, 3) := by decide +kernel
theorem dX6_witnessNow_77 : decode cX6_witnessNow 77 = .ok (.iload_n 2, 1) := by decide +kernel
theorem dX6_witnessNow_78 : decode cX6_witnessNow 78 = .ok (.istore_n 2, 1) := by decide +kernel
theorem dX6_witnessNow_79 : decode cX6_witnessNow 79 = .ok (.iinc 4 1, 3) := by decide +kernel
theorem dX6_witnessNow_82 : decode cX6_witnessNow 82 = .ok (.goto (-67), 3) := by decide +kernel
theorem dX6_witnessNow_85 : decode cX6_witnessNow 85 = .ok (.iload_n 2, 1) := by decide +kernel
theorem dX6_witnessNow_86 : decode cX6_witnessNow 86 = .ok (.ireturn, 1) := by decide +kernel
theorem dX6_witness_0 : decode cX6_witness 0 = .ok (.aload_n 0, 1) := by decide +kernel
theorem dX6_witness_1 : decode cX6_witness 1 = .ok (.invokevirtual 163, 3) := by decide +kernel
theorem dX6_witness_4 : decode cX6_witness 4 = .ok (.ireturn, 1) := by decide +kernel
theorem dX6_outNow_0 : decode cX6_outNow 0 = .ok (.aload_n 0, 1) := by decide +kernel
theorem dX6_outNow_1 : decode cX6_outNow 1 = .ok (.invokevirtual 145, 3) := by decide +kernel
theorem dX6_outNow_4 : decode cX6_outNow 4 = .ok (.aload_n 0, 1) := by decide +kernel
theorem dX6_outNow_5 : decode cX6_outNow 5 = .ok (.invokevirtual 94, 3) := by decide +kernel
theorem dX6_outNow_8 : decode cX6_outNow 8 = .ok (.istore_n 1, 1) := by decide +kernel
theorem dX6_outNow_9 : decode cX6_outNow 9 = .ok (.iload_n 1, 1) := by decide +kernel
theorem dX6_outNow_10 : decode cX6_outNow 10 = .ok (.istore_n 2, 1) := by decide +kernel
theorem dX6_outNow_11 : decode cX6_outNow 11 = .ok (.iconst 0, 1) := by decide +kernel
theorem dX6_outNow_12 : decode cX6_outNow 12 = .ok (.istore_n 3, 1) := by decide +kernel
theorem dX6_outNow_13 : decode cX6_outNow 13 = .ok (.iload_n 3, 1) := by decide +kernel
theorem dX6_outNow_14 : decode cX6_outNow 14 = .ok (.bipush 32, 2) := by decide +kernel
theorem dX6_outNow_16 : decode cX6_outNow 16 = .ok (.if_icmp .ge 58, 3) := by decide +kernel
theorem dX6_outNow_19 : decode cX6_outNow 19 = .ok (.iload_n 3, 1) := by decide +kernel
theorem dX6_outNow_20 : decode cX6_outNow 20 = .ok (.invokestatic 134, 3) := by decide +kernel
theorem dX6_outNow_23 : decode cX6_outNow 23 = .ok (.iload_n 2, 1) := by decide +kernel
theorem dX6_outNow_24 : decode cX6_outNow 24 = .ok (.invokestatic 134, 3) := by decide +kernel
theorem dX6_outNow_27 : decode cX6_outNow 27 = .ok (.if_icmp .ge 7, 3) := by decide +kernel
theorem dX6_outNow_30 : decode cX6_outNow 30 = .ok (.iconst 1, 1) := by decide +kernel
theorem dX6_outNow_31 : decode cX6_outNow 31 = .ok (.goto 4, 3) := by decide +kernel
theorem dX6_outNow_34 : decode cX6_outNow 34 = .ok (.iconst 0, 1) := by decide +kernel
theorem dX6_outNow_35 : decode cX6_outNow 35 = .ok (.istore 4, 2) := by decide +kernel
theorem dX6_outNow_37 : decode cX6_outNow 37 = .ok (.iload_n 3, 1) := by decide +kernel
theorem dX6_outNow_38 : decode cX6_outNow 38 = .ok (.iload_n 1, 1) := by decide +kernel
theorem dX6_outNow_39 : decode cX6_outNow 39 = .ok (.iconst (-1), 1) := by decide +kernel
theorem dX6_outNow_40 : decode cX6_outNow 40 = .ok (.ixor, 1) := by decide +kernel
theorem dX6_outNow_41 : decode cX6_outNow 41 = .ok (.iand, 1) := by decide +kernel
theorem dX6_outNow_42 : decode cX6_outNow 42 = .ok (.ifCond .ne 24, 3) := by decide +kernel
theorem dX6_outNow_45 : decode cX6_outNow 45 = .ok (.iload 4, 2) := by decide +kernel
theorem dX6_outNow_47 : decode cX6_outNow 47 = .ok (.ifCond .eq 19, 3) := by decide +kernel
theorem dX6_outNow_50 : decode cX6_outNow 50 = .ok (.aload_n 0, 1) := by decide +kernel
theorem dX6_outNow_51 : decode cX6_outNow 51 = .ok (.iload_n 1, 1) := by decide +kernel
theorem dX6_outNow_52 : decode cX6_outNow 52 = .ok (.iload_n 3, 1) := by decide +kernel
theorem dX6_outNow_53 : decode cX6_outNow 53 = .ok (.iconst (-1), 1) := by decide +kernel
theorem dX6_outNow_54 : decode cX6_outNow 54 = .ok (.ixor, 1) := by decide +kernel
theorem dX6_outNow_55 : decode cX6_outNow 55 = .ok (.iand, 1) := by decide +kernel
theorem dX6_outNow_56 : decode cX6_outNow 56 = .ok (.invokevirtual 148, 3) := by decide +kernel
theorem dX6_outNow_59 : decode cX6_outNow 59 = .ok (.ifCond .eq 7, 3) := by decide +kernel
theorem dX6_outNow_62 : decode cX6_outNow 62 = .ok (.iload_n 3, 1) := by decide +kernel
theorem dX6_outNow_63 : decode cX6_outNow 63 = .ok (.goto 4, 3) := by decide +kernel
theorem dX6_outNow_66 : decode cX6_outNow 66 = .ok (.iload_n 2, 1) := by decide +kernel
theorem dX6_outNow_67 : decode cX6_outNow 67 = .ok (.istore_n 2, 1) := by decide +kernel
theorem dX6_outNow_68 : decode cX6_outNow 68 = .ok (.iinc 3 1, 3) := by decide +kernel
theorem dX6_outNow_71 : decode cX6_outNow 71 = .ok (.goto (-58), 3) := by decide +kernel
theorem dX6_outNow_74 : decode cX6_outNow 74 = .ok (.iload_n 2, 1) := by decide +kernel
theorem dX6_outNow_75 : decode cX6_outNow 75 = .ok (.ireturn, 1) := by decide +kernel
theorem dX6_out_0 : decode cX6_out 0 = .ok (.aload_n 0, 1) := by decide +kernel
theorem dX6_out_1 : decode cX6_out 1 = .ok (.invokevirtual 166, 3) := by decide +kernel
theorem dX6_out_4 : decode cX6_out 4 = .ok (.ireturn, 1) := by decide +kernel
theorem dX6_admittedNow_0 : decode cX6_admittedNow 0 = .ok (.aload_n 0, 1) := by decide +kernel
theorem dX6_admittedNow_1 : decode cX6_admittedNow 1 = .ok (.invokevirtual 145, 3) := by decide +kernel
theorem dX6_admittedNow_4 : decode cX6_admittedNow 4 = .ok (.iconst 0, 1) := by decide +kernel
theorem dX6_admittedNow_5 : decode cX6_admittedNow 5 = .ok (.istore_n 1, 1) := by decide +kernel
theorem dX6_admittedNow_6 : decode cX6_admittedNow 6 = .ok (.iconst 0, 1) := by decide +kernel
theorem dX6_admittedNow_7 : decode cX6_admittedNow 7 = .ok (.istore_n 2, 1) := by decide +kernel
theorem dX6_admittedNow_8 : decode cX6_admittedNow 8 = .ok (.iload_n 2, 1) := by decide +kernel
theorem dX6_admittedNow_9 : decode cX6_admittedNow 9 = .ok (.aload_n 0, 1) := by decide +kernel
theorem dX6_admittedNow_10 : decode cX6_admittedNow 10 = .ok (.getfield 7, 3) := by decide +kernel
theorem dX6_admittedNow_13 : decode cX6_admittedNow 13 = .ok (.if_icmp .ge 40, 3) := by decide +kernel
theorem dX6_admittedNow_16 : decode cX6_admittedNow 16 = .ok (.aload_n 0, 1) := by decide +kernel
theorem dX6_admittedNow_17 : decode cX6_admittedNow 17 = .ok (.getfield 26, 3) := by decide +kernel
theorem dX6_admittedNow_20 : decode cX6_admittedNow 20 = .ok (.iload_n 2, 1) := by decide +kernel
theorem dX6_admittedNow_21 : decode cX6_admittedNow 21 = .ok (.baload, 1) := by decide +kernel
theorem dX6_admittedNow_22 : decode cX6_admittedNow 22 = .ok (.ifCond .eq 23, 3) := by decide +kernel
theorem dX6_admittedNow_25 : decode cX6_admittedNow 25 = .ok (.aload_n 0, 1) := by decide +kernel
theorem dX6_admittedNow_26 : decode cX6_admittedNow 26 = .ok (.iload_n 1, 1) := by decide +kernel
theorem dX6_admittedNow_27 : decode cX6_admittedNow 27 = .ok (.iconst 1, 1) := by decide +kernel
theorem dX6_admittedNow_28 : decode cX6_admittedNow 28 = .ok (.iload_n 2, 1) := by decide +kernel
theorem dX6_admittedNow_29 : decode cX6_admittedNow 29 = .ok (.ishl, 1) := by decide +kernel
theorem dX6_admittedNow_30 : decode cX6_admittedNow 30 = .ok (.ior, 1) := by decide +kernel
theorem dX6_admittedNow_31 : decode cX6_admittedNow 31 = .ok (.invokevirtual 148, 3) := by decide +kernel
theorem dX6_admittedNow_34 : decode cX6_admittedNow 34 = .ok (.ifCond .eq 11, 3) := by decide +kernel
theorem dX6_admittedNow_37 : decode cX6_admittedNow 37 = .ok (.iload_n 1, 1) := by decide +kernel
theorem dX6_admittedNow_38 : decode cX6_admittedNow 38 = .ok (.iconst 1, 1) := by decide +kernel
theorem dX6_admittedNow_39 : decode cX6_admittedNow 39 = .ok (.iload_n 2, 1) := by decide +kernel
theorem dX6_admittedNow_40 : decode cX6_admittedNow 40 = .ok (.ishl, 1) := by decide +kernel
theorem dX6_admittedNow_41 : decode cX6_admittedNow 41 = .ok (.ior, 1) := by decide +kernel
theorem dX6_admittedNow_42 : decode cX6_admittedNow 42 = .ok (.goto 4, 3) := by decide +kernel
theorem dX6_admittedNow_45 : decode cX6_admittedNow 45 = .ok (.iload_n 1, 1) := by decide +kernel
theorem dX6_admittedNow_46 : decode cX6_admittedNow 46 = .ok (.istore_n 1, 1) := by decide +kernel
theorem dX6_admittedNow_47 : decode cX6_admittedNow 47 = .ok (.iinc 2 1, 3) := by decide +kernel
theorem dX6_admittedNow_50 : decode cX6_admittedNow 50 = .ok (.goto (-42), 3) := by decide +kernel
theorem dX6_admittedNow_53 : decode cX6_admittedNow 53 = .ok (.iload_n 1, 1) := by decide +kernel
theorem dX6_admittedNow_54 : decode cX6_admittedNow 54 = .ok (.ireturn, 1) := by decide +kernel
theorem dX6_admitted_0 : decode cX6_admitted 0 = .ok (.aload_n 0, 1) := by decide +kernel
theorem dX6_admitted_1 : decode cX6_admitted 1 = .ok (.invokevirtual 169, 3) := by decide +kernel
theorem dX6_admitted_4 : decode cX6_admitted 4 = .ok (.ireturn, 1) := by decide +kernel
theorem dX6_softer_0 : decode cX6_softer 0 = .ok (.aload_n 0, 1) := by decide +kernel
theorem dX6_softer_1 : decode cX6_softer 1 = .ok (.invokevirtual 151, 3) := by decide +kernel
theorem dX6_softer_4 : decode cX6_softer 4 = .ok (.ifCond .eq 5, 3) := by decide +kernel
theorem dX6_softer_7 : decode cX6_softer 7 = .ok (.iconst (-1), 1) := by decide +kernel
theorem dX6_softer_8 : decode cX6_softer 8 = .ok (.ireturn, 1) := by decide +kernel
theorem dX6_softer_9 : decode cX6_softer 9 = .ok (.iconst (-1), 1) := by decide +kernel
theorem dX6_softer_10 : decode cX6_softer 10 = .ok (.istore_n 1, 1) := by decide +kernel
theorem dX6_softer_11 : decode cX6_softer 11 = .ok (.aload_n 0, 1) := by decide +kernel
theorem dX6_softer_12 : decode cX6_softer 12 = .ok (.getfield 7, 3) := by decide +kernel
theorem dX6_softer_15 : decode cX6_softer 15 = .ok (.iconst 1, 1) := by decide +kernel
theorem dX6_softer_16 : decode cX6_softer 16 = .ok (.isub, 1) := by decide +kernel
theorem dX6_softer_17 : decode cX6_softer 17 = .ok (.istore_n 2, 1) := by decide +kernel
theorem dX6_softer_18 : decode cX6_softer 18 = .ok (.iload_n 2, 1) := by decide +kernel
theorem dX6_softer_19 : decode cX6_softer 19 = .ok (.ifCond .lt 63, 3) := by decide +kernel
theorem dX6_softer_22 : decode cX6_softer 22 = .ok (.aload_n 0, 1) := by decide +kernel
theorem dX6_softer_23 : decode cX6_softer 23 = .ok (.invokevirtual 145, 3) := by decide +kernel
theorem dX6_softer_26 : decode cX6_softer 26 = .ok (.aload_n 0, 1) := by decide +kernel
theorem dX6_softer_27 : decode cX6_softer 27 = .ok (.getfield 43, 3) := by decide +kernel
theorem dX6_softer_30 : decode cX6_softer 30 = .ok (.iload_n 2, 1) := by decide +kernel
theorem dX6_softer_31 : decode cX6_softer 31 = .ok (.dup2, 1) := by decide +kernel
theorem dX6_softer_32 : decode cX6_softer 32 = .ok (.iaload, 1) := by decide +kernel
theorem dX6_softer_33 : decode cX6_softer 33 = .ok (.aload_n 0, 1) := by decide +kernel
theorem dX6_softer_34 : decode cX6_softer 34 = .ok (.getfield 17, 3) := by decide +kernel
theorem dX6_softer_37 : decode cX6_softer 37 = .ok (.iload_n 2, 1) := by decide +kernel
theorem dX6_softer_38 : decode cX6_softer 38 = .ok (.iaload, 1) := by decide +kernel
theorem dX6_softer_39 : decode cX6_softer 39 = .ok (.iconst 1, 1) := by decide +kernel
theorem dX6_softer_40 : decode cX6_softer 40 = .ok (.if_icmp .le 7, 3) := by decide +kernel
theorem dX6_softer_43 : decode cX6_softer 43 = .ok (.iconst 1, 1) := by decide +kernel
theorem dX6_softer_44 : decode cX6_softer 44 = .ok (.goto 4, 3) := by decide +kernel
theorem dX6_softer_47 : decode cX6_softer 47 = .ok (.iconst 0, 1) := by decide +kernel
theorem dX6_softer_48 : decode cX6_softer 48 = .ok (.isub, 1) := by decide +kernel
theorem dX6_softer_49 : decode cX6_softer 49 = .ok (.iastore, 1) := by decide +kernel
theorem dX6_softer_50 : decode cX6_softer 50 = .ok (.aload_n 0, 1) := by decide +kernel
theorem dX6_softer_51 : decode cX6_softer 51 = .ok (.getfield 26, 3) := by decide +kernel
theorem dX6_softer_54 : decode cX6_softer 54 = .ok (.iload_n 2, 1) := by decide +kernel
theorem dX6_softer_55 : decode cX6_softer 55 = .ok (.baload, 1) := by decide +kernel
theorem dX6_softer_56 : decode cX6_softer 56 = .ok (.ifCond .eq 18, 3) := by decide +kernel
theorem dX6_softer_59 : decode cX6_softer 59 = .ok (.aload_n 0, 1) := by decide +kernel
theorem dX6_softer_60 : decode cX6_softer 60 = .ok (.aload_n 0, 1) := by decide +kernel
theorem dX6_softer_61 : decode cX6_softer 61 = .ok (.invokevirtual 94, 3) := by decide +kernel
theorem dX6_softer_64 : decode cX6_softer 64 = .ok (.invokevirtual 148, 3) := by decide +kernel
theorem dX6_softer_67 : decode cX6_softer 67 = .ok (.ifCond .eq 7, 3) := by decide +kernel
theorem dX6_softer_70 : decode cX6_softer 70 = .ok (.iload_n 2, 1) := by decide +kernel
theorem dX6_softer_71 : decode cX6_softer 71 = .ok (.goto 4, 3) := by decide +kernel
theorem dX6_softer_74 : decode cX6_softer 74 = .ok (.iload_n 1, 1) := by decide +kernel
theorem dX6_softer_75 : decode cX6_softer 75 = .ok (.istore_n 1, 1) := by decide +kernel
theorem dX6_softer_76 : decode cX6_softer 76 = .ok (.iinc 2 (-1), 3) := by decide +kernel
theorem dX6_softer_79 : decode cX6_softer 79 = .ok (.goto (-61), 3) := by decide +kernel
theorem dX6_softer_82 : decode cX6_softer 82 = .ok (.iload_n 1, 1) := by decide +kernel
theorem dX6_softer_83 : decode cX6_softer 83 = .ok (.ireturn, 1) := by decide +kernel
theorem dX6_margin_0 : decode cX6_margin 0 = .ok (.iconst 0, 1) := by decide +kernel
theorem dX6_margin_1 : decode cX6_margin 1 = .ok (.istore_n 1, 1) := by decide +kernel
theorem dX6_margin_2 : decode cX6_margin 2 = .ok (.iconst 1, 1) := by decide +kernel
theorem dX6_margin_3 : decode cX6_margin 3 = .ok (.istore_n 2, 1) := by decide +kernel
theorem dX6_margin_4 : decode cX6_margin 4 = .ok (.iload_n 2, 1) := by decide +kernel
theorem dX6_margin_5 : decode cX6_margin 5 = .ok (.bipush 8, 2) := by decide +kernel
theorem dX6_margin_7 : decode cX6_margin 7 = .ok (.if_icmp .gt 58, 3) := by decide +kernel
theorem dX6_margin_10 : decode cX6_margin 10 = .ok (.aload_n 0, 1) := by decide +kernel
theorem dX6_margin_11 : decode cX6_margin 11 = .ok (.iconst 4, 1) := by decide +kernel
theorem dX6_margin_12 : decode cX6_margin 12 = .ok (.putfield 46, 3) := by decide +kernel
theorem dX6_margin_15 : decode cX6_margin 15 = .ok (.iconst 0, 1) := by decide +kernel
theorem dX6_margin_16 : decode cX6_margin 16 = .ok (.istore_n 3, 1) := by decide +kernel
theorem dX6_margin_17 : decode cX6_margin 17 = .ok (.iload_n 3, 1) := by decide +kernel
theorem dX6_margin_18 : decode cX6_margin 18 = .ok (.iconst 5, 1) := by decide +kernel
theorem dX6_margin_19 : decode cX6_margin 19 = .ok (.if_icmp .ge 23, 3) := by decide +kernel
theorem dX6_margin_22 : decode cX6_margin 22 = .ok (.aload_n 0, 1) := by decide +kernel
theorem dX6_margin_23 : decode cX6_margin 23 = .ok (.getfield 43, 3) := by decide +kernel
theorem dX6_margin_26 : decode cX6_margin 26 = .ok (.iload_n 3, 1) := by decide +kernel
theorem dX6_margin_27 : decode cX6_margin 27 = .ok (.aload_n 0, 1) := by decide +kernel
theorem dX6_margin_28 : decode cX6_margin 28 = .ok (.getfield 17, 3) := by decide +kernel
theorem dX6_margin_31 : decode cX6_margin 31 = .ok (.iload_n 3, 1) := by decide +kernel
theorem dX6_margin_32 : decode cX6_margin 32 = .ok (.iaload, 1) := by decide +kernel
theorem dX6_margin_33 : decode cX6_margin 33 = .ok (.iload_n 2, 1) := by decide +kernel
theorem dX6_margin_34 : decode cX6_margin 34 = .ok (.imul, 1) := by decide +kernel
theorem dX6_margin_35 : decode cX6_margin 35 = .ok (.iastore, 1) := by decide +kernel
theorem dX6_margin_36 : decode cX6_margin 36 = .ok (.iinc 3 1, 3) := by decide +kernel
theorem dX6_margin_39 : decode cX6_margin 39 = .ok (.goto (-22), 3) := by decide +kernel
theorem dX6_margin_42 : decode cX6_margin 42 = .ok (.aload_n 0, 1) := by decide +kernel
theorem dX6_margin_43 : decode cX6_margin 43 = .ok (.aload_n 0, 1) := by decide +kernel
theorem dX6_margin_44 : decode cX6_margin 44 = .ok (.invokevirtual 94, 3) := by decide +kernel
theorem dX6_margin_47 : decode cX6_margin 47 = .ok (.invokevirtual 148, 3) := by decide +kernel
theorem dX6_margin_50 : decode cX6_margin 50 = .ok (.ifCond .eq 7, 3) := by decide +kernel
theorem dX6_margin_53 : decode cX6_margin 53 = .ok (.iload_n 2, 1) := by decide +kernel
theorem dX6_margin_54 : decode cX6_margin 54 = .ok (.goto 4, 3) := by decide +kernel
theorem dX6_margin_57 : decode cX6_margin 57 = .ok (.iload_n 1, 1) := by decide +kernel
theorem dX6_margin_58 : decode cX6_margin 58 = .ok (.istore_n 1, 1) := by decide +kernel
theorem dX6_margin_59 : decode cX6_margin 59 = .ok (.iinc 2 1, 3) := by decide +kernel
theorem dX6_margin_62 : decode cX6_margin 62 = .ok (.goto (-58), 3) := by decide +kernel
theorem dX6_margin_65 : decode cX6_margin 65 = .ok (.iload_n 1, 1) := by decide +kernel
theorem dX6_margin_66 : decode cX6_margin 66 = .ok (.ireturn, 1) := by decide +kernel
theorem dX6_shareOf_0 : decode cX6_shareOf 0 = .ok (.aload_n 0, 1) := by decide +kernel
theorem dX6_shareOf_1 : decode cX6_shareOf 1 = .ok (.invokevirtual 114, 3) := by decide +kernel
theorem dX6_shareOf_4 : decode cX6_shareOf 4 = .ok (.aload_n 0, 1) := by decide +kernel
theorem dX6_shareOf_5 : decode cX6_shareOf 5 = .ok (.iload_n 1, 1) := by decide +kernel
theorem dX6_shareOf_6 : decode cX6_shareOf 6 = .ok (.invokevirtual 111, 3) := by decide +kernel
theorem dX6_shareOf_9 : decode cX6_shareOf 9 = .ok (.istore_n 3, 1) := by decide +kernel
theorem dX6_shareOf_10 : decode cX6_shareOf 10 = .ok (.iload_n 3, 1) := by decide +kernel
theorem dX6_shareOf_11 : decode cX6_shareOf 11 = .ok (.ifCond .ne 11, 3) := by decide +kernel
theorem dX6_shareOf_14 : decode cX6_shareOf 14 = .ok (.bipush (-3), 2) := by decide +kernel
theorem dX6_shareOf_16 : decode cX6_shareOf 16 = .ok (.invokestatic 141, 3) := by decide +kernel
theorem dX6_shareOf_19 : decode cX6_shareOf 19 = .ok (.goto 27, 3) := by decide +kernel
theorem dX6_shareOf_22 : decode cX6_shareOf 22 = .ok (.aload_n 0, 1) := by decide +kernel
theorem dX6_shareOf_23 : decode cX6_shareOf 23 = .ok (.getfield 13, 3) := by decide +kernel
theorem dX6_shareOf_26 : decode cX6_shareOf 26 = .ok (.bipush 6, 2) := by decide +kernel
theorem dX6_shareOf_28 : decode cX6_shareOf 28 = .ok (.iload_n 1, 1) := by decide +kernel
theorem dX6_shareOf_29 : decode cX6_shareOf 29 = .ok (.imul, 1) := by decide +kernel
theorem dX6_shareOf_30 : decode cX6_shareOf 30 = .ok (.iaload, 1) := by decide +kernel
theorem dX6_shareOf_31 : decode cX6_shareOf 31 = .ok (.i2l, 1) := by decide +kernel
theorem dX6_shareOf_32 : decode cX6_shareOf 32 = .ok (.aload_n 0, 1) := by decide +kernel
theorem dX6_shareOf_33 : decode cX6_shareOf 33 = .ok (.getfield 30, 3) := by decide +kernel
theorem dX6_shareOf_36 : decode cX6_shareOf 36 = .ok (.iload_n 1, 1) := by decide +kernel
theorem dX6_shareOf_37 : decode cX6_shareOf 37 = .ok (.iaload, 1) := by decide +kernel
theorem dX6_shareOf_38 : decode cX6_shareOf 38 = .ok (.i2l, 1) := by decide +kernel
theorem dX6_shareOf_39 : decode cX6_shareOf 39 = .ok (.lmul, 1) := by decide +kernel
theorem dX6_shareOf_40 : decode cX6_shareOf 40 = .ok (.iload_n 3, 1) := by decide +kernel
theorem dX6_shareOf_41 : decode cX6_shareOf 41 = .ok (.i2l, 1) := by decide +kernel
theorem dX6_shareOf_42 : decode cX6_shareOf 42 = .ok (.iload_n 2, 1) := by decide +kernel
theorem dX6_shareOf_43 : decode cX6_shareOf 43 = .ok (.invokestatic 155, 3) := by decide +kernel
theorem dX6_shareOf_46 : decode cX6_shareOf 46 = .ok (.lreturn, 1) := by decide +kernel
theorem dX6_share_0 : decode cX6_share 0 = .ok (.aload_n 0, 1) := by decide +kernel
theorem dX6_share_1 : decode cX6_share 1 = .ok (.iload_n 1, 1) := by decide +kernel
theorem dX6_share_2 : decode cX6_share 2 = .ok (.invokevirtual 79, 3) := by decide +kernel
theorem dX6_share_5 : decode cX6_share 5 = .ok (.ifCond .eq 12, 3) := by decide +kernel
theorem dX6_share_8 : decode cX6_share 8 = .ok (.iload_n 2, 1) := by decide +kernel
theorem dX6_share_9 : decode cX6_share 9 = .ok (.iconst 0, 1) := by decide +kernel
theorem dX6_share_10 : decode cX6_share 10 = .ok (.iconst 1, 1) := by decide +kernel
theorem dX6_share_11 : decode cX6_share 11 = .ok (.invokestatic 75, 3) := by decide +kernel
theorem dX6_share_14 : decode cX6_share 14 = .ok (.ifCond .ne 9, 3) := by decide +kernel
theorem dX6_share_17 : decode cX6_share 17 = .ok (.bipush (-2), 2) := by decide +kernel
theorem dX6_share_19 : decode cX6_share 19 = .ok (.invokestatic 141, 3) := by decide +kernel
theorem dX6_share_22 : decode cX6_share 22 = .ok (.lreturn, 1) := by decide +kernel
theorem dX6_share_23 : decode cX6_share 23 = .ok (.aload_n 0, 1) := by decide +kernel
theorem dX6_share_24 : decode cX6_share 24 = .ok (.getfield 26, 3) := by decide +kernel
theorem dX6_share_27 : decode cX6_share 27 = .ok (.iload_n 1, 1) := by decide +kernel
theorem dX6_share_28 : decode cX6_share 28 = .ok (.baload, 1) := by decide +kernel
theorem dX6_share_29 : decode cX6_share 29 = .ok (.ifCond .eq 12, 3) := by decide +kernel
theorem dX6_share_32 : decode cX6_share 32 = .ok (.aload_n 0, 1) := by decide +kernel
theorem dX6_share_33 : decode cX6_share 33 = .ok (.iload_n 1, 1) := by decide +kernel
theorem dX6_share_34 : decode cX6_share 34 = .ok (.iload_n 2, 1) := by decide +kernel
theorem dX6_share_35 : decode cX6_share 35 = .ok (.invokevirtual 172, 3) := by decide +kernel
theorem dX6_share_38 : decode cX6_share 38 = .ok (.goto 8, 3) := by decide +kernel
theorem dX6_share_41 : decode cX6_share 41 = .ok (.bipush (-3), 2) := by decide +kernel
theorem dX6_share_43 : decode cX6_share 43 = .ok (.invokestatic 141, 3) := by decide +kernel
theorem dX6_share_46 : decode cX6_share 46 = .ok (.lreturn, 1) := by decide +kernel
theorem dX6_stepped_0 : decode cX6_stepped 0 = .ok (.aload_n 0, 1) := by decide +kernel
theorem dX6_stepped_1 : decode cX6_stepped 1 = .ok (.iload_n 1, 1) := by decide +kernel
theorem dX6_stepped_2 : decode cX6_stepped 2 = .ok (.invokevirtual 117, 3) := by decide +kernel
theorem dX6_stepped_5 : decode cX6_stepped 5 = .ok (.istore_n 2, 1) := by decide +kernel
theorem dX6_stepped_6 : decode cX6_stepped 6 = .ok (.iload_n 2, 1) := by decide +kernel
theorem dX6_stepped_7 : decode cX6_stepped 7 = .ok (.aload_n 0, 1) := by decide +kernel
theorem dX6_stepped_8 : decode cX6_stepped 8 = .ok (.getfield 23, 3) := by decide +kernel
theorem dX6_stepped_11 : decode cX6_stepped 11 = .ok (.iload_n 1, 1) := by decide +kernel
theorem dX6_stepped_12 : decode cX6_stepped 12 = .ok (.iaload, 1) := by decide +kernel
theorem dX6_stepped_13 : decode cX6_stepped 13 = .ok (.if_icmp .ge 7, 3) := by decide +kernel
theorem dX6_stepped_16 : decode cX6_stepped 16 = .ok (.iload_n 2, 1) := by decide +kernel
theorem dX6_stepped_17 : decode cX6_stepped 17 = .ok (.goto 9, 3) := by decide +kernel
theorem dX6_stepped_20 : decode cX6_stepped 20 = .ok (.aload_n 0, 1) := by decide +kernel
theorem dX6_stepped_21 : decode cX6_stepped 21 = .ok (.getfield 23, 3) := by decide +kernel
theorem dX6_stepped_24 : decode cX6_stepped 24 = .ok (.iload_n 1, 1) := by decide +kernel
theorem dX6_stepped_25 : decode cX6_stepped 25 = .ok (.iaload, 1) := by decide +kernel
theorem dX6_stepped_26 : decode cX6_stepped 26 = .ok (.ireturn, 1) := by decide +kernel
theorem dX6_turns_0 : decode cX6_turns 0 = .ok (.iconst 0, 1) := by decide +kernel
theorem dX6_turns_1 : decode cX6_turns 1 = .ok (.istore_n 1, 1) := by decide +kernel
theorem dX6_turns_2 : decode cX6_turns 2 = .ok (.iconst 0, 1) := by decide +kernel
theorem dX6_turns_3 : decode cX6_turns 3 = .ok (.istore_n 2, 1) := by decide +kernel
theorem dX6_turns_4 : decode cX6_turns 4 = .ok (.iload_n 2, 1) := by decide +kernel
theorem dX6_turns_5 : decode cX6_turns 5 = .ok (.aload_n 0, 1) := by decide +kernel
theorem dX6_turns_6 : decode cX6_turns 6 = .ok (.getfield 7, 3) := by decide +kernel
theorem dX6_turns_9 : decode cX6_turns 9 = .ok (.if_icmp .ge 130, 3) := by decide +kernel
theorem dX6_turns_12 : decode cX6_turns 12 = .ok (.aload_n 0, 1) := by decide +kernel
theorem dX6_turns_13 : decode cX6_turns 13 = .ok (.getfield 52, 3) := by decide +kernel
theorem dX6_turns_16 : decode cX6_turns 16 = .ok (.iload_n 2, 1) := by decide +kernel
theorem dX6_turns_17 : decode cX6_turns 17 = .ok (.aload_n 0, 1) := by decide +kernel
theorem dX6_turns_18 : decode cX6_turns 18 = .ok (.getfield 26, 3) := by decide +kernel
theorem dX6_turns_21 : decode cX6_turns 21 = .ok (.iload_n 2, 1) := by decide +kernel
theorem dX6_turns_22 : decode cX6_turns 22 = .ok (.baload, 1) := by decide +kernel
theorem dX6_turns_23 : decode cX6_turns 23 = .ok (.ifCond .eq 11, 3) := by decide +kernel
theorem dX6_turns_26 : decode cX6_turns 26 = .ok (.aload_n 0, 1) := by decide +kernel
theorem dX6_turns_27 : decode cX6_turns 27 = .ok (.iload_n 2, 1) := by decide +kernel
theorem dX6_turns_28 : decode cX6_turns 28 = .ok (.invokevirtual 175, 3) := by decide +kernel
theorem dX6_turns_31 : decode cX6_turns 31 = .ok (.goto 9, 3) := by decide +kernel
theorem dX6_turns_34 : decode cX6_turns 34 = .ok (.aload_n 0, 1) := by decide +kernel
theorem dX6_turns_35 : decode cX6_turns 35 = .ok (.getfield 49, 3) := by decide +kernel
theorem dX6_turns_38 : decode cX6_turns 38 = .ok (.iload_n 2, 1) := by decide +kernel
theorem dX6_turns_39 : decode cX6_turns 39 = .ok (.iaload, 1) := by decide +kernel
theorem dX6_turns_40 : decode cX6_turns 40 = .ok (.iastore, 1) := by decide +kernel
theorem dX6_turns_41 : decode cX6_turns 41 = .ok (.aload_n 0, 1) := by decide +kernel
theorem dX6_turns_42 : decode cX6_turns 42 = .ok (.getfield 52, 3) := by decide +kernel
theorem dX6_turns_45 : decode cX6_turns 45 = .ok (.iload_n 2, 1) := by decide +kernel
theorem dX6_turns_46 : decode cX6_turns 46 = .ok (.aload_n 0, 1) := by decide +kernel
theorem dX6_turns_47 : decode cX6_turns 47 = .ok (.getfield 26, 3) := by decide +kernel
theorem dX6_turns_50 : decode cX6_turns 50 = .ok (.iload_n 2, 1) := by decide +kernel
theorem dX6_turns_51 : decode cX6_turns 51 = .ok (.baload, 1) := by decide +kernel
theorem dX6_turns_52 : decode cX6_turns 52 = .ok (.ifCond .eq 31, 3) := by decide +kernel
theorem dX6_turns_55 : decode cX6_turns 55 = .ok (.aload_n 0, 1) := by decide +kernel
theorem dX6_turns_56 : decode cX6_turns 56 = .ok (.getfield 98, 3) := by decide +kernel
theorem dX6_turns_59 : decode cX6_turns 59 = .ok (.iconst 2, 1) := by decide +kernel
theorem dX6_turns_60 : decode cX6_turns 60 = .ok (.if_icmp .ne 23, 3) := by decide +kernel
theorem dX6_turns_63 : decode cX6_turns 63 = .ok (.aload_n 0, 1) := by decide +kernel
theorem dX6_turns_64 : decode cX6_turns 64 = .ok (.getfield 49, 3) := by decide +kernel
theorem dX6_turns_67 : decode cX6_turns 67 = .ok (.iload_n 2, 1) := by decide +kernel
theorem dX6_turns_68 : decode cX6_turns 68 = .ok (.iaload, 1) := by decide +kernel
theorem dX6_turns_69 : decode cX6_turns 69 = .ok (.aload_n 0, 1) := by decide +kernel
theorem dX6_turns_70 : decode cX6_turns 70 = .ok (.getfield 52, 3) := by decide +kernel
theorem dX6_turns_73 : decode cX6_turns 73 = .ok (.iload_n 2, 1) := by decide +kernel
theorem dX6_turns_74 : decode cX6_turns 74 = .ok (.iaload, 1) := by decide +kernel
theorem dX6_turns_75 : decode cX6_turns 75 = .ok (.iadd, 1) := by decide +kernel
theorem dX6_turns_76 : decode cX6_turns 76 = .ok (.iconst 1, 1) := by decide +kernel
theorem dX6_turns_77 : decode cX6_turns 77 = .ok (.iadd, 1) := by decide +kernel
theorem dX6_turns_78 : decode cX6_turns 78 = .ok (.iconst 2, 1) := by decide +kernel
theorem dX6_turns_79 : decode cX6_turns 79 = .ok (.idiv, 1) := by decide +kernel
theorem dX6_turns_80 : decode cX6_turns 80 = .ok (.goto 9, 3) := by decide +kernel
theorem dX6_turns_83 : decode cX6_turns 83 = .ok (.aload_n 0, 1) := by decide +kernel
theorem dX6_turns_84 : decode cX6_turns 84 = .ok (.getfield 52, 3) := by decide +kernel
theorem dX6_turns_87 : decode cX6_turns 87 = .ok (.iload_n 2, 1) := by decide +kernel
theorem dX6_turns_88 : decode cX6_turns 88 = .ok (.iaload, 1) := by decide +kernel
theorem dX6_turns_89 : decode cX6_turns 89 = .ok (.iastore, 1) := by decide +kernel
theorem dX6_turns_90 : decode cX6_turns 90 = .ok (.aload_n 0, 1) := by decide +kernel
theorem dX6_turns_91 : decode cX6_turns 91 = .ok (.getfield 98, 3) := by decide +kernel
theorem dX6_turns_94 : decode cX6_turns 94 = .ok (.iconst 1, 1) := by decide +kernel
theorem dX6_turns_95 : decode cX6_turns 95 = .ok (.if_icmp .ne 38, 3) := by decide +kernel
theorem dX6_turns_98 : decode cX6_turns 98 = .ok (.iload_n 1, 1) := by decide +kernel
theorem dX6_turns_99 : decode cX6_turns 99 = .ok (.aload_n 0, 1) := by decide +kernel
theorem dX6_turns_100 : decode cX6_turns 100 = .ok (.getfield 52, 3) := by decide +kernel
theorem dX6_turns_103 : decode cX6_turns 103 = .ok (.iload_n 2, 1) := by decide +kernel
theorem dX6_turns_104 : decode cX6_turns 104 = .ok (.iaload, 1) := by decide +kernel
theorem dX6_turns_105 : decode cX6_turns 105 = .ok (.aload_n 0, 1) := by decide +kernel
theorem dX6_turns_106 : decode cX6_turns 106 = .ok (.getfield 49, 3) := by decide +kernel
theorem dX6_turns_109 : decode cX6_turns 109 = .ok (.iload_n 2, 1) := by decide +kernel
theorem dX6_turns_110 : decode cX6_turns 110 = .ok (.iaload, 1) := by decide +kernel
theorem dX6_turns_111 : decode cX6_turns 111 = .ok (.if_icmp .ne 7, 3) := by decide +kernel
theorem dX6_turns_114 : decode cX6_turns 114 = .ok (.iconst 0, 1) := by decide +kernel
theorem dX6_turns_115 : decode cX6_turns 115 = .ok (.goto 4, 3) := by decide +kernel
theorem dX6_turns_118 : decode cX6_turns 118 = .ok (.iconst 1, 1) := by decide +kernel
theorem dX6_turns_119 : decode cX6_turns 119 = .ok (.iadd, 1) := by decide +kernel
theorem dX6_turns_120 : decode cX6_turns 120 = .ok (.istore_n 1, 1) := by decide +kernel
theorem dX6_turns_121 : decode cX6_turns 121 = .ok (.aload_n 0, 1) := by decide +kernel
theorem dX6_turns_122 : decode cX6_turns 122 = .ok (.getfield 49, 3) := by decide +kernel
theorem dX6_turns_125 : decode cX6_turns 125 = .ok (.iload_n 2, 1) := by decide +kernel
theorem dX6_turns_126 : decode cX6_turns 126 = .ok (.aload_n 0, 1) := by decide +kernel
theorem dX6_turns_127 : decode cX6_turns 127 = .ok (.getfield 52, 3) := by decide +kernel
theorem dX6_turns_130 : decode cX6_turns 130 = .ok (.iload_n 2, 1) := by decide +kernel
theorem dX6_turns_131 : decode cX6_turns 131 = .ok (.iaload, 1) := by decide +kernel
theorem dX6_turns_132 : decode cX6_turns 132 = .ok (.iastore, 1) := by decide +kernel
theorem dX6_turns_133 : decode cX6_turns 133 = .ok (.iinc 2 1, 3) := by decide +kernel
theorem dX6_turns_136 : decode cX6_turns 136 = .ok (.goto (-132), 3) := by decide +kernel
theorem dX6_turns_139 : decode cX6_turns 139 = .ok (.iconst 0, 1) := by decide +kernel
theorem dX6_turns_140 : decode cX6_turns 140 = .ok (.istore_n 2, 1) := by decide +kernel
theorem dX6_turns_141 : decode cX6_turns 141 = .ok (.iload_n 2, 1) := by decide +kernel
theorem dX6_turns_142 : decode cX6_turns 142 = .ok (.aload_n 0, 1) := by decide +kernel
theorem dX6_turns_143 : decode cX6_turns 143 = .ok (.getfield 7, 3) := by decide +kernel
theorem dX6_turns_146 : decode cX6_turns 146 = .ok (.if_icmp .ge 44, 3) := by decide +kernel
theorem dX6_turns_149 : decode cX6_turns 149 = .ok (.iload_n 1, 1) := by decide +kernel
theorem dX6_turns_150 : decode cX6_turns 150 = .ok (.aload_n 0, 1) := by decide +kernel
theorem dX6_turns_151 : decode cX6_turns 151 = .ok (.getfield 52, 3) := by decide +kernel
theorem dX6_turns_154 : decode cX6_turns 154 = .ok (.iload_n 2, 1) := by decide +kernel
theorem dX6_turns_155 : decode cX6_turns 155 = .ok (.iaload, 1) := by decide +kernel
theorem dX6_turns_156 : decode cX6_turns 156 = .ok (.aload_n 0, 1) := by decide +kernel
theorem dX6_turns_157 : decode cX6_turns 157 = .ok (.getfield 49, 3) := by decide +kernel
theorem dX6_turns_160 : decode cX6_turns 160 = .ok (.iload_n 2, 1) := by decide +kernel
theorem dX6_turns_161 : decode cX6_turns 161 = .ok (.iaload, 1) := by decide +kernel
theorem dX6_turns_162 : decode cX6_turns 162 = .ok (.if_icmp .ne 7, 3) := by decide +kernel
theorem dX6_turns_165 : decode cX6_turns 165 = .ok (.iconst 0, 1) := by decide +kernel
theorem dX6_turns_166 : decode cX6_turns 166 = .ok (.goto 4, 3) := by decide +kernel
theorem dX6_turns_169 : decode cX6_turns 169 = .ok (.iconst 1, 1) := by decide +kernel
theorem dX6_turns_170 : decode cX6_turns 170 = .ok (.iadd, 1) := by decide +kernel
theorem dX6_turns_171 : decode cX6_turns 171 = .ok (.istore_n 1, 1) := by decide +kernel
theorem dX6_turns_172 : decode cX6_turns 172 = .ok (.aload_n 0, 1) := by decide +kernel
theorem dX6_turns_173 : decode cX6_turns 173 = .ok (.getfield 49, 3) := by decide +kernel
theorem dX6_turns_176 : decode cX6_turns 176 = .ok (.iload_n 2, 1) := by decide +kernel
theorem dX6_turns_177 : decode cX6_turns 177 = .ok (.aload_n 0, 1) := by decide +kernel
theorem dX6_turns_178 : decode cX6_turns 178 = .ok (.getfield 52, 3) := by decide +kernel
theorem dX6_turns_181 : decode cX6_turns 181 = .ok (.iload_n 2, 1) := by decide +kernel
theorem dX6_turns_182 : decode cX6_turns 182 = .ok (.iaload, 1) := by decide +kernel
theorem dX6_turns_183 : decode cX6_turns 183 = .ok (.iastore, 1) := by decide +kernel
theorem dX6_turns_184 : decode cX6_turns 184 = .ok (.iinc 2 1, 3) := by decide +kernel
theorem dX6_turns_187 : decode cX6_turns 187 = .ok (.goto (-46), 3) := by decide +kernel
theorem dX6_turns_190 : decode cX6_turns 190 = .ok (.iload_n 1, 1) := by decide +kernel
theorem dX6_turns_191 : decode cX6_turns 191 = .ok (.ireturn, 1) := by decide +kernel
theorem dX6_keepsTried_0 : decode cX6_keepsTried 0 = .ok (.iconst 0, 1) := by decide +kernel
theorem dX6_keepsTried_1 : decode cX6_keepsTried 1 = .ok (.istore_n 1, 1) := by decide +kernel
theorem dX6_keepsTried_2 : decode cX6_keepsTried 2 = .ok (.iload_n 1, 1) := by decide +kernel
theorem dX6_keepsTried_3 : decode cX6_keepsTried 3 = .ok (.aload_n 0, 1) := by decide +kernel
theorem dX6_keepsTried_4 : decode cX6_keepsTried 4 = .ok (.getfield 7, 3) := by decide +kernel
theorem dX6_keepsTried_7 : decode cX6_keepsTried 7 = .ok (.if_icmp .ge 21, 3) := by decide +kernel
theorem dX6_keepsTried_10 : decode cX6_keepsTried 10 = .ok (.aload_n 0, 1) := by decide +kernel
theorem dX6_keepsTried_11 : decode cX6_keepsTried 11 = .ok (.getfield 30, 3) := by decide +kernel
theorem dX6_keepsTried_14 : decode cX6_keepsTried 14 = .ok (.iload_n 1, 1) := by decide +kernel
theorem dX6_keepsTried_15 : decode cX6_keepsTried 15 = .ok (.aload_n 0, 1) := by decide +kernel
theorem dX6_keepsTried_16 : decode cX6_keepsTried 16 = .ok (.getfield 49, 3) := by decide +kernel
theorem dX6_keepsTried_19 : decode cX6_keepsTried 19 = .ok (.iload_n 1, 1) := by decide +kernel
theorem dX6_keepsTried_20 : decode cX6_keepsTried 20 = .ok (.iaload, 1) := by decide +kernel
theorem dX6_keepsTried_21 : decode cX6_keepsTried 21 = .ok (.iastore, 1) := by decide +kernel
theorem dX6_keepsTried_22 : decode cX6_keepsTried 22 = .ok (.iinc 1 1, 3) := by decide +kernel
theorem dX6_keepsTried_25 : decode cX6_keepsTried 25 = .ok (.goto (-23), 3) := by decide +kernel
theorem dX6_keepsTried_28 : decode cX6_keepsTried 28 = .ok (.return_, 1) := by decide +kernel
theorem dX6_step_0 : decode cX6_step 0 = .ok (.aload_n 0, 1) := by decide +kernel
theorem dX6_step_1 : decode cX6_step 1 = .ok (.iload_n 1, 1) := by decide +kernel
theorem dX6_step_2 : decode cX6_step 2 = .ok (.invokevirtual 79, 3) := by decide +kernel
theorem dX6_step_5 : decode cX6_step 5 = .ok (.ifCond .ne 6, 3) := by decide +kernel
theorem dX6_step_8 : decode cX6_step 8 = .ok (.bipush (-2), 2) := by decide +kernel
theorem dX6_step_10 : decode cX6_step 10 = .ok (.ireturn, 1) := by decide +kernel
theorem dX6_step_11 : decode cX6_step 11 = .ok (.aload_n 0, 1) := by decide +kernel
theorem dX6_step_12 : decode cX6_step 12 = .ok (.getfield 26, 3) := by decide +kernel
theorem dX6_step_15 : decode cX6_step 15 = .ok (.iload_n 1, 1) := by decide +kernel
theorem dX6_step_16 : decode cX6_step 16 = .ok (.baload, 1) := by decide +kernel
theorem dX6_step_17 : decode cX6_step 17 = .ok (.ifCond .ne 6, 3) := by decide +kernel
theorem dX6_step_20 : decode cX6_step 20 = .ok (.bipush (-3), 2) := by decide +kernel
theorem dX6_step_22 : decode cX6_step 22 = .ok (.ireturn, 1) := by decide +kernel
theorem dX6_step_23 : decode cX6_step 23 = .ok (.aload_n 0, 1) := by decide +kernel
theorem dX6_step_24 : decode cX6_step 24 = .ok (.invokevirtual 114, 3) := by decide +kernel
theorem dX6_step_27 : decode cX6_step 27 = .ok (.aload_n 0, 1) := by decide +kernel
theorem dX6_step_28 : decode cX6_step 28 = .ok (.getfield 30, 3) := by decide +kernel
theorem dX6_step_31 : decode cX6_step 31 = .ok (.iload_n 1, 1) := by decide +kernel
theorem dX6_step_32 : decode cX6_step 32 = .ok (.aload_n 0, 1) := by decide +kernel
theorem dX6_step_33 : decode cX6_step 33 = .ok (.iload_n 1, 1) := by decide +kernel
theorem dX6_step_34 : decode cX6_step 34 = .ok (.invokevirtual 175, 3) := by decide +kernel
theorem dX6_step_37 : decode cX6_step 37 = .ok (.iastore, 1) := by decide +kernel
theorem dX6_step_38 : decode cX6_step 38 = .ok (.aload_n 0, 1) := by decide +kernel
theorem dX6_step_39 : decode cX6_step 39 = .ok (.getfield 30, 3) := by decide +kernel
theorem dX6_step_42 : decode cX6_step 42 = .ok (.iload_n 1, 1) := by decide +kernel
theorem dX6_step_43 : decode cX6_step 43 = .ok (.iaload, 1) := by decide +kernel
theorem dX6_step_44 : decode cX6_step 44 = .ok (.ireturn, 1) := by decide +kernel
theorem dX6_turn_0 : decode cX6_turn 0 = .ok (.aload_n 0, 1) := by decide +kernel
theorem dX6_turn_1 : decode cX6_turn 1 = .ok (.invokevirtual 114, 3) := by decide +kernel
theorem dX6_turn_4 : decode cX6_turn 4 = .ok (.aload_n 0, 1) := by decide +kernel
theorem dX6_turn_5 : decode cX6_turn 5 = .ok (.invokevirtual 178, 3) := by decide +kernel
theorem dX6_turn_8 : decode cX6_turn 8 = .ok (.istore_n 1, 1) := by decide +kernel
theorem dX6_turn_9 : decode cX6_turn 9 = .ok (.aload_n 0, 1) := by decide +kernel
theorem dX6_turn_10 : decode cX6_turn 10 = .ok (.invokevirtual 181, 3) := by decide +kernel
theorem dX6_turn_13 : decode cX6_turn 13 = .ok (.iload_n 1, 1) := by decide +kernel
theorem dX6_turn_14 : decode cX6_turn 14 = .ok (.ireturn, 1) := by decide +kernel
theorem dX6_order_0 : decode cX6_order 0 = .ok (.iconst 0, 1) := by decide +kernel
theorem dX6_order_1 : decode cX6_order 1 = .ok (.istore_n 1, 1) := by decide +kernel
theorem dX6_order_2 : decode cX6_order 2 = .ok (.iconst 0, 1) := by decide +kernel
theorem dX6_order_3 : decode cX6_order 3 = .ok (.istore_n 2, 1) := by decide +kernel
theorem dX6_order_4 : decode cX6_order 4 = .ok (.iload_n 2, 1) := by decide +kernel
theorem dX6_order_5 : decode cX6_order 5 = .ok (.aload_n 0, 1) := by decide +kernel
theorem dX6_order_6 : decode cX6_order 6 = .ok (.getfield 101, 3) := by decide +kernel
theorem dX6_order_9 : decode cX6_order 9 = .ok (.if_icmp .ge 68, 3) := by decide +kernel
theorem dX6_order_12 : decode cX6_order 12 = .ok (.aload_n 0, 1) := by decide +kernel
theorem dX6_order_13 : decode cX6_order 13 = .ok (.invokevirtual 184, 3) := by decide +kernel
theorem dX6_order_16 : decode cX6_order 16 = .ok (.iconst (-1), 1) := by decide +kernel
theorem dX6_order_17 : decode cX6_order 17 = .ok (.if_icmp .ne 60, 3) := by decide +kernel
theorem dX6_order_20 : decode cX6_order 20 = .ok (.aload_n 0, 1) := by decide +kernel
theorem dX6_order_21 : decode cX6_order 21 = .ok (.getfield 33, 3) := by decide +kernel
theorem dX6_order_24 : decode cX6_order 24 = .ok (.iload_n 2, 1) := by decide +kernel
theorem dX6_order_25 : decode cX6_order 25 = .ok (.iaload, 1) := by decide +kernel
theorem dX6_order_26 : decode cX6_order 26 = .ok (.bipush 97, 2) := by decide +kernel
theorem dX6_order_28 : decode cX6_order 28 = .ok (.isub, 1) := by decide +kernel
theorem dX6_order_29 : decode cX6_order 29 = .ok (.istore_n 3, 1) := by decide +kernel
theorem dX6_order_30 : decode cX6_order 30 = .ok (.aload_n 0, 1) := by decide +kernel
theorem dX6_order_31 : decode cX6_order 31 = .ok (.invokevirtual 114, 3) := by decide +kernel
theorem dX6_order_34 : decode cX6_order 34 = .ok (.aload_n 0, 1) := by decide +kernel
theorem dX6_order_35 : decode cX6_order 35 = .ok (.getfield 26, 3) := by decide +kernel
theorem dX6_order_38 : decode cX6_order 38 = .ok (.iload_n 3, 1) := by decide +kernel
theorem dX6_order_39 : decode cX6_order 39 = .ok (.baload, 1) := by decide +kernel
theorem dX6_order_40 : decode cX6_order 40 = .ok (.ifCond .eq 31, 3) := by decide +kernel
theorem dX6_order_43 : decode cX6_order 43 = .ok (.aload_n 0, 1) := by decide +kernel
theorem dX6_order_44 : decode cX6_order 44 = .ok (.iload_n 3, 1) := by decide +kernel
theorem dX6_order_45 : decode cX6_order 45 = .ok (.invokevirtual 175, 3) := by decide +kernel
theorem dX6_order_48 : decode cX6_order 48 = .ok (.aload_n 0, 1) := by decide +kernel
theorem dX6_order_49 : decode cX6_order 49 = .ok (.getfield 30, 3) := by decide +kernel
theorem dX6_order_52 : decode cX6_order 52 = .ok (.iload_n 3, 1) := by decide +kernel
theorem dX6_order_53 : decode cX6_order 53 = .ok (.iaload, 1) := by decide +kernel
theorem dX6_order_54 : decode cX6_order 54 = .ok (.if_icmp .eq 17, 3) := by decide +kernel
theorem dX6_order_57 : decode cX6_order 57 = .ok (.aload_n 0, 1) := by decide +kernel
theorem dX6_order_58 : decode cX6_order 58 = .ok (.getfield 30, 3) := by decide +kernel
theorem dX6_order_61 : decode cX6_order 61 = .ok (.iload_n 3, 1) := by decide +kernel
theorem dX6_order_62 : decode cX6_order 62 = .ok (.aload_n 0, 1) := by decide +kernel
theorem dX6_order_63 : decode cX6_order 63 = .ok (.iload_n 3, 1) := by decide +kernel
theorem dX6_order_64 : decode cX6_order 64 = .ok (.invokevirtual 175, 3) := by decide +kernel
theorem dX6_order_67 : decode cX6_order 67 = .ok (.iastore, 1) := by decide +kernel
theorem dX6_order_68 : decode cX6_order 68 = .ok (.iinc 1 1, 3) := by decide +kernel
theorem dX6_order_71 : decode cX6_order 71 = .ok (.iinc 2 1, 3) := by decide +kernel
theorem dX6_order_74 : decode cX6_order 74 = .ok (.goto (-70), 3) := by decide +kernel
theorem dX6_order_77 : decode cX6_order 77 = .ok (.iload_n 1, 1) := by decide +kernel
theorem dX6_order_78 : decode cX6_order 78 = .ok (.ireturn, 1) := by decide +kernel
theorem dX6_stillNow_0 : decode cX6_stillNow 0 = .ok (.aload_n 0, 1) := by decide +kernel
theorem dX6_stillNow_1 : decode cX6_stillNow 1 = .ok (.invokevirtual 114, 3) := by decide +kernel
theorem dX6_stillNow_4 : decode cX6_stillNow 4 = .ok (.iconst 0, 1) := by decide +kernel
theorem dX6_stillNow_5 : decode cX6_stillNow 5 = .ok (.istore_n 1, 1) := by decide +kernel
theorem dX6_stillNow_6 : decode cX6_stillNow 6 = .ok (.iload_n 1, 1) := by decide +kernel
theorem dX6_stillNow_7 : decode cX6_stillNow 7 = .ok (.sipush 200, 3) := by decide +kernel
theorem dX6_stillNow_10 : decode cX6_stillNow 10 = .ok (.if_icmp .ge 16, 3) := by decide +kernel
theorem dX6_stillNow_13 : decode cX6_stillNow 13 = .ok (.aload_n 0, 1) := by decide +kernel
theorem dX6_stillNow_14 : decode cX6_stillNow 14 = .ok (.invokevirtual 178, 3) := by decide +kernel
theorem dX6_stillNow_17 : decode cX6_stillNow 17 = .ok (.ifCond .le 9, 3) := by decide +kernel
theorem dX6_stillNow_20 : decode cX6_stillNow 20 = .ok (.iinc 1 1, 3) := by decide +kernel
theorem dX6_stillNow_23 : decode cX6_stillNow 23 = .ok (.goto (-17), 3) := by decide +kernel
theorem dX6_stillNow_26 : decode cX6_stillNow 26 = .ok (.iload_n 1, 1) := by decide +kernel
theorem dX6_stillNow_27 : decode cX6_stillNow 27 = .ok (.sipush 200, 3) := by decide +kernel
theorem dX6_stillNow_30 : decode cX6_stillNow 30 = .ok (.if_icmp .ge 5, 3) := by decide +kernel
theorem dX6_stillNow_33 : decode cX6_stillNow 33 = .ok (.iload_n 1, 1) := by decide +kernel
theorem dX6_stillNow_34 : decode cX6_stillNow 34 = .ok (.ireturn, 1) := by decide +kernel
theorem dX6_stillNow_35 : decode cX6_stillNow 35 = .ok (.iconst 0, 1) := by decide +kernel
theorem dX6_stillNow_36 : decode cX6_stillNow 36 = .ok (.istore_n 2, 1) := by decide +kernel
theorem dX6_stillNow_37 : decode cX6_stillNow 37 = .ok (.iload_n 2, 1) := by decide +kernel
theorem dX6_stillNow_38 : decode cX6_stillNow 38 = .ok (.aload_n 0, 1) := by decide +kernel
theorem dX6_stillNow_39 : decode cX6_stillNow 39 = .ok (.getfield 7, 3) := by decide +kernel
theorem dX6_stillNow_42 : decode cX6_stillNow 42 = .ok (.if_icmp .ge 21, 3) := by decide +kernel
theorem dX6_stillNow_45 : decode cX6_stillNow 45 = .ok (.aload_n 0, 1) := by decide +kernel
theorem dX6_stillNow_46 : decode cX6_stillNow 46 = .ok (.getfield 55, 3) := by decide +kernel
theorem dX6_stillNow_49 : decode cX6_stillNow 49 = .ok (.iload_n 2, 1) := by decide +kernel
theorem dX6_stillNow_50 : decode cX6_stillNow 50 = .ok (.aload_n 0, 1) := by decide +kernel
theorem dX6_stillNow_51 : decode cX6_stillNow 51 = .ok (.getfield 49, 3) := by decide +kernel
theorem dX6_stillNow_54 : decode cX6_stillNow 54 = .ok (.iload_n 2, 1) := by decide +kernel
theorem dX6_stillNow_55 : decode cX6_stillNow 55 = .ok (.iaload, 1) := by decide +kernel
theorem dX6_stillNow_56 : decode cX6_stillNow 56 = .ok (.iastore, 1) := by decide +kernel
theorem dX6_stillNow_57 : decode cX6_stillNow 57 = .ok (.iinc 2 1, 3) := by decide +kernel
theorem dX6_stillNow_60 : decode cX6_stillNow 60 = .ok (.goto (-23), 3) := by decide +kernel
theorem dX6_stillNow_63 : decode cX6_stillNow 63 = .ok (.aload_n 0, 1) := by decide +kernel
theorem dX6_stillNow_64 : decode cX6_stillNow 64 = .ok (.invokevirtual 178, 3) := by decide +kernel
theorem dX6_stillNow_67 : decode cX6_stillNow 67 = .ok (.istore_n 2, 1) := by decide +kernel
theorem dX6_stillNow_68 : decode cX6_stillNow 68 = .ok (.iconst 0, 1) := by decide +kernel
theorem dX6_stillNow_69 : decode cX6_stillNow 69 = .ok (.istore_n 3, 1) := by decide +kernel
theorem dX6_stillNow_70 : decode cX6_stillNow 70 = .ok (.iload_n 3, 1) := by decide +kernel
theorem dX6_stillNow_71 : decode cX6_stillNow 71 = .ok (.aload_n 0, 1) := by decide +kernel
theorem dX6_stillNow_72 : decode cX6_stillNow 72 = .ok (.getfield 7, 3) := by decide +kernel
theorem dX6_stillNow_75 : decode cX6_stillNow 75 = .ok (.if_icmp .ge 21, 3) := by decide +kernel
theorem dX6_stillNow_78 : decode cX6_stillNow 78 = .ok (.aload_n 0, 1) := by decide +kernel
theorem dX6_stillNow_79 : decode cX6_stillNow 79 = .ok (.getfield 49, 3) := by decide +kernel
theorem dX6_stillNow_82 : decode cX6_stillNow 82 = .ok (.iload_n 3, 1) := by decide +kernel
theorem dX6_stillNow_83 : decode cX6_stillNow 83 = .ok (.aload_n 0, 1) := by decide +kernel
theorem dX6_stillNow_84 : decode cX6_stillNow 84 = .ok (.getfield 55, 3) := by decide +kernel
theorem dX6_stillNow_87 : decode cX6_stillNow 87 = .ok (.iload_n 3, 1) := by decide +kernel
theorem dX6_stillNow_88 : decode cX6_stillNow 88 = .ok (.iaload, 1) := by decide +kernel
theorem dX6_stillNow_89 : decode cX6_stillNow 89 = .ok (.iastore, 1) := by decide +kernel
theorem dX6_stillNow_90 : decode cX6_stillNow 90 = .ok (.iinc 3 1, 3) := by decide +kernel
theorem dX6_stillNow_93 : decode cX6_stillNow 93 = .ok (.goto (-23), 3) := by decide +kernel
theorem dX6_stillNow_96 : decode cX6_stillNow 96 = .ok (.iload_n 2, 1) := by decide +kernel
theorem dX6_stillNow_97 : decode cX6_stillNow 97 = .ok (.ifCond .le 7, 3) := by decide +kernel
theorem dX6_stillNow_100 : decode cX6_stillNow 100 = .ok (.iconst (-1), 1) := by decide +kernel
theorem dX6_stillNow_101 : decode cX6_stillNow 101 = .ok (.goto 6, 3) := by decide +kernel
theorem dX6_stillNow_104 : decode cX6_stillNow 104 = .ok (.sipush 200, 3) := by decide +kernel
theorem dX6_stillNow_107 : decode cX6_stillNow 107 = .ok (.ireturn, 1) := by decide +kernel
theorem dX6_still_0 : decode cX6_still 0 = .ok (.aload_n 0, 1) := by decide +kernel
theorem dX6_still_1 : decode cX6_still 1 = .ok (.invokevirtual 187, 3) := by decide +kernel
theorem dX6_still_4 : decode cX6_still 4 = .ok (.ireturn, 1) := by decide +kernel
theorem dX6_restOf_0 : decode cX6_restOf 0 = .ok (.aload_n 0, 1) := by decide +kernel
theorem dX6_restOf_1 : decode cX6_restOf 1 = .ok (.invokevirtual 187, 3) := by decide +kernel
theorem dX6_restOf_4 : decode cX6_restOf 4 = .ok (.pop, 1) := by decide +kernel
theorem dX6_restOf_5 : decode cX6_restOf 5 = .ok (.aload_n 0, 1) := by decide +kernel
theorem dX6_restOf_6 : decode cX6_restOf 6 = .ok (.getfield 49, 3) := by decide +kernel
theorem dX6_restOf_9 : decode cX6_restOf 9 = .ok (.iload_n 1, 1) := by decide +kernel
theorem dX6_restOf_10 : decode cX6_restOf 10 = .ok (.iaload, 1) := by decide +kernel
theorem dX6_restOf_11 : decode cX6_restOf 11 = .ok (.ireturn, 1) := by decide +kernel
theorem dX6_rest_0 : decode cX6_rest 0 = .ok (.aload_n 0, 1) := by decide +kernel
theorem dX6_rest_1 : decode cX6_rest 1 = .ok (.iload_n 1, 1) := by decide +kernel
theorem dX6_rest_2 : decode cX6_rest 2 = .ok (.invokevirtual 79, 3) := by decide +kernel
theorem dX6_rest_5 : decode cX6_rest 5 = .ok (.ifCond .eq 11, 3) := by decide +kernel
theorem dX6_rest_8 : decode cX6_rest 8 = .ok (.aload_n 0, 1) := by decide +kernel
theorem dX6_rest_9 : decode cX6_rest 9 = .ok (.iload_n 1, 1) := by decide +kernel
theorem dX6_rest_10 : decode cX6_rest 10 = .ok (.invokevirtual 190, 3) := by decide +kernel
theorem dX6_rest_13 : decode cX6_rest 13 = .ok (.goto 5, 3) := by decide +kernel
theorem dX6_rest_16 : decode cX6_rest 16 = .ok (.bipush (-2), 2) := by decide +kernel
theorem dX6_rest_18 : decode cX6_rest 18 = .ok (.ireturn, 1) := by decide +kernel
theorem dX6_metNow_0 : decode cX6_metNow 0 = .ok (.iconst 0, 1) := by decide +kernel
theorem dX6_metNow_1 : decode cX6_metNow 1 = .ok (.istore_n 1, 1) := by decide +kernel
theorem dX6_metNow_2 : decode cX6_metNow 2 = .ok (.iconst 0, 1) := by decide +kernel
theorem dX6_metNow_3 : decode cX6_metNow 3 = .ok (.istore_n 2, 1) := by decide +kernel
theorem dX6_metNow_4 : decode cX6_metNow 4 = .ok (.iload_n 2, 1) := by decide +kernel
theorem dX6_metNow_5 : decode cX6_metNow 5 = .ok (.aload_n 0, 1) := by decide +kernel
theorem dX6_metNow_6 : decode cX6_metNow 6 = .ok (.getfield 7, 3) := by decide +kernel
theorem dX6_metNow_9 : decode cX6_metNow 9 = .ok (.if_icmp .ge 27, 3) := by decide +kernel
theorem dX6_metNow_12 : decode cX6_metNow 12 = .ok (.iload_n 1, 1) := by decide +kernel
theorem dX6_metNow_13 : decode cX6_metNow 13 = .ok (.aload_n 0, 1) := by decide +kernel
theorem dX6_metNow_14 : decode cX6_metNow 14 = .ok (.iload_n 2, 1) := by decide +kernel
theorem dX6_metNow_15 : decode cX6_metNow 15 = .ok (.invokevirtual 120, 3) := by decide +kernel
theorem dX6_metNow_18 : decode cX6_metNow 18 = .ok (.ifCond .eq 9, 3) := by decide +kernel
theorem dX6_metNow_21 : decode cX6_metNow 21 = .ok (.iconst 1, 1) := by decide +kernel
theorem dX6_metNow_22 : decode cX6_metNow 22 = .ok (.iload_n 2, 1) := by decide +kernel
theorem dX6_metNow_23 : decode cX6_metNow 23 = .ok (.ishl, 1) := by decide +kernel
theorem dX6_metNow_24 : decode cX6_metNow 24 = .ok (.goto 4, 3) := by decide +kernel
theorem dX6_metNow_27 : decode cX6_metNow 27 = .ok (.iconst 0, 1) := by decide +kernel
theorem dX6_metNow_28 : decode cX6_metNow 28 = .ok (.ior, 1) := by decide +kernel
theorem dX6_metNow_29 : decode cX6_metNow 29 = .ok (.istore_n 1, 1) := by decide +kernel
theorem dX6_metNow_30 : decode cX6_metNow 30 = .ok (.iinc 2 1, 3) := by decide +kernel
theorem dX6_metNow_33 : decode cX6_metNow 33 = .ok (.goto (-29), 3) := by decide +kernel
theorem dX6_metNow_36 : decode cX6_metNow 36 = .ok (.iload_n 1, 1) := by decide +kernel
theorem dX6_metNow_37 : decode cX6_metNow 37 = .ok (.ireturn, 1) := by decide +kernel
theorem dX6_met_0 : decode cX6_met 0 = .ok (.aload_n 0, 1) := by decide +kernel
theorem dX6_met_1 : decode cX6_met 1 = .ok (.invokevirtual 193, 3) := by decide +kernel
theorem dX6_met_4 : decode cX6_met 4 = .ok (.ireturn, 1) := by decide +kernel
theorem dX6_meets_0 : decode cX6_meets 0 = .ok (.aload_n 0, 1) := by decide +kernel
theorem dX6_meets_1 : decode cX6_meets 1 = .ok (.iload_n 1, 1) := by decide +kernel
theorem dX6_meets_2 : decode cX6_meets 2 = .ok (.putfield 196, 3) := by decide +kernel
theorem dX6_meets_5 : decode cX6_meets 5 = .ok (.bipush (-10), 2) := by decide +kernel
theorem dX6_meets_7 : decode cX6_meets 7 = .ok (.iload_n 1, 1) := by decide +kernel
theorem dX6_meets_8 : decode cX6_meets 8 = .ok (.isub, 1) := by decide +kernel
theorem dX6_meets_9 : decode cX6_meets 9 = .ok (.ireturn, 1) := by decide +kernel
theorem dX6_isSheet_0 : decode cX6_isSheet 0 = .ok (.iload_n 0, 1) := by decide +kernel
theorem dX6_isSheet_1 : decode cX6_isSheet 1 = .ok (.iconst 0, 1) := by decide +kernel
theorem dX6_isSheet_2 : decode cX6_isSheet 2 = .ok (.iconst 3, 1) := by decide +kernel
theorem dX6_isSheet_3 : decode cX6_isSheet 3 = .ok (.invokestatic 75, 3) := by decide +kernel
theorem dX6_isSheet_6 : decode cX6_isSheet 6 = .ok (.ireturn, 1) := by decide +kernel
theorem dX6_sheet_0 : decode cX6_sheet 0 = .ok (.iload_n 1, 1) := by decide +kernel
theorem dX6_sheet_1 : decode cX6_sheet 1 = .ok (.invokestatic 104, 3) := by decide +kernel
theorem dX6_sheet_4 : decode cX6_sheet 4 = .ok (.ifCond .eq 18, 3) := by decide +kernel
theorem dX6_sheet_7 : decode cX6_sheet 7 = .ok (.iload_n 2, 1) := by decide +kernel
theorem dX6_sheet_8 : decode cX6_sheet 8 = .ok (.iconst 0, 1) := by decide +kernel
theorem dX6_sheet_9 : decode cX6_sheet 9 = .ok (.iconst 2, 1) := by decide +kernel
theorem dX6_sheet_10 : decode cX6_sheet 10 = .ok (.invokestatic 75, 3) := by decide +kernel
theorem dX6_sheet_13 : decode cX6_sheet 13 = .ok (.ifCond .eq 9, 3) := by decide +kernel
theorem dX6_sheet_16 : decode cX6_sheet 16 = .ok (.iload_n 3, 1) := by decide +kernel
theorem dX6_sheet_17 : decode cX6_sheet 17 = .ok (.bipush 60, 2) := by decide +kernel
theorem dX6_sheet_19 : decode cX6_sheet 19 = .ok (.if_icmp .le 6, 3) := by decide +kernel
theorem dX6_sheet_22 : decode cX6_sheet 22 = .ok (.bipush (-2), 2) := by decide +kernel
theorem dX6_sheet_24 : decode cX6_sheet 24 = .ok (.ireturn, 1) := by decide +kernel
theorem dX6_sheet_25 : decode cX6_sheet 25 = .ok (.iload_n 3, 1) := by decide +kernel
theorem dX6_sheet_26 : decode cX6_sheet 26 = .ok (.ifCond .ge 9, 3) := by decide +kernel
theorem dX6_sheet_29 : decode cX6_sheet 29 = .ok (.aload_n 0, 1) := by decide +kernel
theorem dX6_sheet_30 : decode cX6_sheet 30 = .ok (.iconst 5, 1) := by decide +kernel
theorem dX6_sheet_31 : decode cX6_sheet 31 = .ok (.invokevirtual 107, 3) := by decide +kernel
theorem dX6_sheet_34 : decode cX6_sheet 34 = .ok (.ireturn, 1) := by decide +kernel
theorem dX6_sheet_35 : decode cX6_sheet 35 = .ok (.aload_n 0, 1) := by decide +kernel
theorem dX6_sheet_36 : decode cX6_sheet 36 = .ok (.getfield 58, 3) := by decide +kernel
theorem dX6_sheet_39 : decode cX6_sheet 39 = .ok (.iload_n 1, 1) := by decide +kernel
theorem dX6_sheet_40 : decode cX6_sheet 40 = .ok (.iconst 1, 1) := by decide +kernel
theorem dX6_sheet_41 : decode cX6_sheet 41 = .ok (.bastore, 1) := by decide +kernel
theorem dX6_sheet_42 : decode cX6_sheet 42 = .ok (.aload_n 0, 1) := by decide +kernel
theorem dX6_sheet_43 : decode cX6_sheet 43 = .ok (.getfield 61, 3) := by decide +kernel
theorem dX6_sheet_46 : decode cX6_sheet 46 = .ok (.iload_n 1, 1) := by decide +kernel
theorem dX6_sheet_47 : decode cX6_sheet 47 = .ok (.iload_n 2, 1) := by decide +kernel
theorem dX6_sheet_48 : decode cX6_sheet 48 = .ok (.iastore, 1) := by decide +kernel
theorem dX6_sheet_49 : decode cX6_sheet 49 = .ok (.aload_n 0, 1) := by decide +kernel
theorem dX6_sheet_50 : decode cX6_sheet 50 = .ok (.getfield 64, 3) := by decide +kernel
theorem dX6_sheet_53 : decode cX6_sheet 53 = .ok (.iload_n 1, 1) := by decide +kernel
theorem dX6_sheet_54 : decode cX6_sheet 54 = .ok (.iload_n 3, 1) := by decide +kernel
theorem dX6_sheet_55 : decode cX6_sheet 55 = .ok (.iastore, 1) := by decide +kernel
theorem dX6_sheet_56 : decode cX6_sheet 56 = .ok (.iconst 0, 1) := by decide +kernel
theorem dX6_sheet_57 : decode cX6_sheet 57 = .ok (.istore 4, 2) := by decide +kernel
theorem dX6_sheet_59 : decode cX6_sheet 59 = .ok (.iload 4, 2) := by decide +kernel
theorem dX6_sheet_61 : decode cX6_sheet 61 = .ok (.bipush 60, 2) := by decide +kernel
theorem dX6_sheet_63 : decode cX6_sheet 63 = .ok (.if_icmp .ge 22, 3) := by decide +kernel
theorem dX6_sheet_66 : decode cX6_sheet 66 = .ok (.aload_n 0, 1) := by decide +kernel
theorem dX6_sheet_67 : decode cX6_sheet 67 = .ok (.getfield 67, 3) := by decide +kernel
theorem dX6_sheet_70 : decode cX6_sheet 70 = .ok (.bipush 60, 2) := by decide +kernel
theorem dX6_sheet_72 : decode cX6_sheet 72 = .ok (.iload_n 1, 1) := by decide +kernel
theorem dX6_sheet_73 : decode cX6_sheet 73 = .ok (.imul, 1) := by decide +kernel
theorem dX6_sheet_74 : decode cX6_sheet 74 = .ok (.iload 4, 2) := by decide +kernel
theorem dX6_sheet_76 : decode cX6_sheet 76 = .ok (.iadd, 1) := by decide +kernel
theorem dX6_sheet_77 : decode cX6_sheet 77 = .ok (.iconst 0, 1) := by decide +kernel
theorem dX6_sheet_78 : decode cX6_sheet 78 = .ok (.iastore, 1) := by decide +kernel
theorem dX6_sheet_79 : decode cX6_sheet 79 = .ok (.iinc 4 1, 3) := by decide +kernel
theorem dX6_sheet_82 : decode cX6_sheet 82 = .ok (.goto (-23), 3) := by decide +kernel
theorem dX6_sheet_85 : decode cX6_sheet 85 = .ok (.iload_n 3, 1) := by decide +kernel
theorem dX6_sheet_86 : decode cX6_sheet 86 = .ok (.ireturn, 1) := by decide +kernel
theorem dX6_lose_0 : decode cX6_lose 0 = .ok (.iload_n 1, 1) := by decide +kernel
theorem dX6_lose_1 : decode cX6_lose 1 = .ok (.invokestatic 104, 3) := by decide +kernel
theorem dX6_lose_4 : decode cX6_lose 4 = .ok (.ifCond .ne 6, 3) := by decide +kernel
theorem dX6_lose_7 : decode cX6_lose 7 = .ok (.bipush (-2), 2) := by decide +kernel
theorem dX6_lose_9 : decode cX6_lose 9 = .ok (.ireturn, 1) := by decide +kernel
theorem dX6_lose_10 : decode cX6_lose 10 = .ok (.aload_n 0, 1) := by decide +kernel
theorem dX6_lose_11 : decode cX6_lose 11 = .ok (.getfield 58, 3) := by decide +kernel
theorem dX6_lose_14 : decode cX6_lose 14 = .ok (.iload_n 1, 1) := by decide +kernel
theorem dX6_lose_15 : decode cX6_lose 15 = .ok (.baload, 1) := by decide +kernel
theorem dX6_lose_16 : decode cX6_lose 16 = .ok (.ifCond .ne 9, 3) := by decide +kernel
theorem dX6_lose_19 : decode cX6_lose 19 = .ok (.aload_n 0, 1) := by decide +kernel
theorem dX6_lose_20 : decode cX6_lose 20 = .ok (.iconst 1, 1) := by decide +kernel
theorem dX6_lose_21 : decode cX6_lose 21 = .ok (.invokevirtual 107, 3) := by decide +kernel
theorem dX6_lose_24 : decode cX6_lose 24 = .ok (.ireturn, 1) := by decide +kernel
theorem dX6_lose_25 : decode cX6_lose 25 = .ok (.aload_n 0, 1) := by decide +kernel
theorem dX6_lose_26 : decode cX6_lose 26 = .ok (.getfield 58, 3) := by decide +kernel
theorem dX6_lose_29 : decode cX6_lose 29 = .ok (.iload_n 1, 1) := by decide +kernel
theorem dX6_lose_30 : decode cX6_lose 30 = .ok (.iconst 0, 1) := by decide +kernel
theorem dX6_lose_31 : decode cX6_lose 31 = .ok (.bastore, 1) := by decide +kernel
theorem dX6_lose_32 : decode cX6_lose 32 = .ok (.aload_n 0, 1) := by decide +kernel
theorem dX6_lose_33 : decode cX6_lose 33 = .ok (.getfield 64, 3) := by decide +kernel
theorem dX6_lose_36 : decode cX6_lose 36 = .ok (.iload_n 1, 1) := by decide +kernel
theorem dX6_lose_37 : decode cX6_lose 37 = .ok (.iaload, 1) := by decide +kernel
theorem dX6_lose_38 : decode cX6_lose 38 = .ok (.ireturn, 1) := by decide +kernel
theorem dX6_lacks_0 : decode cX6_lacks 0 = .ok (.aload_n 0, 1) := by decide +kernel
theorem dX6_lacks_1 : decode cX6_lacks 1 = .ok (.getfield 58, 3) := by decide +kernel
theorem dX6_lacks_4 : decode cX6_lacks 4 = .ok (.iload_n 1, 1) := by decide +kernel
theorem dX6_lacks_5 : decode cX6_lacks 5 = .ok (.baload, 1) := by decide +kernel
theorem dX6_lacks_6 : decode cX6_lacks 6 = .ok (.ifCond .ne 7, 3) := by decide +kernel
theorem dX6_lacks_9 : decode cX6_lacks 9 = .ok (.iconst 1, 1) := by decide +kernel
theorem dX6_lacks_10 : decode cX6_lacks 10 = .ok (.goto 38, 3) := by decide +kernel
theorem dX6_lacks_13 : decode cX6_lacks 13 = .ok (.aload_n 0, 1) := by decide +kernel
theorem dX6_lacks_14 : decode cX6_lacks 14 = .ok (.getfield 61, 3) := by decide +kernel
theorem dX6_lacks_17 : decode cX6_lacks 17 = .ok (.iload_n 1, 1) := by decide +kernel
theorem dX6_lacks_18 : decode cX6_lacks 18 = .ok (.iaload, 1) := by decide +kernel
theorem dX6_lacks_19 : decode cX6_lacks 19 = .ok (.iload_n 2, 1) := by decide +kernel
theorem dX6_lacks_20 : decode cX6_lacks 20 = .ok (.if_icmp .eq 7, 3) := by decide +kernel
theorem dX6_lacks_23 : decode cX6_lacks 23 = .ok (.iconst 3, 1) := by decide +kernel
theorem dX6_lacks_24 : decode cX6_lacks 24 = .ok (.goto 24, 3) := by decide +kernel
theorem dX6_lacks_27 : decode cX6_lacks 27 = .ok (.iload_n 3, 1) := by decide +kernel
theorem dX6_lacks_28 : decode cX6_lacks 28 = .ok (.iconst 0, 1) := by decide +kernel
theorem dX6_lacks_29 : decode cX6_lacks 29 = .ok (.aload_n 0, 1) := by decide +kernel
theorem dX6_lacks_30 : decode cX6_lacks 30 = .ok (.getfield 64, 3) := by decide +kernel
theorem dX6_lacks_33 : decode cX6_lacks 33 = .ok (.iload_n 1, 1) := by decide +kernel
theorem dX6_lacks_34 : decode cX6_lacks 34 = .ok (.iaload, 1) := by decide +kernel
theorem dX6_lacks_35 : decode cX6_lacks 35 = .ok (.iconst 1, 1) := by decide +kernel
theorem dX6_lacks_36 : decode cX6_lacks 36 = .ok (.isub, 1) := by decide +kernel
theorem dX6_lacks_37 : decode cX6_lacks 37 = .ok (.invokestatic 75, 3) := by decide +kernel
theorem dX6_lacks_40 : decode cX6_lacks 40 = .ok (.ifCond .eq 7, 3) := by decide +kernel
theorem dX6_lacks_43 : decode cX6_lacks 43 = .ok (.iconst 0, 1) := by decide +kernel
theorem dX6_lacks_44 : decode cX6_lacks 44 = .ok (.goto 4, 3) := by decide +kernel
theorem dX6_lacks_47 : decode cX6_lacks 47 = .ok (.iconst 2, 1) := by decide +kernel
theorem dX6_lacks_48 : decode cX6_lacks 48 = .ok (.ireturn, 1) := by decide +kernel
theorem dX6_keep_0 : decode cX6_keep 0 = .ok (.aload_n 0, 1) := by decide +kernel
theorem dX6_keep_1 : decode cX6_keep 1 = .ok (.getfield 67, 3) := by decide +kernel
theorem dX6_keep_4 : decode cX6_keep 4 = .ok (.bipush 60, 2) := by decide +kernel
theorem dX6_keep_6 : decode cX6_keep 6 = .ok (.iload_n 1, 1) := by decide +kernel
theorem dX6_keep_7 : decode cX6_keep 7 = .ok (.imul, 1) := by decide +kernel
theorem dX6_keep_8 : decode cX6_keep 8 = .ok (.iload_n 2, 1) := by decide +kernel
theorem dX6_keep_9 : decode cX6_keep 9 = .ok (.iadd, 1) := by decide +kernel
theorem dX6_keep_10 : decode cX6_keep 10 = .ok (.aload_n 0, 1) := by decide +kernel
theorem dX6_keep_11 : decode cX6_keep 11 = .ok (.getfield 61, 3) := by decide +kernel
theorem dX6_keep_14 : decode cX6_keep 14 = .ok (.iload_n 1, 1) := by decide +kernel
theorem dX6_keep_15 : decode cX6_keep 15 = .ok (.iaload, 1) := by decide +kernel
theorem dX6_keep_16 : decode cX6_keep 16 = .ok (.ifCond .ne 8, 3) := by decide +kernel
theorem dX6_keep_19 : decode cX6_keep 19 = .ok (.iload_n 3, 1) := by decide +kernel
theorem dX6_keep_20 : decode cX6_keep 20 = .ok (.i2b, 1) := by decide +kernel
theorem dX6_keep_21 : decode cX6_keep 21 = .ok (.goto 19, 3) := by decide +kernel
theorem dX6_keep_24 : decode cX6_keep 24 = .ok (.aload_n 0, 1) := by decide +kernel
theorem dX6_keep_25 : decode cX6_keep 25 = .ok (.getfield 61, 3) := by decide +kernel
theorem dX6_keep_28 : decode cX6_keep 28 = .ok (.iload_n 1, 1) := by decide +kernel
theorem dX6_keep_29 : decode cX6_keep 29 = .ok (.iaload, 1) := by decide +kernel
theorem dX6_keep_30 : decode cX6_keep 30 = .ok (.iconst 1, 1) := by decide +kernel
theorem dX6_keep_31 : decode cX6_keep 31 = .ok (.if_icmp .ne 8, 3) := by decide +kernel
theorem dX6_keep_34 : decode cX6_keep 34 = .ok (.iload_n 3, 1) := by decide +kernel
theorem dX6_keep_35 : decode cX6_keep 35 = .ok (.i2s, 1) := by decide +kernel
theorem dX6_keep_36 : decode cX6_keep 36 = .ok (.goto 4, 3) := by decide +kernel
theorem dX6_keep_39 : decode cX6_keep 39 = .ok (.iload_n 3, 1) := by decide +kernel
theorem dX6_keep_40 : decode cX6_keep 40 = .ok (.iastore, 1) := by decide +kernel
theorem dX6_keep_41 : decode cX6_keep 41 = .ok (.return_, 1) := by decide +kernel
theorem dX6_put_0 : decode cX6_put 0 = .ok (.iload_n 1, 1) := by decide +kernel
theorem dX6_put_1 : decode cX6_put 1 = .ok (.invokestatic 104, 3) := by decide +kernel
theorem dX6_put_4 : decode cX6_put 4 = .ok (.ifCond .eq 12, 3) := by decide +kernel
theorem dX6_put_7 : decode cX6_put 7 = .ok (.iload_n 2, 1) := by decide +kernel
theorem dX6_put_8 : decode cX6_put 8 = .ok (.iconst 0, 1) := by decide +kernel
theorem dX6_put_9 : decode cX6_put 9 = .ok (.iconst 2, 1) := by decide +kernel
theorem dX6_put_10 : decode cX6_put 10 = .ok (.invokestatic 75, 3) := by decide +kernel
theorem dX6_put_13 : decode cX6_put 13 = .ok (.ifCond .ne 6, 3) := by decide +kernel
theorem dX6_put_16 : decode cX6_put 16 = .ok (.bipush (-2), 2) := by decide +kernel
theorem dX6_put_18 : decode cX6_put 18 = .ok (.ireturn, 1) := by decide +kernel
theorem dX6_put_19 : decode cX6_put 19 = .ok (.aload_n 0, 1) := by decide +kernel
theorem dX6_put_20 : decode cX6_put 20 = .ok (.iload_n 1, 1) := by decide +kernel
theorem dX6_put_21 : decode cX6_put 21 = .ok (.iload_n 2, 1) := by decide +kernel
theorem dX6_put_22 : decode cX6_put 22 = .ok (.iload_n 3, 1) := by decide +kernel
theorem dX6_put_23 : decode cX6_put 23 = .ok (.invokevirtual 199, 3) := by decide +kernel
theorem dX6_put_26 : decode cX6_put 26 = .ok (.istore 5, 2) := by decide +kernel
theorem dX6_put_28 : decode cX6_put 28 = .ok (.iload 5, 2) := by decide +kernel
theorem dX6_put_30 : decode cX6_put 30 = .ok (.ifCond .le 10, 3) := by decide +kernel
theorem dX6_put_33 : decode cX6_put 33 = .ok (.aload_n 0, 1) := by decide +kernel
theorem dX6_put_34 : decode cX6_put 34 = .ok (.iload 5, 2) := by decide +kernel
theorem dX6_put_36 : decode cX6_put 36 = .ok (.invokevirtual 107, 3) := by decide +kernel
theorem dX6_put_39 : decode cX6_put 39 = .ok (.ireturn, 1) := by decide +kernel
theorem dX6_put_40 : decode cX6_put 40 = .ok (.aload_n 0, 1) := by decide +kernel
theorem dX6_put_41 : decode cX6_put 41 = .ok (.iload_n 1, 1) := by decide +kernel
theorem dX6_put_42 : decode cX6_put 42 = .ok (.iload_n 3, 1) := by decide +kernel
theorem dX6_put_43 : decode cX6_put 43 = .ok (.iload 4, 2) := by decide +kernel
theorem dX6_put_45 : decode cX6_put 45 = .ok (.invokevirtual 203, 3) := by decide +kernel
theorem dX6_put_48 : decode cX6_put 48 = .ok (.iconst 1, 1) := by decide +kernel
theorem dX6_put_49 : decode cX6_put 49 = .ok (.ireturn, 1) := by decide +kernel
theorem dX6_get_0 : decode cX6_get 0 = .ok (.iload_n 1, 1) := by decide +kernel
theorem dX6_get_1 : decode cX6_get 1 = .ok (.invokestatic 104, 3) := by decide +kernel
theorem dX6_get_4 : decode cX6_get 4 = .ok (.ifCond .eq 12, 3) := by decide +kernel
theorem dX6_get_7 : decode cX6_get 7 = .ok (.iload_n 2, 1) := by decide +kernel
theorem dX6_get_8 : decode cX6_get 8 = .ok (.iconst 0, 1) := by decide +kernel
theorem dX6_get_9 : decode cX6_get 9 = .ok (.iconst 2, 1) := by decide +kernel
theorem dX6_get_10 : decode cX6_get 10 = .ok (.invokestatic 75, 3) := by decide +kernel
theorem dX6_get_13 : decode cX6_get 13 = .ok (.ifCond .ne 6, 3) := by decide +kernel
theorem dX6_get_16 : decode cX6_get 16 = .ok (.ldc 207, 2) := by decide +kernel
theorem dX6_get_18 : decode cX6_get 18 = .ok (.ireturn, 1) := by decide +kernel
theorem dX6_get_19 : decode cX6_get 19 = .ok (.aload_n 0, 1) := by decide +kernel
theorem dX6_get_20 : decode cX6_get 20 = .ok (.iload_n 1, 1) := by decide +kernel
theorem dX6_get_21 : decode cX6_get 21 = .ok (.iload_n 2, 1) := by decide +kernel
theorem dX6_get_22 : decode cX6_get 22 = .ok (.iload_n 3, 1) := by decide +kernel
theorem dX6_get_23 : decode cX6_get 23 = .ok (.invokevirtual 199, 3) := by decide +kernel
theorem dX6_get_26 : decode cX6_get 26 = .ok (.istore 4, 2) := by decide +kernel
theorem dX6_get_28 : decode cX6_get 28 = .ok (.iload 4, 2) := by decide +kernel
theorem dX6_get_30 : decode cX6_get 30 = .ok (.ifCond .le 12, 3) := by decide +kernel
theorem dX6_get_33 : decode cX6_get 33 = .ok (.aload_n 0, 1) := by decide +kernel
theorem dX6_get_34 : decode cX6_get 34 = .ok (.iload 4, 2) := by decide +kernel
theorem dX6_get_36 : decode cX6_get 36 = .ok (.putfield 196, 3) := by decide +kernel
theorem dX6_get_39 : decode cX6_get 39 = .ok (.ldc 207, 2) := by decide +kernel
theorem dX6_get_41 : decode cX6_get 41 = .ok (.ireturn, 1) := by decide +kernel
theorem dX6_get_42 : decode cX6_get 42 = .ok (.aload_n 0, 1) := by decide +kernel
theorem dX6_get_43 : decode cX6_get 43 = .ok (.getfield 67, 3) := by decide +kernel
theorem dX6_get_46 : decode cX6_get 46 = .ok (.bipush 60, 2) := by decide +kernel
theorem dX6_get_48 : decode cX6_get 48 = .ok (.iload_n 1, 1) := by decide +kernel
theorem dX6_get_49 : decode cX6_get 49 = .ok (.imul, 1) := by decide +kernel
theorem dX6_get_50 : decode cX6_get 50 = .ok (.iload_n 3, 1) := by decide +kernel
theorem dX6_get_51 : decode cX6_get 51 = .ok (.iadd, 1) := by decide +kernel
theorem dX6_get_52 : decode cX6_get 52 = .ok (.iaload, 1) := by decide +kernel
theorem dX6_get_53 : decode cX6_get 53 = .ok (.ireturn, 1) := by decide +kernel
theorem dX6_copy_0 : decode cX6_copy 0 = .ok (.iload_n 1, 1) := by decide +kernel
theorem dX6_copy_1 : decode cX6_copy 1 = .ok (.invokestatic 104, 3) := by decide +kernel
theorem dX6_copy_4 : decode cX6_copy 4 = .ok (.ifCond .eq 10, 3) := by decide +kernel
theorem dX6_copy_7 : decode cX6_copy 7 = .ok (.iload_n 3, 1) := by decide +kernel
theorem dX6_copy_8 : decode cX6_copy 8 = .ok (.invokestatic 104, 3) := by decide +kernel
theorem dX6_copy_11 : decode cX6_copy 11 = .ok (.ifCond .ne 6, 3) := by decide +kernel
theorem dX6_copy_14 : decode cX6_copy 14 = .ok (.bipush (-2), 2) := by decide +kernel
theorem dX6_copy_16 : decode cX6_copy 16 = .ok (.ireturn, 1) := by decide +kernel
theorem dX6_copy_17 : decode cX6_copy 17 = .ok (.aload_n 0, 1) := by decide +kernel
theorem dX6_copy_18 : decode cX6_copy 18 = .ok (.getfield 58, 3) := by decide +kernel
theorem dX6_copy_21 : decode cX6_copy 21 = .ok (.iload_n 1, 1) := by decide +kernel
theorem dX6_copy_22 : decode cX6_copy 22 = .ok (.baload, 1) := by decide +kernel
theorem dX6_copy_23 : decode cX6_copy 23 = .ok (.ifCond .eq 12, 3) := by decide +kernel
theorem dX6_copy_26 : decode cX6_copy 26 = .ok (.aload_n 0, 1) := by decide +kernel
theorem dX6_copy_27 : decode cX6_copy 27 = .ok (.getfield 58, 3) := by decide +kernel
theorem dX6_copy_30 : decode cX6_copy 30 = .ok (.iload_n 3, 1) := by decide +kernel
theorem dX6_copy_31 : decode cX6_copy 31 = .ok (.baload, 1) := by decide +kernel
theorem dX6_copy_32 : decode cX6_copy 32 = .ok (.ifCond .ne 9, 3) := by decide +kernel
theorem dX6_copy_35 : decode cX6_copy 35 = .ok (.aload_n 0, 1) := by decide +kernel
theorem dX6_copy_36 : decode cX6_copy 36 = .ok (.iconst 1, 1) := by decide +kernel
theorem dX6_copy_37 : decode cX6_copy 37 = .ok (.invokevirtual 107, 3) := by decide +kernel
theorem dX6_copy_40 : decode cX6_copy 40 = .ok (.ireturn, 1) := by decide +kernel
theorem dX6_copy_41 : decode cX6_copy 41 = .ok (.aload_n 0, 1) := by decide +kernel
theorem dX6_copy_42 : decode cX6_copy 42 = .ok (.getfield 61, 3) := by decide +kernel
theorem dX6_copy_45 : decode cX6_copy 45 = .ok (.iload_n 1, 1) := by decide +kernel
theorem dX6_copy_46 : decode cX6_copy 46 = .ok (.iaload, 1) := by decide +kernel
theorem dX6_copy_47 : decode cX6_copy 47 = .ok (.aload_n 0, 1) := by decide +kernel
theorem dX6_copy_48 : decode cX6_copy 48 = .ok (.getfield 61, 3) := by decide +kernel
theorem dX6_copy_51 : decode cX6_copy 51 = .ok (.iload_n 3, 1) := by decide +kernel
theorem dX6_copy_52 : decode cX6_copy 52 = .ok (.iaload, 1) := by decide +kernel
theorem dX6_copy_53 : decode cX6_copy 53 = .ok (.if_icmp .eq 9, 3) := by decide +kernel
theorem dX6_copy_56 : decode cX6_copy 56 = .ok (.aload_n 0, 1) := by decide +kernel
theorem dX6_copy_57 : decode cX6_copy 57 = .ok (.iconst 4, 1) := by decide +kernel
theorem dX6_copy_58 : decode cX6_copy 58 = .ok (.invokevirtual 107, 3) := by decide +kernel
theorem dX6_copy_61 : decode cX6_copy 61 = .ok (.ireturn, 1) := by decide +kernel
theorem dX6_copy_62 : decode cX6_copy 62 = .ok (.iload_n 2, 1) := by decide +kernel
theorem dX6_copy_63 : decode cX6_copy 63 = .ok (.ifCond .lt 48, 3) := by decide +kernel
theorem dX6_copy_66 : decode cX6_copy 66 = .ok (.iload 4, 2) := by decide +kernel
theorem dX6_copy_68 : decode cX6_copy 68 = .ok (.ifCond .lt 43, 3) := by decide +kernel
theorem dX6_copy_71 : decode cX6_copy 71 = .ok (.iload 5, 2) := by decide +kernel
theorem dX6_copy_73 : decode cX6_copy 73 = .ok (.ifCond .lt 38, 3) := by decide +kernel
theorem dX6_copy_76 : decode cX6_copy 76 = .ok (.iload_n 2, 1) := by decide +kernel
theorem dX6_copy_77 : decode cX6_copy 77 = .ok (.i2l, 1) := by decide +kernel
theorem dX6_copy_78 : decode cX6_copy 78 = .ok (.iload 5, 2) := by decide +kernel
theorem dX6_copy_80 : decode cX6_copy 80 = .ok (.i2l, 1) := by decide +kernel
theorem dX6_copy_81 : decode cX6_copy 81 = .ok (.ladd, 1) := by decide +kernel
theorem dX6_copy_82 : decode cX6_copy 82 = .ok (.aload_n 0, 1) := by decide +kernel
theorem dX6_copy_83 : decode cX6_copy 83 = .ok (.getfield 64, 3) := by decide +kernel
theorem dX6_copy_86 : decode cX6_copy 86 = .ok (.iload_n 1, 1) := by decide +kernel
theorem dX6_copy_87 : decode cX6_copy 87 = .ok (.iaload, 1) := by decide +kernel
theorem dX6_copy_88 : decode cX6_copy 88 = .ok (.i2l, 1) := by decide +kernel
theorem dX6_copy_89 : decode cX6_copy 89 = .ok (.lcmp, 1) := by decide +kernel
theorem dX6_copy_90 : decode cX6_copy 90 = .ok (.ifCond .gt 21, 3) := by decide +kernel
theorem dX6_copy_93 : decode cX6_copy 93 = .ok (.iload 4, 2) := by decide +kernel
theorem dX6_copy_95 : decode cX6_copy 95 = .ok (.i2l, 1) := by decide +kernel
theorem dX6_copy_96 : decode cX6_copy 96 = .ok (.iload 5, 2) := by decide +kernel
theorem dX6_copy_98 : decode cX6_copy 98 = .ok (.i2l, 1) := by decide +kernel
theorem dX6_copy_99 : decode cX6_copy 99 = .ok (.ladd, 1) := by decide +kernel
theorem dX6_copy_100 : decode cX6_copy 100 = .ok (.aload_n 0, 1) := by decide +kernel
theorem dX6_copy_101 : decode cX6_copy 101 = .ok (.getfield 64, 3) := by decide +kernel
theorem dX6_copy_104 : decode cX6_copy 104 = .ok (.iload_n 3, 1) := by decide +kernel
theorem dX6_copy_105 : decode cX6_copy 105 = .ok (.iaload, 1) := by decide +kernel
theorem dX6_copy_106 : decode cX6_copy 106 = .ok (.i2l, 1) := by decide +kernel
theorem dX6_copy_107 : decode cX6_copy 107 = .ok (.lcmp, 1) := by decide +kernel
theorem dX6_copy_108 : decode cX6_copy 108 = .ok (.ifCond .le 9, 3) := by decide +kernel
theorem dX6_copy_111 : decode cX6_copy 111 = .ok (.aload_n 0, 1) := by decide +kernel
theorem dX6_copy_112 : decode cX6_copy 112 = .ok (.iconst 2, 1) := by decide +kernel
theorem dX6_copy_113 : decode cX6_copy 113 = .ok (.invokevirtual 107, 3) := by decide +kernel
theorem dX6_copy_116 : decode cX6_copy 116 = .ok (.ireturn, 1) := by decide +kernel
theorem dX6_copy_117 : decode cX6_copy 117 = .ok (.iconst 0, 1) := by decide +kernel
theorem dX6_copy_118 : decode cX6_copy 118 = .ok (.istore 6, 2) := by decide +kernel
theorem dX6_copy_120 : decode cX6_copy 120 = .ok (.iload 6, 2) := by decide +kernel
theorem dX6_copy_122 : decode cX6_copy 122 = .ok (.iload 5, 2) := by decide +kernel
theorem dX6_copy_124 : decode cX6_copy 124 = .ok (.if_icmp .ge 30, 3) := by decide +kernel
theorem dX6_copy_127 : decode cX6_copy 127 = .ok (.aload_n 0, 1) := by decide +kernel
theorem dX6_copy_128 : decode cX6_copy 128 = .ok (.getfield 70, 3) := by decide +kernel
theorem dX6_copy_131 : decode cX6_copy 131 = .ok (.iload 6, 2) := by decide +kernel
theorem dX6_copy_133 : decode cX6_copy 133 = .ok (.aload_n 0, 1) := by decide +kernel
theorem dX6_copy_134 : decode cX6_copy 134 = .ok (.getfield 67, 3) := by decide +kernel
theorem dX6_copy_137 : decode cX6_copy 137 = .ok (.bipush 60, 2) := by decide +kernel
theorem dX6_copy_139 : decode cX6_copy 139 = .ok (.iload_n 1, 1) := by decide +kernel
theorem dX6_copy_140 : decode cX6_copy 140 = .ok (.imul, 1) := by decide +kernel
theorem dX6_copy_141 : decode cX6_copy 141 = .ok (.iload_n 2, 1) := by decide +kernel
theorem dX6_copy_142 : decode cX6_copy 142 = .ok (.iadd, 1) := by decide +kernel
theorem dX6_copy_143 : decode cX6_copy 143 = .ok (.iload 6, 2) := by decide +kernel
theorem dX6_copy_145 : decode cX6_copy 145 = .ok (.iadd, 1) := by decide +kernel
theorem dX6_copy_146 : decode cX6_copy 146 = .ok (.iaload, 1) := by decide +kernel
theorem dX6_copy_147 : decode cX6_copy 147 = .ok (.iastore, 1) := by decide +kernel
theorem dX6_copy_148 : decode cX6_copy 148 = .ok (.iinc 6 1, 3) := by decide +kernel
theorem dX6_copy_151 : decode cX6_copy 151 = .ok (.goto (-31), 3) := by decide +kernel
theorem dX6_copy_154 : decode cX6_copy 154 = .ok (.iconst 0, 1) := by decide +kernel
theorem dX6_copy_155 : decode cX6_copy 155 = .ok (.istore 6, 2) := by decide +kernel
theorem dX6_copy_157 : decode cX6_copy 157 = .ok (.iload 6, 2) := by decide +kernel
theorem dX6_copy_159 : decode cX6_copy 159 = .ok (.iload 5, 2) := by decide +kernel
theorem dX6_copy_161 : decode cX6_copy 161 = .ok (.if_icmp .ge 31, 3) := by decide +kernel
theorem dX6_copy_164 : decode cX6_copy 164 = .ok (.aload_n 0, 1) := by decide +kernel
theorem dX6_copy_165 : decode cX6_copy 165 = .ok (.getfield 67, 3) := by decide +kernel
theorem dX6_copy_168 : decode cX6_copy 168 = .ok (.bipush 60, 2) := by decide +kernel
theorem dX6_copy_170 : decode cX6_copy 170 = .ok (.iload_n 3, 1) := by decide +kernel
theorem dX6_copy_171 : decode cX6_copy 171 = .ok (.imul, 1) := by decide +kernel
theorem dX6_copy_172 : decode cX6_copy 172 = .ok (.iload 4, 2) := by decide +kernel
theorem dX6_copy_174 : decode cX6_copy 174 = .ok (.iadd, 1) := by decide +kernel
theorem dX6_copy_175 : decode cX6_copy 175 = .ok (.iload 6, 2) := by decide +kernel
theorem dX6_copy_177 : decode cX6_copy 177 = .ok (.iadd, 1) := by decide +kernel
theorem dX6_copy_178 : decode cX6_copy 178 = .ok (.aload_n 0, 1) := by decide +kernel
theorem dX6_copy_179 : decode cX6_copy 179 = .ok (.getfield 70, 3) := by decide +kernel
theorem dX6_copy_182 : decode cX6_copy 182 = .ok (.iload 6, 2) := by decide +kernel
theorem dX6_copy_184 : decode cX6_copy 184 = .ok (.iaload, 1) := by decide +kernel
theorem dX6_copy_185 : decode cX6_copy 185 = .ok (.iastore, 1) := by decide +kernel
theorem dX6_copy_186 : decode cX6_copy 186 = .ok (.iinc 6 1, 3) := by decide +kernel
theorem dX6_copy_189 : decode cX6_copy 189 = .ok (.goto (-32), 3) := by decide +kernel
theorem dX6_copy_192 : decode cX6_copy 192 = .ok (.iconst 1, 1) := by decide +kernel
theorem dX6_copy_193 : decode cX6_copy 193 = .ok (.ireturn, 1) := by decide +kernel
theorem dX6_write_0 : decode cX6_write 0 = .ok (.iload_n 1, 1) := by decide +kernel
theorem dX6_write_1 : decode cX6_write 1 = .ok (.invokestatic 104, 3) := by decide +kernel
theorem dX6_write_4 : decode cX6_write 4 = .ok (.ifCond .ne 6, 3) := by decide +kernel
theorem dX6_write_7 : decode cX6_write 7 = .ok (.bipush (-2), 2) := by decide +kernel
theorem dX6_write_9 : decode cX6_write 9 = .ok (.ireturn, 1) := by decide +kernel
theorem dX6_write_10 : decode cX6_write 10 = .ok (.aload_n 0, 1) := by decide +kernel
theorem dX6_write_11 : decode cX6_write 11 = .ok (.getfield 58, 3) := by decide +kernel
theorem dX6_write_14 : decode cX6_write 14 = .ok (.iload_n 1, 1) := by decide +kernel
theorem dX6_write_15 : decode cX6_write 15 = .ok (.baload, 1) := by decide +kernel
theorem dX6_write_16 : decode cX6_write 16 = .ok (.ifCond .ne 9, 3) := by decide +kernel
theorem dX6_write_19 : decode cX6_write 19 = .ok (.aload_n 0, 1) := by decide +kernel
theorem dX6_write_20 : decode cX6_write 20 = .ok (.iconst 1, 1) := by decide +kernel
theorem dX6_write_21 : decode cX6_write 21 = .ok (.invokevirtual 107, 3) := by decide +kernel
theorem dX6_write_24 : decode cX6_write 24 = .ok (.ireturn, 1) := by decide +kernel
theorem dX6_write_25 : decode cX6_write 25 = .ok (.iconst 0, 1) := by decide +kernel
theorem dX6_write_26 : decode cX6_write 26 = .ok (.istore_n 2, 1) := by decide +kernel
theorem dX6_write_27 : decode cX6_write 27 = .ok (.iload_n 2, 1) := by decide +kernel
theorem dX6_write_28 : decode cX6_write 28 = .ok (.aload_n 0, 1) := by decide +kernel
theorem dX6_write_29 : decode cX6_write 29 = .ok (.getfield 64, 3) := by decide +kernel
theorem dX6_write_32 : decode cX6_write 32 = .ok (.iload_n 1, 1) := by decide +kernel
theorem dX6_write_33 : decode cX6_write 33 = .ok (.iaload, 1) := by decide +kernel
theorem dX6_write_34 : decode cX6_write 34 = .ok (.if_icmp .ge 28, 3) := by decide +kernel
theorem dX6_write_37 : decode cX6_write 37 = .ok (.iload_n 2, 1) := by decide +kernel
theorem dX6_write_38 : decode cX6_write 38 = .ok (.aload_n 0, 1) := by decide +kernel
theorem dX6_write_39 : decode cX6_write 39 = .ok (.getfield 7, 3) := by decide +kernel
theorem dX6_write_42 : decode cX6_write 42 = .ok (.if_icmp .ge 20, 3) := by decide +kernel
theorem dX6_write_45 : decode cX6_write 45 = .ok (.aload_n 0, 1) := by decide +kernel
theorem dX6_write_46 : decode cX6_write 46 = .ok (.iload_n 1, 1) := by decide +kernel
theorem dX6_write_47 : decode cX6_write 47 = .ok (.iload_n 2, 1) := by decide +kernel
theorem dX6_write_48 : decode cX6_write 48 = .ok (.aload_n 0, 1) := by decide +kernel
theorem dX6_write_49 : decode cX6_write 49 = .ok (.iload_n 2, 1) := by decide +kernel
theorem dX6_write_50 : decode cX6_write 50 = .ok (.invokevirtual 190, 3) := by decide +kernel
theorem dX6_write_53 : decode cX6_write 53 = .ok (.invokevirtual 203, 3) := by decide +kernel
theorem dX6_write_56 : decode cX6_write 56 = .ok (.iinc 2 1, 3) := by decide +kernel
theorem dX6_write_59 : decode cX6_write 59 = .ok (.goto (-32), 3) := by decide +kernel
theorem dX6_write_62 : decode cX6_write 62 = .ok (.iload_n 2, 1) := by decide +kernel
theorem dX6_write_63 : decode cX6_write 63 = .ok (.ireturn, 1) := by decide +kernel
theorem dX6_sumOn_0 : decode cX6_sumOn 0 = .ok (.iconst 0, 1) := by decide +kernel
theorem dX6_sumOn_1 : decode cX6_sumOn 1 = .ok (.istore_n 1, 1) := by decide +kernel
theorem dX6_sumOn_2 : decode cX6_sumOn 2 = .ok (.iconst 0, 1) := by decide +kernel
theorem dX6_sumOn_3 : decode cX6_sumOn 3 = .ok (.istore_n 2, 1) := by decide +kernel
theorem dX6_sumOn_4 : decode cX6_sumOn 4 = .ok (.iload_n 2, 1) := by decide +kernel
theorem dX6_sumOn_5 : decode cX6_sumOn 5 = .ok (.aload_n 0, 1) := by decide +kernel
theorem dX6_sumOn_6 : decode cX6_sumOn 6 = .ok (.getfield 7, 3) := by decide +kernel
theorem dX6_sumOn_9 : decode cX6_sumOn 9 = .ok (.if_icmp .ge 31, 3) := by decide +kernel
theorem dX6_sumOn_12 : decode cX6_sumOn 12 = .ok (.iload_n 1, 1) := by decide +kernel
theorem dX6_sumOn_13 : decode cX6_sumOn 13 = .ok (.aload_n 0, 1) := by decide +kernel
theorem dX6_sumOn_14 : decode cX6_sumOn 14 = .ok (.getfield 26, 3) := by decide +kernel
theorem dX6_sumOn_17 : decode cX6_sumOn 17 = .ok (.iload_n 2, 1) := by decide +kernel
theorem dX6_sumOn_18 : decode cX6_sumOn 18 = .ok (.baload, 1) := by decide +kernel
theorem dX6_sumOn_19 : decode cX6_sumOn 19 = .ok (.ifCond .eq 12, 3) := by decide +kernel
theorem dX6_sumOn_22 : decode cX6_sumOn 22 = .ok (.aload_n 0, 1) := by decide +kernel
theorem dX6_sumOn_23 : decode cX6_sumOn 23 = .ok (.getfield 30, 3) := by decide +kernel
theorem dX6_sumOn_26 : decode cX6_sumOn 26 = .ok (.iload_n 2, 1) := by decide +kernel
theorem dX6_sumOn_27 : decode cX6_sumOn 27 = .ok (.iaload, 1) := by decide +kernel
theorem dX6_sumOn_28 : decode cX6_sumOn 28 = .ok (.goto 4, 3) := by decide +kernel
theorem dX6_sumOn_31 : decode cX6_sumOn 31 = .ok (.iconst 0, 1) := by decide +kernel
theorem dX6_sumOn_32 : decode cX6_sumOn 32 = .ok (.iadd, 1) := by decide +kernel
theorem dX6_sumOn_33 : decode cX6_sumOn 33 = .ok (.istore_n 1, 1) := by decide +kernel
theorem dX6_sumOn_34 : decode cX6_sumOn 34 = .ok (.iinc 2 1, 3) := by decide +kernel
theorem dX6_sumOn_37 : decode cX6_sumOn 37 = .ok (.goto (-33), 3) := by decide +kernel
theorem dX6_sumOn_40 : decode cX6_sumOn 40 = .ok (.iload_n 1, 1) := by decide +kernel
theorem dX6_sumOn_41 : decode cX6_sumOn 41 = .ok (.ireturn, 1) := by decide +kernel
theorem dX6_count_0 : decode cX6_count 0 = .ok (.iload_n 1, 1) := by decide +kernel
theorem dX6_count_1 : decode cX6_count 1 = .ok (.tableswitch 108 0 8 #[51, 56, 64, 72, 77, 85, 93, 98, 103], 51) := by decide +kernel
theorem dX6_count_52 : decode cX6_count 52 = .ok (.aload_n 0, 1) := by decide +kernel
theorem dX6_count_53 : decode cX6_count 53 = .ok (.getfield 7, 3) := by decide +kernel
theorem dX6_count_56 : decode cX6_count 56 = .ok (.ireturn, 1) := by decide +kernel
theorem dX6_count_57 : decode cX6_count 57 = .ok (.aload_n 0, 1) := by decide +kernel
theorem dX6_count_58 : decode cX6_count 58 = .ok (.invokevirtual 94, 3) := by decide +kernel
theorem dX6_count_61 : decode cX6_count 61 = .ok (.invokestatic 134, 3) := by decide +kernel
theorem dX6_count_64 : decode cX6_count 64 = .ok (.ireturn, 1) := by decide +kernel
theorem dX6_count_65 : decode cX6_count 65 = .ok (.aload_n 0, 1) := by decide +kernel
theorem dX6_count_66 : decode cX6_count 66 = .ok (.invokevirtual 193, 3) := by decide +kernel
theorem dX6_count_69 : decode cX6_count 69 = .ok (.invokestatic 134, 3) := by decide +kernel
theorem dX6_count_72 : decode cX6_count 72 = .ok (.ireturn, 1) := by decide +kernel
theorem dX6_count_73 : decode cX6_count 73 = .ok (.aload_n 0, 1) := by decide +kernel
theorem dX6_count_74 : decode cX6_count 74 = .ok (.invokevirtual 208, 3) := by decide +kernel
theorem dX6_count_77 : decode cX6_count 77 = .ok (.ireturn, 1) := by decide +kernel
theorem dX6_count_78 : decode cX6_count 78 = .ok (.aload_n 0, 1) := by decide +kernel
theorem dX6_count_79 : decode cX6_count 79 = .ok (.invokevirtual 166, 3) := by decide +kernel
theorem dX6_count_82 : decode cX6_count 82 = .ok (.invokestatic 134, 3) := by decide +kernel
theorem dX6_count_85 : decode cX6_count 85 = .ok (.ireturn, 1) := by decide +kernel
theorem dX6_count_86 : decode cX6_count 86 = .ok (.aload_n 0, 1) := by decide +kernel
theorem dX6_count_87 : decode cX6_count 87 = .ok (.invokevirtual 169, 3) := by decide +kernel
theorem dX6_count_90 : decode cX6_count 90 = .ok (.invokestatic 134, 3) := by decide +kernel
theorem dX6_count_93 : decode cX6_count 93 = .ok (.ireturn, 1) := by decide +kernel
theorem dX6_count_94 : decode cX6_count 94 = .ok (.aload_n 0, 1) := by decide +kernel
theorem dX6_count_95 : decode cX6_count 95 = .ok (.getfield 101, 3) := by decide +kernel
theorem dX6_count_98 : decode cX6_count 98 = .ok (.ireturn, 1) := by decide +kernel
theorem dX6_count_99 : decode cX6_count 99 = .ok (.aload_n 0, 1) := by decide +kernel
theorem dX6_count_100 : decode cX6_count 100 = .ok (.invokevirtual 187, 3) := by decide +kernel
theorem dX6_count_103 : decode cX6_count 103 = .ok (.ireturn, 1) := by decide +kernel
theorem dX6_count_104 : decode cX6_count 104 = .ok (.aload_n 0, 1) := by decide +kernel
theorem dX6_count_105 : decode cX6_count 105 = .ok (.getfield 196, 3) := by decide +kernel
theorem dX6_count_108 : decode cX6_count 108 = .ok (.ireturn, 1) := by decide +kernel
theorem dX6_count_109 : decode cX6_count 109 = .ok (.bipush (-2), 2) := by decide +kernel
theorem dX6_count_111 : decode cX6_count 111 = .ok (.ireturn, 1) := by decide +kernel
theorem dX6_senderDigest_0 : decode cX6_senderDigest 0 = .ok (.lload_n 1, 1) := by decide +kernel
theorem dX6_senderDigest_1 : decode cX6_senderDigest 1 = .ok (.lstore 4, 2) := by decide +kernel
theorem dX6_senderDigest_3 : decode cX6_senderDigest 3 = .ok (.iconst 0, 1) := by decide +kernel
theorem dX6_senderDigest_4 : decode cX6_senderDigest 4 = .ok (.istore 6, 2) := by decide +kernel
theorem dX6_senderDigest_6 : decode cX6_senderDigest 6 = .ok (.iload 6, 2) := by decide +kernel
theorem dX6_senderDigest_8 : decode cX6_senderDigest 8 = .ok (.bipush 8, 2) := by decide +kernel
theorem dX6_senderDigest_10 : decode cX6_senderDigest 10 = .ok (.if_icmp .ge 26, 3) := by decide +kernel
theorem dX6_senderDigest_13 : decode cX6_senderDigest 13 = .ok (.ldc2_w 211, 3) := by decide +kernel
theorem dX6_senderDigest_16 : decode cX6_senderDigest 16 = .ok (.lload 4, 2) := by decide +kernel
theorem dX6_senderDigest_18 : decode cX6_senderDigest 18 = .ok (.lmul, 1) := by decide +kernel
theorem dX6_senderDigest_19 : decode cX6_senderDigest 19 = .ok (.aload_n 0, 1) := by decide +kernel
theorem dX6_senderDigest_20 : decode cX6_senderDigest 20 = .ok (.iload_n 3, 1) := by decide +kernel
theorem dX6_senderDigest_21 : decode cX6_senderDigest 21 = .ok (.iload 6, 2) := by decide +kernel
theorem dX6_senderDigest_23 : decode cX6_senderDigest 23 = .ok (.invokevirtual 123, 3) := by decide +kernel
theorem dX6_senderDigest_26 : decode cX6_senderDigest 26 = .ok (.i2l, 1) := by decide +kernel
theorem dX6_senderDigest_27 : decode cX6_senderDigest 27 = .ok (.ladd, 1) := by decide +kernel
theorem dX6_senderDigest_28 : decode cX6_senderDigest 28 = .ok (.lstore 4, 2) := by decide +kernel
theorem dX6_senderDigest_30 : decode cX6_senderDigest 30 = .ok (.iinc 6 1, 3) := by decide +kernel
theorem dX6_senderDigest_33 : decode cX6_senderDigest 33 = .ok (.goto (-27), 3) := by decide +kernel
theorem dX6_senderDigest_36 : decode cX6_senderDigest 36 = .ok (.ldc2_w 211, 3) := by decide +kernel
theorem dX6_senderDigest_39 : decode cX6_senderDigest 39 = .ok (.lload 4, 2) := by decide +kernel
theorem dX6_senderDigest_41 : decode cX6_senderDigest 41 = .ok (.lmul, 1) := by decide +kernel
theorem dX6_senderDigest_42 : decode cX6_senderDigest 42 = .ok (.aload_n 0, 1) := by decide +kernel
theorem dX6_senderDigest_43 : decode cX6_senderDigest 43 = .ok (.iload_n 3, 1) := by decide +kernel
theorem dX6_senderDigest_44 : decode cX6_senderDigest 44 = .ok (.iconst 0, 1) := by decide +kernel
theorem dX6_senderDigest_45 : decode cX6_senderDigest 45 = .ok (.invokevirtual 213, 3) := by decide +kernel
theorem dX6_senderDigest_48 : decode cX6_senderDigest 48 = .ok (.ladd, 1) := by decide +kernel
theorem dX6_senderDigest_49 : decode cX6_senderDigest 49 = .ok (.lstore 4, 2) := by decide +kernel
theorem dX6_senderDigest_51 : decode cX6_senderDigest 51 = .ok (.ldc2_w 211, 3) := by decide +kernel
theorem dX6_senderDigest_54 : decode cX6_senderDigest 54 = .ok (.lload 4, 2) := by decide +kernel
theorem dX6_senderDigest_56 : decode cX6_senderDigest 56 = .ok (.lmul, 1) := by decide +kernel
theorem dX6_senderDigest_57 : decode cX6_senderDigest 57 = .ok (.aload_n 0, 1) := by decide +kernel
theorem dX6_senderDigest_58 : decode cX6_senderDigest 58 = .ok (.iload_n 3, 1) := by decide +kernel
theorem dX6_senderDigest_59 : decode cX6_senderDigest 59 = .ok (.iconst 1, 1) := by decide +kernel
theorem dX6_senderDigest_60 : decode cX6_senderDigest 60 = .ok (.invokevirtual 213, 3) := by decide +kernel
theorem dX6_senderDigest_63 : decode cX6_senderDigest 63 = .ok (.ladd, 1) := by decide +kernel
theorem dX6_senderDigest_64 : decode cX6_senderDigest 64 = .ok (.lstore 4, 2) := by decide +kernel
theorem dX6_senderDigest_66 : decode cX6_senderDigest 66 = .ok (.ldc2_w 211, 3) := by decide +kernel
theorem dX6_senderDigest_69 : decode cX6_senderDigest 69 = .ok (.lload 4, 2) := by decide +kernel
theorem dX6_senderDigest_71 : decode cX6_senderDigest 71 = .ok (.lmul, 1) := by decide +kernel
theorem dX6_senderDigest_72 : decode cX6_senderDigest 72 = .ok (.aload_n 0, 1) := by decide +kernel
theorem dX6_senderDigest_73 : decode cX6_senderDigest 73 = .ok (.iload_n 3, 1) := by decide +kernel
theorem dX6_senderDigest_74 : decode cX6_senderDigest 74 = .ok (.iconst 0, 1) := by decide +kernel
theorem dX6_senderDigest_75 : decode cX6_senderDigest 75 = .ok (.invokevirtual 216, 3) := by decide +kernel
theorem dX6_senderDigest_78 : decode cX6_senderDigest 78 = .ok (.ladd, 1) := by decide +kernel
theorem dX6_senderDigest_79 : decode cX6_senderDigest 79 = .ok (.lstore 4, 2) := by decide +kernel
theorem dX6_senderDigest_81 : decode cX6_senderDigest 81 = .ok (.ldc2_w 211, 3) := by decide +kernel
theorem dX6_senderDigest_84 : decode cX6_senderDigest 84 = .ok (.lload 4, 2) := by decide +kernel
theorem dX6_senderDigest_86 : decode cX6_senderDigest 86 = .ok (.lmul, 1) := by decide +kernel
theorem dX6_senderDigest_87 : decode cX6_senderDigest 87 = .ok (.aload_n 0, 1) := by decide +kernel
theorem dX6_senderDigest_88 : decode cX6_senderDigest 88 = .ok (.iload_n 3, 1) := by decide +kernel
theorem dX6_senderDigest_89 : decode cX6_senderDigest 89 = .ok (.iconst 1, 1) := by decide +kernel
theorem dX6_senderDigest_90 : decode cX6_senderDigest 90 = .ok (.invokevirtual 216, 3) := by decide +kernel
theorem dX6_senderDigest_93 : decode cX6_senderDigest 93 = .ok (.ladd, 1) := by decide +kernel
theorem dX6_senderDigest_94 : decode cX6_senderDigest 94 = .ok (.lstore 4, 2) := by decide +kernel
theorem dX6_senderDigest_96 : decode cX6_senderDigest 96 = .ok (.ldc2_w 211, 3) := by decide +kernel
theorem dX6_senderDigest_99 : decode cX6_senderDigest 99 = .ok (.lload 4, 2) := by decide +kernel
theorem dX6_senderDigest_101 : decode cX6_senderDigest 101 = .ok (.lmul, 1) := by decide +kernel
theorem dX6_senderDigest_102 : decode cX6_senderDigest 102 = .ok (.aload_n 0, 1) := by decide +kernel
theorem dX6_senderDigest_103 : decode cX6_senderDigest 103 = .ok (.iload_n 3, 1) := by decide +kernel
theorem dX6_senderDigest_104 : decode cX6_senderDigest 104 = .ok (.invokevirtual 190, 3) := by decide +kernel
theorem dX6_senderDigest_107 : decode cX6_senderDigest 107 = .ok (.i2l, 1) := by decide +kernel
theorem dX6_senderDigest_108 : decode cX6_senderDigest 108 = .ok (.ladd, 1) := by decide +kernel
theorem dX6_senderDigest_109 : decode cX6_senderDigest 109 = .ok (.lstore 4, 2) := by decide +kernel
theorem dX6_senderDigest_111 : decode cX6_senderDigest 111 = .ok (.iconst 0, 1) := by decide +kernel
theorem dX6_senderDigest_112 : decode cX6_senderDigest 112 = .ok (.istore 6, 2) := by decide +kernel
theorem dX6_senderDigest_114 : decode cX6_senderDigest 114 = .ok (.iload 6, 2) := by decide +kernel
theorem dX6_senderDigest_116 : decode cX6_senderDigest 116 = .ok (.aload_n 0, 1) := by decide +kernel
theorem dX6_senderDigest_117 : decode cX6_senderDigest 117 = .ok (.getfield 7, 3) := by decide +kernel
theorem dX6_senderDigest_120 : decode cX6_senderDigest 120 = .ok (.if_icmp .ge 30, 3) := by decide +kernel
theorem dX6_senderDigest_123 : decode cX6_senderDigest 123 = .ok (.ldc2_w 211, 3) := by decide +kernel
theorem dX6_senderDigest_126 : decode cX6_senderDigest 126 = .ok (.lload 4, 2) := by decide +kernel
theorem dX6_senderDigest_128 : decode cX6_senderDigest 128 = .ok (.lmul, 1) := by decide +kernel
theorem dX6_senderDigest_129 : decode cX6_senderDigest 129 = .ok (.aload_n 0, 1) := by decide +kernel
theorem dX6_senderDigest_130 : decode cX6_senderDigest 130 = .ok (.getfield 13, 3) := by decide +kernel
theorem dX6_senderDigest_133 : decode cX6_senderDigest 133 = .ok (.iconst 5, 1) := by decide +kernel
theorem dX6_senderDigest_134 : decode cX6_senderDigest 134 = .ok (.iload_n 3, 1) := by decide +kernel
theorem dX6_senderDigest_135 : decode cX6_senderDigest 135 = .ok (.imul, 1) := by decide +kernel
theorem dX6_senderDigest_136 : decode cX6_senderDigest 136 = .ok (.iload 6, 2) := by decide +kernel
theorem dX6_senderDigest_138 : decode cX6_senderDigest 138 = .ok (.iadd, 1) := by decide +kernel
theorem dX6_senderDigest_139 : decode cX6_senderDigest 139 = .ok (.iaload, 1) := by decide +kernel
theorem dX6_senderDigest_140 : decode cX6_senderDigest 140 = .ok (.i2l, 1) := by decide +kernel
theorem dX6_senderDigest_141 : decode cX6_senderDigest 141 = .ok (.ladd, 1) := by decide +kernel
theorem dX6_senderDigest_142 : decode cX6_senderDigest 142 = .ok (.lstore 4, 2) := by decide +kernel
theorem dX6_senderDigest_144 : decode cX6_senderDigest 144 = .ok (.iinc 6 1, 3) := by decide +kernel
theorem dX6_senderDigest_147 : decode cX6_senderDigest 147 = .ok (.goto (-33), 3) := by decide +kernel
theorem dX6_senderDigest_150 : decode cX6_senderDigest 150 = .ok (.lload 4, 2) := by decide +kernel
theorem dX6_senderDigest_152 : decode cX6_senderDigest 152 = .ok (.lreturn, 1) := by decide +kernel
theorem dX6_digest_0 : decode cX6_digest 0 = .ok (.ldc2_w 219, 3) := by decide +kernel
theorem dX6_digest_3 : decode cX6_digest 3 = .ok (.lstore_n 1, 1) := by decide +kernel
theorem dX6_digest_4 : decode cX6_digest 4 = .ok (.iconst 0, 1) := by decide +kernel
theorem dX6_digest_5 : decode cX6_digest 5 = .ok (.istore_n 3, 1) := by decide +kernel
theorem dX6_digest_6 : decode cX6_digest 6 = .ok (.iload_n 3, 1) := by decide +kernel
theorem dX6_digest_7 : decode cX6_digest 7 = .ok (.bipush 8, 2) := by decide +kernel
theorem dX6_digest_9 : decode cX6_digest 9 = .ok (.if_icmp .ge 22, 3) := by decide +kernel
theorem dX6_digest_12 : decode cX6_digest 12 = .ok (.ldc2_w 211, 3) := by decide +kernel
theorem dX6_digest_15 : decode cX6_digest 15 = .ok (.lload_n 1, 1) := by decide +kernel
theorem dX6_digest_16 : decode cX6_digest 16 = .ok (.lmul, 1) := by decide +kernel
theorem dX6_digest_17 : decode cX6_digest 17 = .ok (.aload_n 0, 1) := by decide +kernel
theorem dX6_digest_18 : decode cX6_digest 18 = .ok (.iload_n 3, 1) := by decide +kernel
theorem dX6_digest_19 : decode cX6_digest 19 = .ok (.invokevirtual 221, 3) := by decide +kernel
theorem dX6_digest_22 : decode cX6_digest 22 = .ok (.i2l, 1) := by decide +kernel
theorem dX6_digest_23 : decode cX6_digest 23 = .ok (.ladd, 1) := by decide +kernel
theorem dX6_digest_24 : decode cX6_digest 24 = .ok (.lstore_n 1, 1) := by decide +kernel
theorem dX6_digest_25 : decode cX6_digest 25 = .ok (.iinc 3 1, 3) := by decide +kernel
theorem dX6_digest_28 : decode cX6_digest 28 = .ok (.goto (-22), 3) := by decide +kernel
theorem dX6_digest_31 : decode cX6_digest 31 = .ok (.ldc2_w 211, 3) := by decide +kernel
theorem dX6_digest_34 : decode cX6_digest 34 = .ok (.lload_n 1, 1) := by decide +kernel
theorem dX6_digest_35 : decode cX6_digest 35 = .ok (.lmul, 1) := by decide +kernel
theorem dX6_digest_36 : decode cX6_digest 36 = .ok (.aload_n 0, 1) := by decide +kernel
theorem dX6_digest_37 : decode cX6_digest 37 = .ok (.invokevirtual 184, 3) := by decide +kernel
theorem dX6_digest_40 : decode cX6_digest 40 = .ok (.i2l, 1) := by decide +kernel
theorem dX6_digest_41 : decode cX6_digest 41 = .ok (.ladd, 1) := by decide +kernel
theorem dX6_digest_42 : decode cX6_digest 42 = .ok (.lstore_n 1, 1) := by decide +kernel
theorem dX6_digest_43 : decode cX6_digest 43 = .ok (.ldc2_w 211, 3) := by decide +kernel
theorem dX6_digest_46 : decode cX6_digest 46 = .ok (.lload_n 1, 1) := by decide +kernel
theorem dX6_digest_47 : decode cX6_digest 47 = .ok (.lmul, 1) := by decide +kernel
theorem dX6_digest_48 : decode cX6_digest 48 = .ok (.aload_n 0, 1) := by decide +kernel
theorem dX6_digest_49 : decode cX6_digest 49 = .ok (.invokevirtual 224, 3) := by decide +kernel
theorem dX6_digest_52 : decode cX6_digest 52 = .ok (.i2l, 1) := by decide +kernel
theorem dX6_digest_53 : decode cX6_digest 53 = .ok (.ladd, 1) := by decide +kernel
theorem dX6_digest_54 : decode cX6_digest 54 = .ok (.lstore_n 1, 1) := by decide +kernel
theorem dX6_digest_55 : decode cX6_digest 55 = .ok (.ldc2_w 211, 3) := by decide +kernel
theorem dX6_digest_58 : decode cX6_digest 58 = .ok (.lload_n 1, 1) := by decide +kernel
theorem dX6_digest_59 : decode cX6_digest 59 = .ok (.lmul, 1) := by decide +kernel
theorem dX6_digest_60 : decode cX6_digest 60 = .ok (.aload_n 0, 1) := by decide +kernel
theorem dX6_digest_61 : decode cX6_digest 61 = .ok (.invokevirtual 163, 3) := by decide +kernel
theorem dX6_digest_64 : decode cX6_digest 64 = .ok (.i2l, 1) := by decide +kernel
theorem dX6_digest_65 : decode cX6_digest 65 = .ok (.ladd, 1) := by decide +kernel
theorem dX6_digest_66 : decode cX6_digest 66 = .ok (.lstore_n 1, 1) := by decide +kernel
theorem dX6_digest_67 : decode cX6_digest 67 = .ok (.ldc2_w 211, 3) := by decide +kernel
theorem dX6_digest_70 : decode cX6_digest 70 = .ok (.lload_n 1, 1) := by decide +kernel
theorem dX6_digest_71 : decode cX6_digest 71 = .ok (.lmul, 1) := by decide +kernel
theorem dX6_digest_72 : decode cX6_digest 72 = .ok (.aload_n 0, 1) := by decide +kernel
theorem dX6_digest_73 : decode cX6_digest 73 = .ok (.invokevirtual 166, 3) := by decide +kernel
theorem dX6_digest_76 : decode cX6_digest 76 = .ok (.i2l, 1) := by decide +kernel
theorem dX6_digest_77 : decode cX6_digest 77 = .ok (.ladd, 1) := by decide +kernel
theorem dX6_digest_78 : decode cX6_digest 78 = .ok (.lstore_n 1, 1) := by decide +kernel
theorem dX6_digest_79 : decode cX6_digest 79 = .ok (.ldc2_w 211, 3) := by decide +kernel
theorem dX6_digest_82 : decode cX6_digest 82 = .ok (.lload_n 1, 1) := by decide +kernel
theorem dX6_digest_83 : decode cX6_digest 83 = .ok (.lmul, 1) := by decide +kernel
theorem dX6_digest_84 : decode cX6_digest 84 = .ok (.aload_n 0, 1) := by decide +kernel
theorem dX6_digest_85 : decode cX6_digest 85 = .ok (.invokevirtual 169, 3) := by decide +kernel
theorem dX6_digest_88 : decode cX6_digest 88 = .ok (.i2l, 1) := by decide +kernel
theorem dX6_digest_89 : decode cX6_digest 89 = .ok (.ladd, 1) := by decide +kernel
theorem dX6_digest_90 : decode cX6_digest 90 = .ok (.lstore_n 1, 1) := by decide +kernel
theorem dX6_digest_91 : decode cX6_digest 91 = .ok (.ldc2_w 211, 3) := by decide +kernel
theorem dX6_digest_94 : decode cX6_digest 94 = .ok (.lload_n 1, 1) := by decide +kernel
theorem dX6_digest_95 : decode cX6_digest 95 = .ok (.lmul, 1) := by decide +kernel
theorem dX6_digest_96 : decode cX6_digest 96 = .ok (.aload_n 0, 1) := by decide +kernel
theorem dX6_digest_97 : decode cX6_digest 97 = .ok (.invokevirtual 227, 3) := by decide +kernel
theorem dX6_digest_100 : decode cX6_digest 100 = .ok (.i2l, 1) := by decide +kernel
theorem dX6_digest_101 : decode cX6_digest 101 = .ok (.ladd, 1) := by decide +kernel
theorem dX6_digest_102 : decode cX6_digest 102 = .ok (.lstore_n 1, 1) := by decide +kernel
theorem dX6_digest_103 : decode cX6_digest 103 = .ok (.ldc2_w 211, 3) := by decide +kernel
theorem dX6_digest_106 : decode cX6_digest 106 = .ok (.lload_n 1, 1) := by decide +kernel
theorem dX6_digest_107 : decode cX6_digest 107 = .ok (.lmul, 1) := by decide +kernel
theorem dX6_digest_108 : decode cX6_digest 108 = .ok (.aload_n 0, 1) := by decide +kernel
theorem dX6_digest_109 : decode cX6_digest 109 = .ok (.invokevirtual 230, 3) := by decide +kernel
theorem dX6_digest_112 : decode cX6_digest 112 = .ok (.i2l, 1) := by decide +kernel
theorem dX6_digest_113 : decode cX6_digest 113 = .ok (.ladd, 1) := by decide +kernel
theorem dX6_digest_114 : decode cX6_digest 114 = .ok (.lstore_n 1, 1) := by decide +kernel
theorem dX6_digest_115 : decode cX6_digest 115 = .ok (.ldc2_w 211, 3) := by decide +kernel
theorem dX6_digest_118 : decode cX6_digest 118 = .ok (.lload_n 1, 1) := by decide +kernel
theorem dX6_digest_119 : decode cX6_digest 119 = .ok (.lmul, 1) := by decide +kernel
theorem dX6_digest_120 : decode cX6_digest 120 = .ok (.aload_n 0, 1) := by decide +kernel
theorem dX6_digest_121 : decode cX6_digest 121 = .ok (.invokevirtual 193, 3) := by decide +kernel
theorem dX6_digest_124 : decode cX6_digest 124 = .ok (.i2l, 1) := by decide +kernel
theorem dX6_digest_125 : decode cX6_digest 125 = .ok (.ladd, 1) := by decide +kernel
theorem dX6_digest_126 : decode cX6_digest 126 = .ok (.lstore_n 1, 1) := by decide +kernel
theorem dX6_digest_127 : decode cX6_digest 127 = .ok (.iconst 0, 1) := by decide +kernel
theorem dX6_digest_128 : decode cX6_digest 128 = .ok (.istore_n 3, 1) := by decide +kernel
theorem dX6_digest_129 : decode cX6_digest 129 = .ok (.iload_n 3, 1) := by decide +kernel
theorem dX6_digest_130 : decode cX6_digest 130 = .ok (.aload_n 0, 1) := by decide +kernel
theorem dX6_digest_131 : decode cX6_digest 131 = .ok (.getfield 7, 3) := by decide +kernel
theorem dX6_digest_134 : decode cX6_digest 134 = .ok (.if_icmp .ge 16, 3) := by decide +kernel
theorem dX6_digest_137 : decode cX6_digest 137 = .ok (.aload_n 0, 1) := by decide +kernel
theorem dX6_digest_138 : decode cX6_digest 138 = .ok (.lload_n 1, 1) := by decide +kernel
theorem dX6_digest_139 : decode cX6_digest 139 = .ok (.iload_n 3, 1) := by decide +kernel
theorem dX6_digest_140 : decode cX6_digest 140 = .ok (.invokevirtual 233, 3) := by decide +kernel
theorem dX6_digest_143 : decode cX6_digest 143 = .ok (.lstore_n 1, 1) := by decide +kernel
theorem dX6_digest_144 : decode cX6_digest 144 = .ok (.iinc 3 1, 3) := by decide +kernel
theorem dX6_digest_147 : decode cX6_digest 147 = .ok (.goto (-18), 3) := by decide +kernel
theorem dX6_digest_150 : decode cX6_digest 150 = .ok (.iconst 0, 1) := by decide +kernel
theorem dX6_digest_151 : decode cX6_digest 151 = .ok (.istore_n 3, 1) := by decide +kernel
theorem dX6_digest_152 : decode cX6_digest 152 = .ok (.iload_n 3, 1) := by decide +kernel
theorem dX6_digest_153 : decode cX6_digest 153 = .ok (.iconst 1, 1) := by decide +kernel
theorem dX6_digest_154 : decode cX6_digest 154 = .ok (.aload_n 0, 1) := by decide +kernel
theorem dX6_digest_155 : decode cX6_digest 155 = .ok (.getfield 7, 3) := by decide +kernel
theorem dX6_digest_158 : decode cX6_digest 158 = .ok (.ishl, 1) := by decide +kernel
theorem dX6_digest_159 : decode cX6_digest 159 = .ok (.if_icmp .ge 21, 3) := by decide +kernel
theorem dX6_digest_162 : decode cX6_digest 162 = .ok (.ldc2_w 211, 3) := by decide +kernel
theorem dX6_digest_165 : decode cX6_digest 165 = .ok (.lload_n 1, 1) := by decide +kernel
theorem dX6_digest_166 : decode cX6_digest 166 = .ok (.lmul, 1) := by decide +kernel
theorem dX6_digest_167 : decode cX6_digest 167 = .ok (.aload_n 0, 1) := by decide +kernel
theorem dX6_digest_168 : decode cX6_digest 168 = .ok (.iload_n 3, 1) := by decide +kernel
theorem dX6_digest_169 : decode cX6_digest 169 = .ok (.invokevirtual 237, 3) := by decide +kernel
theorem dX6_digest_172 : decode cX6_digest 172 = .ok (.ladd, 1) := by decide +kernel
theorem dX6_digest_173 : decode cX6_digest 173 = .ok (.lstore_n 1, 1) := by decide +kernel
theorem dX6_digest_174 : decode cX6_digest 174 = .ok (.iinc 3 1, 3) := by decide +kernel
theorem dX6_digest_177 : decode cX6_digest 177 = .ok (.goto (-25), 3) := by decide +kernel
theorem dX6_digest_180 : decode cX6_digest 180 = .ok (.lload_n 1, 1) := by decide +kernel
theorem dX6_digest_181 : decode cX6_digest 181 = .ok (.lreturn, 1) := by decide +kernel
