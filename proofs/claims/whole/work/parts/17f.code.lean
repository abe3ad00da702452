/-! instructions, made plain -/
theorem c_274_0 : ax_code 274 0 = some (.aload 0, 1) := by decide +kernel
theorem c_274_1 : ax_code 274 1 = some (.iload 1, 2) := by decide +kernel
theorem c_274_2 : ax_code 274 2 = some (.iload 2, 3) := by decide +kernel
theorem c_274_3 : ax_code 274 3 = some (.invokevirtual 234, 6) := by decide +kernel
theorem c_274_6 : ax_code 274 6 = some (.ifCond .eq 22, 9) := by decide +kernel
theorem c_274_9 : ax_code 274 9 = some (.aload 0, 10) := by decide +kernel
theorem c_274_10 : ax_code 274 10 = some (.iload 1, 11) := by decide +kernel
theorem c_274_11 : ax_code 274 11 = some (.iload 2, 12) := by decide +kernel
theorem c_274_12 : ax_code 274 12 = some (.invokevirtual 235, 15) := by decide +kernel
theorem c_274_15 : ax_code 274 15 = some (.ifCond .ne 22, 18) := by decide +kernel
theorem c_274_18 : ax_code 274 18 = some (.iconst 1, 19) := by decide +kernel
theorem c_274_19 : ax_code 274 19 = some (.goto 23, 22) := by decide +kernel
theorem c_274_22 : ax_code 274 22 = some (.iconst 0, 23) := by decide +kernel
theorem c_274_23 : ax_code 274 23 = some (.ireturn, 24) := by decide +kernel
theorem c_275_0 : ax_code 275 0 = some (.aload 0, 1) := by decide +kernel
theorem c_275_1 : ax_code 275 1 = some (.iconst 0, 2) := by decide +kernel
theorem c_275_2 : ax_code 275 2 = some (.putfield 704, 5) := by decide +kernel
theorem c_275_5 : ax_code 275 5 = some (.aload 0, 6) := by decide +kernel
theorem c_275_6 : ax_code 275 6 = some (.iload 1, 7) := by decide +kernel
theorem c_275_7 : ax_code 275 7 = some (.invokevirtual 231, 10) := by decide +kernel
theorem c_275_10 : ax_code 275 10 = some (.ifCond .eq 34, 13) := by decide +kernel
theorem c_275_13 : ax_code 275 13 = some (.iload 2, 14) := by decide +kernel
theorem c_275_14 : ax_code 275 14 = some (.invokestatic 272, 17) := by decide +kernel
theorem c_275_17 : ax_code 275 17 = some (.ifCond .eq 34, 20) := by decide +kernel
theorem c_275_20 : ax_code 275 20 = some (.iload 3, 21) := by decide +kernel
theorem c_275_21 : ax_code 275 21 = some (.i2l, 22) := by decide +kernel
theorem c_275_22 : ax_code 275 22 = some (.ldc2_w 8, 25) := by decide +kernel
theorem c_275_25 : ax_code 275 25 = some (.ldc2_w 23, 28) := by decide +kernel
theorem c_275_28 : ax_code 275 28 = some (.invokestatic 198, 31) := by decide +kernel
theorem c_275_31 : ax_code 275 31 = some (.ifCond .ne 38, 34) := by decide +kernel
theorem c_275_34 : ax_code 275 34 = some (.ldc2_w 0, 37) := by decide +kernel
theorem c_275_37 : ax_code 275 37 = some (.lreturn, 38) := by decide +kernel
theorem c_275_38 : ax_code 275 38 = some (.aload 0, 39) := by decide +kernel
theorem c_275_39 : ax_code 275 39 = some (.iload 1, 40) := by decide +kernel
theorem c_275_40 : ax_code 275 40 = some (.iload 2, 41) := by decide +kernel
theorem c_275_41 : ax_code 275 41 = some (.invokevirtual 273, 44) := by decide +kernel
theorem c_275_44 : ax_code 275 44 = some (.istore 4, 46) := by decide +kernel
theorem c_275_46 : ax_code 275 46 = some (.lconst 1, 47) := by decide +kernel
theorem c_275_47 : ax_code 275 47 = some (.lstore 5, 49) := by decide +kernel
theorem c_275_49 : ax_code 275 49 = some (.iconst 0, 50) := by decide +kernel
theorem c_275_50 : ax_code 275 50 = some (.istore 7, 52) := by decide +kernel
theorem c_275_52 : ax_code 275 52 = some (.iload 7, 54) := by decide +kernel
theorem c_275_54 : ax_code 275 54 = some (.iload 4, 56) := by decide +kernel
theorem c_275_56 : ax_code 275 56 = some (.if_icmp .ge 72, 59) := by decide +kernel
theorem c_275_59 : ax_code 275 59 = some (.lload 5, 61) := by decide +kernel
theorem c_275_61 : ax_code 275 61 = some (.iload 3, 62) := by decide +kernel
theorem c_275_62 : ax_code 275 62 = some (.i2l, 63) := by decide +kernel
theorem c_275_63 : ax_code 275 63 = some (.lmul, 64) := by decide +kernel
theorem c_275_64 : ax_code 275 64 = some (.lstore 5, 66) := by decide +kernel
theorem c_275_66 : ax_code 275 66 = some (.iinc 7 (1), 69) := by decide +kernel
theorem c_275_69 : ax_code 275 69 = some (.goto 52, 72) := by decide +kernel
theorem c_275_72 : ax_code 275 72 = some (.iload 4, 74) := by decide +kernel
theorem c_275_74 : ax_code 275 74 = some (.iconst (-1000000), 76) := by decide +kernel
theorem c_275_76 : ax_code 275 76 = some (.if_icmp .ne 85, 79) := by decide +kernel
theorem c_275_79 : ax_code 275 79 = some (.ldc2_w 5, 82) := by decide +kernel
theorem c_275_82 : ax_code 275 82 = some (.goto 87, 85) := by decide +kernel
theorem c_275_85 : ax_code 275 85 = some (.lload 5, 87) := by decide +kernel
theorem c_275_87 : ax_code 275 87 = some (.lreturn, 88) := by decide +kernel
theorem c_276_0 : ax_code 276 0 = some (.aload 0, 1) := by decide +kernel
theorem c_276_1 : ax_code 276 1 = some (.iconst 0, 2) := by decide +kernel
theorem c_276_2 : ax_code 276 2 = some (.putfield 704, 5) := by decide +kernel
theorem c_276_5 : ax_code 276 5 = some (.aload 0, 6) := by decide +kernel
theorem c_276_6 : ax_code 276 6 = some (.iload 1, 7) := by decide +kernel
theorem c_276_7 : ax_code 276 7 = some (.invokevirtual 231, 10) := by decide +kernel
theorem c_276_10 : ax_code 276 10 = some (.ifCond .eq 71, 13) := by decide +kernel
theorem c_276_13 : ax_code 276 13 = some (.aload 0, 14) := by decide +kernel
theorem c_276_14 : ax_code 276 14 = some (.iload 2, 15) := by decide +kernel
theorem c_276_15 : ax_code 276 15 = some (.invokevirtual 231, 18) := by decide +kernel
theorem c_276_18 : ax_code 276 18 = some (.ifCond .eq 71, 21) := by decide +kernel
theorem c_276_21 : ax_code 276 21 = some (.aload 0, 22) := by decide +kernel
theorem c_276_22 : ax_code 276 22 = some (.iload 3, 23) := by decide +kernel
theorem c_276_23 : ax_code 276 23 = some (.invokevirtual 231, 26) := by decide +kernel
theorem c_276_26 : ax_code 276 26 = some (.ifCond .eq 71, 29) := by decide +kernel
theorem c_276_29 : ax_code 276 29 = some (.aload 0, 30) := by decide +kernel
theorem c_276_30 : ax_code 276 30 = some (.iload 4, 32) := by decide +kernel
theorem c_276_32 : ax_code 276 32 = some (.invokevirtual 231, 35) := by decide +kernel
theorem c_276_35 : ax_code 276 35 = some (.ifCond .eq 71, 38) := by decide +kernel
theorem c_276_38 : ax_code 276 38 = some (.iload 1, 39) := by decide +kernel
theorem c_276_39 : ax_code 276 39 = some (.iload 2, 40) := by decide +kernel
theorem c_276_40 : ax_code 276 40 = some (.if_icmp .eq 71, 43) := by decide +kernel
theorem c_276_43 : ax_code 276 43 = some (.iload 1, 44) := by decide +kernel
theorem c_276_44 : ax_code 276 44 = some (.iload 3, 45) := by decide +kernel
theorem c_276_45 : ax_code 276 45 = some (.if_icmp .eq 71, 48) := by decide +kernel
theorem c_276_48 : ax_code 276 48 = some (.iload 1, 49) := by decide +kernel
theorem c_276_49 : ax_code 276 49 = some (.iload 4, 51) := by decide +kernel
theorem c_276_51 : ax_code 276 51 = some (.if_icmp .eq 71, 54) := by decide +kernel
theorem c_276_54 : ax_code 276 54 = some (.iload 2, 55) := by decide +kernel
theorem c_276_55 : ax_code 276 55 = some (.iload 3, 56) := by decide +kernel
theorem c_276_56 : ax_code 276 56 = some (.if_icmp .eq 71, 59) := by decide +kernel
theorem c_276_59 : ax_code 276 59 = some (.iload 2, 60) := by decide +kernel
theorem c_276_60 : ax_code 276 60 = some (.iload 4, 62) := by decide +kernel
theorem c_276_62 : ax_code 276 62 = some (.if_icmp .eq 71, 65) := by decide +kernel
theorem c_276_65 : ax_code 276 65 = some (.iload 3, 66) := by decide +kernel
theorem c_276_66 : ax_code 276 66 = some (.iload 4, 68) := by decide +kernel
theorem c_276_68 : ax_code 276 68 = some (.if_icmp .ne 75, 71) := by decide +kernel
theorem c_276_71 : ax_code 276 71 = some (.ldc2_w 0, 74) := by decide +kernel
theorem c_276_74 : ax_code 276 74 = some (.lreturn, 75) := by decide +kernel
theorem c_276_75 : ax_code 276 75 = some (.iconst 0, 76) := by decide +kernel
theorem c_276_76 : ax_code 276 76 = some (.istore 5, 78) := by decide +kernel
theorem c_276_78 : ax_code 276 78 = some (.iconst 0, 79) := by decide +kernel
theorem c_276_79 : ax_code 276 79 = some (.istore 6, 81) := by decide +kernel
theorem c_276_81 : ax_code 276 81 = some (.iload 6, 83) := by decide +kernel
theorem c_276_83 : ax_code 276 83 = some (.iconst 11, 85) := by decide +kernel
theorem c_276_85 : ax_code 276 85 = some (.if_icmp .ge 203, 88) := by decide +kernel
theorem c_276_88 : ax_code 276 88 = some (.aload 0, 89) := by decide +kernel
theorem c_276_89 : ax_code 276 89 = some (.iload 2, 90) := by decide +kernel
theorem c_276_90 : ax_code 276 90 = some (.iload 3, 91) := by decide +kernel
theorem c_276_91 : ax_code 276 91 = some (.iload 6, 93) := by decide +kernel
theorem c_276_93 : ax_code 276 93 = some (.invokevirtual 256, 96) := by decide +kernel
theorem c_276_96 : ax_code 276 96 = some (.ifCond .ne 111, 99) := by decide +kernel
theorem c_276_99 : ax_code 276 99 = some (.aload 0, 100) := by decide +kernel
theorem c_276_100 : ax_code 276 100 = some (.iload 2, 101) := by decide +kernel
theorem c_276_101 : ax_code 276 101 = some (.iload 4, 103) := by decide +kernel
theorem c_276_103 : ax_code 276 103 = some (.iload 6, 105) := by decide +kernel
theorem c_276_105 : ax_code 276 105 = some (.invokevirtual 256, 108) := by decide +kernel
theorem c_276_108 : ax_code 276 108 = some (.ifCond .eq 115, 111) := by decide +kernel
theorem c_276_111 : ax_code 276 111 = some (.iload 2, 112) := by decide +kernel
theorem c_276_112 : ax_code 276 112 = some (.goto 133, 115) := by decide +kernel
theorem c_276_115 : ax_code 276 115 = some (.aload 0, 116) := by decide +kernel
theorem c_276_116 : ax_code 276 116 = some (.iload 3, 117) := by decide +kernel
theorem c_276_117 : ax_code 276 117 = some (.iload 4, 119) := by decide +kernel
theorem c_276_119 : ax_code 276 119 = some (.iload 6, 121) := by decide +kernel
theorem c_276_121 : ax_code 276 121 = some (.invokevirtual 256, 124) := by decide +kernel
theorem c_276_124 : ax_code 276 124 = some (.ifCond .eq 131, 127) := by decide +kernel
theorem c_276_127 : ax_code 276 127 = some (.iload 3, 128) := by decide +kernel
theorem c_276_128 : ax_code 276 128 = some (.goto 133, 131) := by decide +kernel
theorem c_276_131 : ax_code 276 131 = some (.iconst (-1000000), 133) := by decide +kernel
theorem c_276_133 : ax_code 276 133 = some (.istore 7, 135) := by decide +kernel
theorem c_276_135 : ax_code 276 135 = some (.aload 0, 136) := by decide +kernel
theorem c_276_136 : ax_code 276 136 = some (.iload 1, 137) := by decide +kernel
theorem c_276_137 : ax_code 276 137 = some (.iload 6, 139) := by decide +kernel
theorem c_276_139 : ax_code 276 139 = some (.invokevirtual 234, 142) := by decide +kernel
theorem c_276_142 : ax_code 276 142 = some (.ifCond .ne 197, 145) := by decide +kernel
theorem c_276_145 : ax_code 276 145 = some (.iload 7, 147) := by decide +kernel
theorem c_276_147 : ax_code 276 147 = some (.iconst (-1000000), 149) := by decide +kernel
theorem c_276_149 : ax_code 276 149 = some (.if_icmp .eq 197, 152) := by decide +kernel
theorem c_276_152 : ax_code 276 152 = some (.aload 0, 153) := by decide +kernel
theorem c_276_153 : ax_code 276 153 = some (.getfield 712, 156) := by decide +kernel
theorem c_276_156 : ax_code 276 156 = some (.iconst 15, 158) := by decide +kernel
theorem c_276_158 : ax_code 276 158 = some (.iload 1, 159) := by decide +kernel
theorem c_276_159 : ax_code 276 159 = some (.imul, 160) := by decide +kernel
theorem c_276_160 : ax_code 276 160 = some (.iconst 4, 161) := by decide +kernel
theorem c_276_161 : ax_code 276 161 = some (.iadd, 162) := by decide +kernel
theorem c_276_162 : ax_code 276 162 = some (.dup2, 163) := by decide +kernel
theorem c_276_163 : ax_code 276 163 = some (.iaload, 164) := by decide +kernel
theorem c_276_164 : ax_code 276 164 = some (.iconst 1, 165) := by decide +kernel
theorem c_276_165 : ax_code 276 165 = some (.iload 6, 167) := by decide +kernel
theorem c_276_167 : ax_code 276 167 = some (.ishl, 168) := by decide +kernel
theorem c_276_168 : ax_code 276 168 = some (.iconst (-1), 169) := by decide +kernel
theorem c_276_169 : ax_code 276 169 = some (.ixor, 170) := by decide +kernel
theorem c_276_170 : ax_code 276 170 = some (.iand, 171) := by decide +kernel
theorem c_276_171 : ax_code 276 171 = some (.iastore, 172) := by decide +kernel
theorem c_276_172 : ax_code 276 172 = some (.aload 0, 173) := by decide +kernel
theorem c_276_173 : ax_code 276 173 = some (.getfield 712, 176) := by decide +kernel
theorem c_276_176 : ax_code 276 176 = some (.iconst 15, 178) := by decide +kernel
theorem c_276_178 : ax_code 276 178 = some (.iload 1, 179) := by decide +kernel
theorem c_276_179 : ax_code 276 179 = some (.imul, 180) := by decide +kernel
theorem c_276_180 : ax_code 276 180 = some (.iconst 5, 181) := by decide +kernel
theorem c_276_181 : ax_code 276 181 = some (.iadd, 182) := by decide +kernel
theorem c_276_182 : ax_code 276 182 = some (.iload 6, 184) := by decide +kernel
theorem c_276_184 : ax_code 276 184 = some (.iadd, 185) := by decide +kernel
theorem c_276_185 : ax_code 276 185 = some (.aload 0, 186) := by decide +kernel
theorem c_276_186 : ax_code 276 186 = some (.iload 7, 188) := by decide +kernel
theorem c_276_188 : ax_code 276 188 = some (.iload 6, 190) := by decide +kernel
theorem c_276_190 : ax_code 276 190 = some (.invokevirtual 235, 193) := by decide +kernel
theorem c_276_193 : ax_code 276 193 = some (.iastore, 194) := by decide +kernel
theorem c_276_194 : ax_code 276 194 = some (.iinc 5 (1), 197) := by decide +kernel
theorem c_276_197 : ax_code 276 197 = some (.iinc 6 (1), 200) := by decide +kernel
theorem c_276_200 : ax_code 276 200 = some (.goto 81, 203) := by decide +kernel
theorem c_276_203 : ax_code 276 203 = some (.iload 5, 205) := by decide +kernel
theorem c_276_205 : ax_code 276 205 = some (.i2l, 206) := by decide +kernel
theorem c_276_206 : ax_code 276 206 = some (.lreturn, 207) := by decide +kernel
theorem c_277_0 : ax_code 277 0 = some (.aload 0, 1) := by decide +kernel
theorem c_277_1 : ax_code 277 1 = some (.iconst 0, 2) := by decide +kernel
theorem c_277_2 : ax_code 277 2 = some (.putfield 704, 5) := by decide +kernel
theorem c_277_5 : ax_code 277 5 = some (.iload 1, 6) := by decide +kernel
theorem c_277_6 : ax_code 277 6 = some (.i2l, 7) := by decide +kernel
theorem c_277_7 : ax_code 277 7 = some (.lconst 0, 8) := by decide +kernel
theorem c_277_8 : ax_code 277 8 = some (.ldc2_w 21, 11) := by decide +kernel
theorem c_277_11 : ax_code 277 11 = some (.invokestatic 198, 14) := by decide +kernel
theorem c_277_14 : ax_code 277 14 = some (.ifCond .ne 21, 17) := by decide +kernel
theorem c_277_17 : ax_code 277 17 = some (.ldc2_w 0, 20) := by decide +kernel
theorem c_277_20 : ax_code 277 20 = some (.lreturn, 21) := by decide +kernel
theorem c_277_21 : ax_code 277 21 = some (.aload 0, 22) := by decide +kernel
theorem c_277_22 : ax_code 277 22 = some (.getfield 712, 25) := by decide +kernel
theorem c_277_25 : ax_code 277 25 = some (.iconst 0, 26) := by decide +kernel
theorem c_277_26 : ax_code 277 26 = some (.iaload, 27) := by decide +kernel
theorem c_277_27 : ax_code 277 27 = some (.ifCond .ne 34, 30) := by decide +kernel
theorem c_277_30 : ax_code 277 30 = some (.ldc2_w 4, 33) := by decide +kernel
theorem c_277_33 : ax_code 277 33 = some (.lreturn, 34) := by decide +kernel
theorem c_277_34 : ax_code 277 34 = some (.iconst 0, 35) := by decide +kernel
theorem c_277_35 : ax_code 277 35 = some (.istore 2, 36) := by decide +kernel
theorem c_277_36 : ax_code 277 36 = some (.iload 2, 37) := by decide +kernel
theorem c_277_37 : ax_code 277 37 = some (.aload 0, 38) := by decide +kernel
theorem c_277_38 : ax_code 277 38 = some (.getfield 712, 41) := by decide +kernel
theorem c_277_41 : ax_code 277 41 = some (.iconst 0, 42) := by decide +kernel
theorem c_277_42 : ax_code 277 42 = some (.iaload, 43) := by decide +kernel
theorem c_277_43 : ax_code 277 43 = some (.if_icmp .ge 105, 46) := by decide +kernel
theorem c_277_46 : ax_code 277 46 = some (.aload 0, 47) := by decide +kernel
theorem c_277_47 : ax_code 277 47 = some (.getfield 742, 50) := by decide +kernel
theorem c_277_50 : ax_code 277 50 = some (.iload 2, 51) := by decide +kernel
theorem c_277_51 : ax_code 277 51 = some (.iconst 1, 52) := by decide +kernel
theorem c_277_52 : ax_code 277 52 = some (.iload 2, 53) := by decide +kernel
theorem c_277_53 : ax_code 277 53 = some (.ishl, 54) := by decide +kernel
theorem c_277_54 : ax_code 277 54 = some (.iastore, 55) := by decide +kernel
theorem c_277_55 : ax_code 277 55 = some (.iconst 0, 56) := by decide +kernel
theorem c_277_56 : ax_code 277 56 = some (.istore 3, 57) := by decide +kernel
theorem c_277_57 : ax_code 277 57 = some (.iload 3, 58) := by decide +kernel
theorem c_277_58 : ax_code 277 58 = some (.aload 0, 59) := by decide +kernel
theorem c_277_59 : ax_code 277 59 = some (.getfield 712, 62) := by decide +kernel
theorem c_277_62 : ax_code 277 62 = some (.iconst 0, 63) := by decide +kernel
theorem c_277_63 : ax_code 277 63 = some (.iaload, 64) := by decide +kernel
theorem c_277_64 : ax_code 277 64 = some (.if_icmp .ge 99, 67) := by decide +kernel
theorem c_277_67 : ax_code 277 67 = some (.aload 0, 68) := by decide +kernel
theorem c_277_68 : ax_code 277 68 = some (.getfield 742, 71) := by decide +kernel
theorem c_277_71 : ax_code 277 71 = some (.iload 2, 72) := by decide +kernel
theorem c_277_72 : ax_code 277 72 = some (.dup2, 73) := by decide +kernel
theorem c_277_73 : ax_code 277 73 = some (.iaload, 74) := by decide +kernel
theorem c_277_74 : ax_code 277 74 = some (.aload 0, 75) := by decide +kernel
theorem c_277_75 : ax_code 277 75 = some (.iload 2, 76) := by decide +kernel
theorem c_277_76 : ax_code 277 76 = some (.iload 3, 77) := by decide +kernel
theorem c_277_77 : ax_code 277 77 = some (.invokevirtual 244, 80) := by decide +kernel
theorem c_277_80 : ax_code 277 80 = some (.iload 1, 81) := by decide +kernel
theorem c_277_81 : ax_code 277 81 = some (.if_icmp .gt 90, 84) := by decide +kernel
theorem c_277_84 : ax_code 277 84 = some (.iconst 1, 85) := by decide +kernel
theorem c_277_85 : ax_code 277 85 = some (.iload 3, 86) := by decide +kernel
theorem c_277_86 : ax_code 277 86 = some (.ishl, 87) := by decide +kernel
theorem c_277_87 : ax_code 277 87 = some (.goto 91, 90) := by decide +kernel
theorem c_277_90 : ax_code 277 90 = some (.iconst 0, 91) := by decide +kernel
theorem c_277_91 : ax_code 277 91 = some (.ior, 92) := by decide +kernel
theorem c_277_92 : ax_code 277 92 = some (.iastore, 93) := by decide +kernel
theorem c_277_93 : ax_code 277 93 = some (.iinc 3 (1), 96) := by decide +kernel
theorem c_277_96 : ax_code 277 96 = some (.goto 57, 99) := by decide +kernel
theorem c_277_99 : ax_code 277 99 = some (.iinc 2 (1), 102) := by decide +kernel
theorem c_277_102 : ax_code 277 102 = some (.goto 36, 105) := by decide +kernel
theorem c_277_105 : ax_code 277 105 = some (.iconst 1, 106) := by decide +kernel
theorem c_277_106 : ax_code 277 106 = some (.aload 0, 107) := by decide +kernel
theorem c_277_107 : ax_code 277 107 = some (.getfield 712, 110) := by decide +kernel
theorem c_277_110 : ax_code 277 110 = some (.iconst 0, 111) := by decide +kernel
theorem c_277_111 : ax_code 277 111 = some (.iaload, 112) := by decide +kernel
theorem c_277_112 : ax_code 277 112 = some (.ishl, 113) := by decide +kernel
theorem c_277_113 : ax_code 277 113 = some (.iconst 1, 114) := by decide +kernel
theorem c_277_114 : ax_code 277 114 = some (.isub, 115) := by decide +kernel
theorem c_277_115 : ax_code 277 115 = some (.istore 2, 116) := by decide +kernel
theorem c_277_116 : ax_code 277 116 = some (.iload 2, 117) := by decide +kernel
theorem c_277_117 : ax_code 277 117 = some (.istore 3, 118) := by decide +kernel
theorem c_277_118 : ax_code 277 118 = some (.iconst 1, 119) := by decide +kernel
theorem c_277_119 : ax_code 277 119 = some (.istore 4, 121) := by decide +kernel
theorem c_277_121 : ax_code 277 121 = some (.iload 4, 123) := by decide +kernel
theorem c_277_123 : ax_code 277 123 = some (.iload 2, 124) := by decide +kernel
theorem c_277_124 : ax_code 277 124 = some (.if_icmp .ge 208, 127) := by decide +kernel
theorem c_277_127 : ax_code 277 127 = some (.iconst 0, 128) := by decide +kernel
theorem c_277_128 : ax_code 277 128 = some (.istore 5, 130) := by decide +kernel
theorem c_277_130 : ax_code 277 130 = some (.iconst 0, 131) := by decide +kernel
theorem c_277_131 : ax_code 277 131 = some (.istore 6, 133) := by decide +kernel
theorem c_277_133 : ax_code 277 133 = some (.iload 6, 135) := by decide +kernel
theorem c_277_135 : ax_code 277 135 = some (.aload 0, 136) := by decide +kernel
theorem c_277_136 : ax_code 277 136 = some (.getfield 712, 139) := by decide +kernel
theorem c_277_139 : ax_code 277 139 = some (.iconst 0, 140) := by decide +kernel
theorem c_277_140 : ax_code 277 140 = some (.iaload, 141) := by decide +kernel
theorem c_277_141 : ax_code 277 141 = some (.if_icmp .ge 177, 144) := by decide +kernel
theorem c_277_144 : ax_code 277 144 = some (.iload 5, 146) := by decide +kernel
theorem c_277_146 : ax_code 277 146 = some (.iload 4, 148) := by decide +kernel
theorem c_277_148 : ax_code 277 148 = some (.iload 6, 150) := by decide +kernel
theorem c_277_150 : ax_code 277 150 = some (.ishr, 151) := by decide +kernel
theorem c_277_151 : ax_code 277 151 = some (.iconst 1, 152) := by decide +kernel
theorem c_277_152 : ax_code 277 152 = some (.iand, 153) := by decide +kernel
theorem c_277_153 : ax_code 277 153 = some (.iconst 1, 154) := by decide +kernel
theorem c_277_154 : ax_code 277 154 = some (.if_icmp .ne 167, 157) := by decide +kernel
theorem c_277_157 : ax_code 277 157 = some (.aload 0, 158) := by decide +kernel
theorem c_277_158 : ax_code 277 158 = some (.getfield 742, 161) := by decide +kernel
theorem c_277_161 : ax_code 277 161 = some (.iload 6, 163) := by decide +kernel
theorem c_277_163 : ax_code 277 163 = some (.iaload, 164) := by decide +kernel
theorem c_277_164 : ax_code 277 164 = some (.goto 168, 167) := by decide +kernel
theorem c_277_167 : ax_code 277 167 = some (.iconst 0, 168) := by decide +kernel
theorem c_277_168 : ax_code 277 168 = some (.ior, 169) := by decide +kernel
theorem c_277_169 : ax_code 277 169 = some (.istore 5, 171) := by decide +kernel
theorem c_277_171 : ax_code 277 171 = some (.iinc 6 (1), 174) := by decide +kernel
theorem c_277_174 : ax_code 277 174 = some (.goto 133, 177) := by decide +kernel
theorem c_277_177 : ax_code 277 177 = some (.iload 5, 179) := by decide +kernel
theorem c_277_179 : ax_code 277 179 = some (.iload 2, 180) := by decide +kernel
theorem c_277_180 : ax_code 277 180 = some (.if_icmp .ne 200, 183) := by decide +kernel
theorem c_277_183 : ax_code 277 183 = some (.iload 4, 185) := by decide +kernel
theorem c_277_185 : ax_code 277 185 = some (.invokestatic 240, 188) := by decide +kernel
theorem c_277_188 : ax_code 277 188 = some (.iload 3, 189) := by decide +kernel
theorem c_277_189 : ax_code 277 189 = some (.invokestatic 240, 192) := by decide +kernel
theorem c_277_192 : ax_code 277 192 = some (.if_icmp .ge 200, 195) := by decide +kernel
theorem c_277_195 : ax_code 277 195 = some (.iload 4, 197) := by decide +kernel
theorem c_277_197 : ax_code 277 197 = some (.goto 201, 200) := by decide +kernel
theorem c_277_200 : ax_code 277 200 = some (.iload 3, 201) := by decide +kernel
theorem c_277_201 : ax_code 277 201 = some (.istore 3, 202) := by decide +kernel
theorem c_277_202 : ax_code 277 202 = some (.iinc 4 (1), 205) := by decide +kernel
theorem c_277_205 : ax_code 277 205 = some (.goto 121, 208) := by decide +kernel
theorem c_277_208 : ax_code 277 208 = some (.iload 3, 209) := by decide +kernel
theorem c_277_209 : ax_code 277 209 = some (.i2l, 210) := by decide +kernel
theorem c_277_210 : ax_code 277 210 = some (.lreturn, 211) := by decide +kernel
theorem c_278_0 : ax_code 278 0 = some (.aload 0, 1) := by decide +kernel
theorem c_278_1 : ax_code 278 1 = some (.iconst 0, 2) := by decide +kernel
theorem c_278_2 : ax_code 278 2 = some (.putfield 704, 5) := by decide +kernel
theorem c_278_5 : ax_code 278 5 = some (.iload 1, 6) := by decide +kernel
theorem c_278_6 : ax_code 278 6 = some (.i2l, 7) := by decide +kernel
theorem c_278_7 : ax_code 278 7 = some (.lconst 0, 8) := by decide +kernel
theorem c_278_8 : ax_code 278 8 = some (.lconst 1, 9) := by decide +kernel
theorem c_278_9 : ax_code 278 9 = some (.invokestatic 198, 12) := by decide +kernel
theorem c_278_12 : ax_code 278 12 = some (.ifCond .ne 19, 15) := by decide +kernel
theorem c_278_15 : ax_code 278 15 = some (.ldc2_w 0, 18) := by decide +kernel
theorem c_278_18 : ax_code 278 18 = some (.lreturn, 19) := by decide +kernel
theorem c_278_19 : ax_code 278 19 = some (.aload 0, 20) := by decide +kernel
theorem c_278_20 : ax_code 278 20 = some (.getfield 711, 23) := by decide +kernel
theorem c_278_23 : ax_code 278 23 = some (.ifCond .ne 30, 26) := by decide +kernel
theorem c_278_26 : ax_code 278 26 = some (.ldc2_w 4, 29) := by decide +kernel
theorem c_278_29 : ax_code 278 29 = some (.lreturn, 30) := by decide +kernel
theorem c_278_30 : ax_code 278 30 = some (.iconst 0, 31) := by decide +kernel
theorem c_278_31 : ax_code 278 31 = some (.istore 2, 32) := by decide +kernel
theorem c_278_32 : ax_code 278 32 = some (.iload 2, 33) := by decide +kernel
theorem c_278_33 : ax_code 278 33 = some (.iconst 102, 35) := by decide +kernel
theorem c_278_35 : ax_code 278 35 = some (.if_icmp .ge 61, 38) := by decide +kernel
theorem c_278_38 : ax_code 278 38 = some (.aload 0, 39) := by decide +kernel
theorem c_278_39 : ax_code 278 39 = some (.getfield 744, 42) := by decide +kernel
theorem c_278_42 : ax_code 278 42 = some (.iconst 102, 44) := by decide +kernel
theorem c_278_44 : ax_code 278 44 = some (.iload 1, 45) := by decide +kernel
theorem c_278_45 : ax_code 278 45 = some (.imul, 46) := by decide +kernel
theorem c_278_46 : ax_code 278 46 = some (.iload 2, 47) := by decide +kernel
theorem c_278_47 : ax_code 278 47 = some (.iadd, 48) := by decide +kernel
theorem c_278_48 : ax_code 278 48 = some (.aload 0, 49) := by decide +kernel
theorem c_278_49 : ax_code 278 49 = some (.getfield 709, 52) := by decide +kernel
theorem c_278_52 : ax_code 278 52 = some (.iload 2, 53) := by decide +kernel
theorem c_278_53 : ax_code 278 53 = some (.iaload, 54) := by decide +kernel
theorem c_278_54 : ax_code 278 54 = some (.iastore, 55) := by decide +kernel
theorem c_278_55 : ax_code 278 55 = some (.iinc 2 (1), 58) := by decide +kernel
theorem c_278_58 : ax_code 278 58 = some (.goto 32, 61) := by decide +kernel
theorem c_278_61 : ax_code 278 61 = some (.iconst 0, 62) := by decide +kernel
theorem c_278_62 : ax_code 278 62 = some (.istore 2, 63) := by decide +kernel
theorem c_278_63 : ax_code 278 63 = some (.iload 2, 64) := by decide +kernel
theorem c_278_64 : ax_code 278 64 = some (.iconst 181, 67) := by decide +kernel
theorem c_278_67 : ax_code 278 67 = some (.if_icmp .ge 94, 70) := by decide +kernel
theorem c_278_70 : ax_code 278 70 = some (.aload 0, 71) := by decide +kernel
theorem c_278_71 : ax_code 278 71 = some (.getfield 745, 74) := by decide +kernel
theorem c_278_74 : ax_code 278 74 = some (.iconst 181, 77) := by decide +kernel
theorem c_278_77 : ax_code 278 77 = some (.iload 1, 78) := by decide +kernel
theorem c_278_78 : ax_code 278 78 = some (.imul, 79) := by decide +kernel
theorem c_278_79 : ax_code 278 79 = some (.iload 2, 80) := by decide +kernel
theorem c_278_80 : ax_code 278 80 = some (.iadd, 81) := by decide +kernel
theorem c_278_81 : ax_code 278 81 = some (.aload 0, 82) := by decide +kernel
theorem c_278_82 : ax_code 278 82 = some (.getfield 712, 85) := by decide +kernel
theorem c_278_85 : ax_code 278 85 = some (.iload 2, 86) := by decide +kernel
theorem c_278_86 : ax_code 278 86 = some (.iaload, 87) := by decide +kernel
theorem c_278_87 : ax_code 278 87 = some (.iastore, 88) := by decide +kernel
theorem c_278_88 : ax_code 278 88 = some (.iinc 2 (1), 91) := by decide +kernel
theorem c_278_91 : ax_code 278 91 = some (.goto 63, 94) := by decide +kernel
theorem c_278_94 : ax_code 278 94 = some (.aload 0, 95) := by decide +kernel
theorem c_278_95 : ax_code 278 95 = some (.getfield 743, 98) := by decide +kernel
theorem c_278_98 : ax_code 278 98 = some (.iload 1, 99) := by decide +kernel
theorem c_278_99 : ax_code 278 99 = some (.iconst 1, 100) := by decide +kernel
theorem c_278_100 : ax_code 278 100 = some (.bastore, 101) := by decide +kernel
theorem c_278_101 : ax_code 278 101 = some (.lconst 1, 102) := by decide +kernel
theorem c_278_102 : ax_code 278 102 = some (.lreturn, 103) := by decide +kernel
theorem c_279_0 : ax_code 279 0 = some (.aload 0, 1) := by decide +kernel
theorem c_279_1 : ax_code 279 1 = some (.iconst 0, 2) := by decide +kernel
theorem c_279_2 : ax_code 279 2 = some (.putfield 704, 5) := by decide +kernel
theorem c_279_5 : ax_code 279 5 = some (.iload 1, 6) := by decide +kernel
theorem c_279_6 : ax_code 279 6 = some (.i2l, 7) := by decide +kernel
theorem c_279_7 : ax_code 279 7 = some (.lconst 0, 8) := by decide +kernel
theorem c_279_8 : ax_code 279 8 = some (.lconst 1, 9) := by decide +kernel
theorem c_279_9 : ax_code 279 9 = some (.invokestatic 198, 12) := by decide +kernel
theorem c_279_12 : ax_code 279 12 = some (.ifCond .ne 19, 15) := by decide +kernel
theorem c_279_15 : ax_code 279 15 = some (.ldc2_w 0, 18) := by decide +kernel
theorem c_279_18 : ax_code 279 18 = some (.lreturn, 19) := by decide +kernel
theorem c_279_19 : ax_code 279 19 = some (.aload 0, 20) := by decide +kernel
theorem c_279_20 : ax_code 279 20 = some (.getfield 743, 23) := by decide +kernel
theorem c_279_23 : ax_code 279 23 = some (.iload 1, 24) := by decide +kernel
theorem c_279_24 : ax_code 279 24 = some (.baload, 25) := by decide +kernel
theorem c_279_25 : ax_code 279 25 = some (.ifCond .ne 32, 28) := by decide +kernel
theorem c_279_28 : ax_code 279 28 = some (.ldc2_w 4, 31) := by decide +kernel
theorem c_279_31 : ax_code 279 31 = some (.lreturn, 32) := by decide +kernel
theorem c_279_32 : ax_code 279 32 = some (.iconst 0, 33) := by decide +kernel
theorem c_279_33 : ax_code 279 33 = some (.istore 2, 34) := by decide +kernel
theorem c_279_34 : ax_code 279 34 = some (.iload 2, 35) := by decide +kernel
theorem c_279_35 : ax_code 279 35 = some (.iconst 102, 37) := by decide +kernel
theorem c_279_37 : ax_code 279 37 = some (.if_icmp .ge 63, 40) := by decide +kernel
theorem c_279_40 : ax_code 279 40 = some (.aload 0, 41) := by decide +kernel
theorem c_279_41 : ax_code 279 41 = some (.getfield 709, 44) := by decide +kernel
theorem c_279_44 : ax_code 279 44 = some (.iload 2, 45) := by decide +kernel
theorem c_279_45 : ax_code 279 45 = some (.aload 0, 46) := by decide +kernel
theorem c_279_46 : ax_code 279 46 = some (.getfield 744, 49) := by decide +kernel
theorem c_279_49 : ax_code 279 49 = some (.iconst 102, 51) := by decide +kernel
theorem c_279_51 : ax_code 279 51 = some (.iload 1, 52) := by decide +kernel
theorem c_279_52 : ax_code 279 52 = some (.imul, 53) := by decide +kernel
theorem c_279_53 : ax_code 279 53 = some (.iload 2, 54) := by decide +kernel
theorem c_279_54 : ax_code 279 54 = some (.iadd, 55) := by decide +kernel
theorem c_279_55 : ax_code 279 55 = some (.iaload, 56) := by decide +kernel
theorem c_279_56 : ax_code 279 56 = some (.iastore, 57) := by decide +kernel
theorem c_279_57 : ax_code 279 57 = some (.iinc 2 (1), 60) := by decide +kernel
theorem c_279_60 : ax_code 279 60 = some (.goto 34, 63) := by decide +kernel
theorem c_279_63 : ax_code 279 63 = some (.iconst 0, 64) := by decide +kernel
theorem c_279_64 : ax_code 279 64 = some (.istore 2, 65) := by decide +kernel
theorem c_279_65 : ax_code 279 65 = some (.iload 2, 66) := by decide +kernel
theorem c_279_66 : ax_code 279 66 = some (.iconst 181, 69) := by decide +kernel
theorem c_279_69 : ax_code 279 69 = some (.if_icmp .ge 96, 72) := by decide +kernel
theorem c_279_72 : ax_code 279 72 = some (.aload 0, 73) := by decide +kernel
theorem c_279_73 : ax_code 279 73 = some (.getfield 712, 76) := by decide +kernel
theorem c_279_76 : ax_code 279 76 = some (.iload 2, 77) := by decide +kernel
theorem c_279_77 : ax_code 279 77 = some (.aload 0, 78) := by decide +kernel
theorem c_279_78 : ax_code 279 78 = some (.getfield 745, 81) := by decide +kernel
theorem c_279_81 : ax_code 279 81 = some (.iconst 181, 84) := by decide +kernel
theorem c_279_84 : ax_code 279 84 = some (.iload 1, 85) := by decide +kernel
theorem c_279_85 : ax_code 279 85 = some (.imul, 86) := by decide +kernel
theorem c_279_86 : ax_code 279 86 = some (.iload 2, 87) := by decide +kernel
theorem c_279_87 : ax_code 279 87 = some (.iadd, 88) := by decide +kernel
theorem c_279_88 : ax_code 279 88 = some (.iaload, 89) := by decide +kernel
theorem c_279_89 : ax_code 279 89 = some (.iastore, 90) := by decide +kernel
theorem c_279_90 : ax_code 279 90 = some (.iinc 2 (1), 93) := by decide +kernel
theorem c_279_93 : ax_code 279 93 = some (.goto 65, 96) := by decide +kernel
theorem c_279_96 : ax_code 279 96 = some (.lconst 1, 97) := by decide +kernel
theorem c_279_97 : ax_code 279 97 = some (.lreturn, 98) := by decide +kernel
theorem c_280_0 : ax_code 280 0 = some (.aload 0, 1) := by decide +kernel
theorem c_280_1 : ax_code 280 1 = some (.iconst 0, 2) := by decide +kernel
theorem c_280_2 : ax_code 280 2 = some (.putfield 704, 5) := by decide +kernel
theorem c_280_5 : ax_code 280 5 = some (.aload 0, 6) := by decide +kernel
theorem c_280_6 : ax_code 280 6 = some (.iload 1, 7) := by decide +kernel
theorem c_280_7 : ax_code 280 7 = some (.invokevirtual 231, 10) := by decide +kernel
theorem c_280_10 : ax_code 280 10 = some (.ifCond .eq 22, 13) := by decide +kernel
theorem c_280_13 : ax_code 280 13 = some (.aload 0, 14) := by decide +kernel
theorem c_280_14 : ax_code 280 14 = some (.iload 1, 15) := by decide +kernel
theorem c_280_15 : ax_code 280 15 = some (.invokevirtual 281, 18) := by decide +kernel
theorem c_280_18 : ax_code 280 18 = some (.i2l, 19) := by decide +kernel
theorem c_280_19 : ax_code 280 19 = some (.goto 25, 22) := by decide +kernel
theorem c_280_22 : ax_code 280 22 = some (.ldc2_w 0, 25) := by decide +kernel
theorem c_280_25 : ax_code 280 25 = some (.lreturn, 26) := by decide +kernel
theorem c_281_0 : ax_code 281 0 = some (.aload 0, 1) := by decide +kernel
theorem c_281_1 : ax_code 281 1 = some (.iload 1, 2) := by decide +kernel
theorem c_281_2 : ax_code 281 2 = some (.iconst 4, 3) := by decide +kernel
theorem c_281_3 : ax_code 281 3 = some (.invokevirtual 232, 6) := by decide +kernel
theorem c_281_6 : ax_code 281 6 = some (.ifCond .ne 38, 9) := by decide +kernel
theorem c_281_9 : ax_code 281 9 = some (.aload 0, 10) := by decide +kernel
theorem c_281_10 : ax_code 281 10 = some (.iload 1, 11) := by decide +kernel
theorem c_281_11 : ax_code 281 11 = some (.iload 1, 12) := by decide +kernel
theorem c_281_12 : ax_code 281 12 = some (.iconst 0, 13) := by decide +kernel
theorem c_281_13 : ax_code 281 13 = some (.invokevirtual 249, 16) := by decide +kernel
theorem c_281_16 : ax_code 281 16 = some (.ifCond .eq 23, 19) := by decide +kernel
theorem c_281_19 : ax_code 281 19 = some (.iconst 3, 20) := by decide +kernel
theorem c_281_20 : ax_code 281 20 = some (.goto 37, 23) := by decide +kernel
theorem c_281_23 : ax_code 281 23 = some (.aload 0, 24) := by decide +kernel
theorem c_281_24 : ax_code 281 24 = some (.iload 1, 25) := by decide +kernel
theorem c_281_25 : ax_code 281 25 = some (.iconst 3, 26) := by decide +kernel
theorem c_281_26 : ax_code 281 26 = some (.invokevirtual 232, 29) := by decide +kernel
theorem c_281_29 : ax_code 281 29 = some (.ifCond .ge 36, 32) := by decide +kernel
theorem c_281_32 : ax_code 281 32 = some (.iconst 4, 33) := by decide +kernel
theorem c_281_33 : ax_code 281 33 = some (.goto 37, 36) := by decide +kernel
theorem c_281_36 : ax_code 281 36 = some (.iconst 1, 37) := by decide +kernel
theorem c_281_37 : ax_code 281 37 = some (.ireturn, 38) := by decide +kernel
theorem c_281_38 : ax_code 281 38 = some (.aload 0, 39) := by decide +kernel
theorem c_281_39 : ax_code 281 39 = some (.iload 1, 40) := by decide +kernel
theorem c_281_40 : ax_code 281 40 = some (.iconst 3, 41) := by decide +kernel
theorem c_281_41 : ax_code 281 41 = some (.invokevirtual 232, 44) := by decide +kernel
theorem c_281_44 : ax_code 281 44 = some (.istore 2, 45) := by decide +kernel
theorem c_281_45 : ax_code 281 45 = some (.iload 2, 46) := by decide +kernel
theorem c_281_46 : ax_code 281 46 = some (.ifCond .lt 63, 49) := by decide +kernel
theorem c_281_49 : ax_code 281 49 = some (.aload 0, 50) := by decide +kernel
theorem c_281_50 : ax_code 281 50 = some (.iload 1, 51) := by decide +kernel
theorem c_281_51 : ax_code 281 51 = some (.iload 2, 52) := by decide +kernel
theorem c_281_52 : ax_code 281 52 = some (.invokevirtual 244, 55) := by decide +kernel
theorem c_281_55 : ax_code 281 55 = some (.iconst 1, 56) := by decide +kernel
theorem c_281_56 : ax_code 281 56 = some (.if_icmp .le 63, 59) := by decide +kernel
theorem c_281_59 : ax_code 281 59 = some (.iconst 5, 60) := by decide +kernel
theorem c_281_60 : ax_code 281 60 = some (.goto 64, 63) := by decide +kernel
theorem c_281_63 : ax_code 281 63 = some (.iconst 2, 64) := by decide +kernel
theorem c_281_64 : ax_code 281 64 = some (.ireturn, 65) := by decide +kernel
theorem c_282_0 : ax_code 282 0 = some (.aload 0, 1) := by decide +kernel
theorem c_282_1 : ax_code 282 1 = some (.iconst 0, 2) := by decide +kernel
theorem c_282_2 : ax_code 282 2 = some (.putfield 704, 5) := by decide +kernel
theorem c_282_5 : ax_code 282 5 = some (.aload 0, 6) := by decide +kernel
theorem c_282_6 : ax_code 282 6 = some (.iload 1, 7) := by decide +kernel
theorem c_282_7 : ax_code 282 7 = some (.invokevirtual 231, 10) := by decide +kernel
theorem c_282_10 : ax_code 282 10 = some (.ifCond .eq 25, 13) := by decide +kernel
theorem c_282_13 : ax_code 282 13 = some (.iload 2, 14) := by decide +kernel
theorem c_282_14 : ax_code 282 14 = some (.i2l, 15) := by decide +kernel
theorem c_282_15 : ax_code 282 15 = some (.lconst 0, 16) := by decide +kernel
theorem c_282_16 : ax_code 282 16 = some (.ldc2_w 28, 19) := by decide +kernel
theorem c_282_19 : ax_code 282 19 = some (.invokestatic 198, 22) := by decide +kernel
theorem c_282_22 : ax_code 282 22 = some (.ifCond .ne 29, 25) := by decide +kernel
theorem c_282_25 : ax_code 282 25 = some (.ldc2_w 0, 28) := by decide +kernel
theorem c_282_28 : ax_code 282 28 = some (.lreturn, 29) := by decide +kernel
theorem c_282_29 : ax_code 282 29 = some (.aload 0, 30) := by decide +kernel
theorem c_282_30 : ax_code 282 30 = some (.iconst 0, 31) := by decide +kernel
theorem c_282_31 : ax_code 282 31 = some (.putfield 705, 34) := by decide +kernel
theorem c_282_34 : ax_code 282 34 = some (.aload 0, 35) := by decide +kernel
theorem c_282_35 : ax_code 282 35 = some (.iload 1, 36) := by decide +kernel
theorem c_282_36 : ax_code 282 36 = some (.invokevirtual 281, 39) := by decide +kernel
theorem c_282_39 : ax_code 282 39 = some (.iload 2, 40) := by decide +kernel
theorem c_282_40 : ax_code 282 40 = some (.invokestatic 283, 43) := by decide +kernel
theorem c_282_43 : ax_code 282 43 = some (.ifCond .eq 51, 46) := by decide +kernel
theorem c_282_46 : ax_code 282 46 = some (.iload 1, 47) := by decide +kernel
theorem c_282_47 : ax_code 282 47 = some (.i2l, 48) := by decide +kernel
theorem c_282_48 : ax_code 282 48 = some (.goto 56, 51) := by decide +kernel
theorem c_282_51 : ax_code 282 51 = some (.aload 0, 52) := by decide +kernel
theorem c_282_52 : ax_code 282 52 = some (.iconst 3, 53) := by decide +kernel
theorem c_282_53 : ax_code 282 53 = some (.invokevirtual 199, 56) := by decide +kernel
theorem c_282_56 : ax_code 282 56 = some (.lreturn, 57) := by decide +kernel
theorem c_283_0 : ax_code 283 0 = some (.iload 1, 1) := by decide +kernel
theorem c_283_1 : ax_code 283 1 = some (.ifCond .eq 34, 4) := by decide +kernel
theorem c_283_4 : ax_code 283 4 = some (.iload 0, 5) := by decide +kernel
theorem c_283_5 : ax_code 283 5 = some (.iload 1, 6) := by decide +kernel
theorem c_283_6 : ax_code 283 6 = some (.if_icmp .eq 34, 9) := by decide +kernel
theorem c_283_9 : ax_code 283 9 = some (.iload 1, 10) := by decide +kernel
theorem c_283_10 : ax_code 283 10 = some (.iconst 1, 11) := by decide +kernel
theorem c_283_11 : ax_code 283 11 = some (.if_icmp .ne 24, 14) := by decide +kernel
theorem c_283_14 : ax_code 283 14 = some (.iload 0, 15) := by decide +kernel
theorem c_283_15 : ax_code 283 15 = some (.iconst 3, 16) := by decide +kernel
theorem c_283_16 : ax_code 283 16 = some (.if_icmp .eq 34, 19) := by decide +kernel
theorem c_283_19 : ax_code 283 19 = some (.iload 0, 20) := by decide +kernel
theorem c_283_20 : ax_code 283 20 = some (.iconst 4, 21) := by decide +kernel
theorem c_283_21 : ax_code 283 21 = some (.if_icmp .eq 34, 24) := by decide +kernel
theorem c_283_24 : ax_code 283 24 = some (.iload 1, 25) := by decide +kernel
theorem c_283_25 : ax_code 283 25 = some (.iconst 2, 26) := by decide +kernel
theorem c_283_26 : ax_code 283 26 = some (.if_icmp .ne 38, 29) := by decide +kernel
theorem c_283_29 : ax_code 283 29 = some (.iload 0, 30) := by decide +kernel
theorem c_283_30 : ax_code 283 30 = some (.iconst 5, 31) := by decide +kernel
theorem c_283_31 : ax_code 283 31 = some (.if_icmp .ne 38, 34) := by decide +kernel
theorem c_283_34 : ax_code 283 34 = some (.iconst 1, 35) := by decide +kernel
theorem c_283_35 : ax_code 283 35 = some (.goto 39, 38) := by decide +kernel
theorem c_283_38 : ax_code 283 38 = some (.iconst 0, 39) := by decide +kernel
theorem c_283_39 : ax_code 283 39 = some (.ireturn, 40) := by decide +kernel
theorem c_284_0 : ax_code 284 0 = some (.aload 0, 1) := by decide +kernel
theorem c_284_1 : ax_code 284 1 = some (.iconst 0, 2) := by decide +kernel
theorem c_284_2 : ax_code 284 2 = some (.putfield 704, 5) := by decide +kernel
theorem c_284_5 : ax_code 284 5 = some (.aload 0, 6) := by decide +kernel
theorem c_284_6 : ax_code 284 6 = some (.iload 1, 7) := by decide +kernel
theorem c_284_7 : ax_code 284 7 = some (.invokevirtual 231, 10) := by decide +kernel
theorem c_284_10 : ax_code 284 10 = some (.ifCond .eq 23, 13) := by decide +kernel
theorem c_284_13 : ax_code 284 13 = some (.iload 2, 14) := by decide +kernel
theorem c_284_14 : ax_code 284 14 = some (.i2l, 15) := by decide +kernel
theorem c_284_15 : ax_code 284 15 = some (.lconst 0, 16) := by decide +kernel
theorem c_284_16 : ax_code 284 16 = some (.lconst 1, 17) := by decide +kernel
theorem c_284_17 : ax_code 284 17 = some (.invokestatic 198, 20) := by decide +kernel
theorem c_284_20 : ax_code 284 20 = some (.ifCond .ne 27, 23) := by decide +kernel
theorem c_284_23 : ax_code 284 23 = some (.ldc2_w 0, 26) := by decide +kernel
theorem c_284_26 : ax_code 284 26 = some (.lreturn, 27) := by decide +kernel
theorem c_284_27 : ax_code 284 27 = some (.aload 0, 28) := by decide +kernel
theorem c_284_28 : ax_code 284 28 = some (.iconst 0, 29) := by decide +kernel
theorem c_284_29 : ax_code 284 29 = some (.putfield 747, 32) := by decide +kernel
theorem c_284_32 : ax_code 284 32 = some (.iload 2, 33) := by decide +kernel
theorem c_284_33 : ax_code 284 33 = some (.ifCond .ne 50, 36) := by decide +kernel
theorem c_284_36 : ax_code 284 36 = some (.aload 0, 37) := by decide +kernel
theorem c_284_37 : ax_code 284 37 = some (.iload 1, 38) := by decide +kernel
theorem c_284_38 : ax_code 284 38 = some (.aload 0, 39) := by decide +kernel
theorem c_284_39 : ax_code 284 39 = some (.iload 1, 40) := by decide +kernel
theorem c_284_40 : ax_code 284 40 = some (.invokevirtual 281, 43) := by decide +kernel
theorem c_284_43 : ax_code 284 43 = some (.invokevirtual 285, 46) := by decide +kernel
theorem c_284_46 : ax_code 284 46 = some (.i2l, 47) := by decide +kernel
theorem c_284_47 : ax_code 284 47 = some (.goto 61, 50) := by decide +kernel
theorem c_284_50 : ax_code 284 50 = some (.aload 0, 51) := by decide +kernel
theorem c_284_51 : ax_code 284 51 = some (.iload 1, 52) := by decide +kernel
theorem c_284_52 : ax_code 284 52 = some (.aload 0, 53) := by decide +kernel
theorem c_284_53 : ax_code 284 53 = some (.iload 1, 54) := by decide +kernel
theorem c_284_54 : ax_code 284 54 = some (.invokevirtual 281, 57) := by decide +kernel
theorem c_284_57 : ax_code 284 57 = some (.invokevirtual 289, 60) := by decide +kernel
theorem c_284_60 : ax_code 284 60 = some (.i2l, 61) := by decide +kernel
theorem c_284_61 : ax_code 284 61 = some (.lreturn, 62) := by decide +kernel
theorem c_285_0 : ax_code 285 0 = some (.iload 2, 1) := by decide +kernel
theorem c_285_1 : ax_code 285 1 = some (.iconst 2, 2) := by decide +kernel
theorem c_285_2 : ax_code 285 2 = some (.invokestatic 283, 5) := by decide +kernel
theorem c_285_5 : ax_code 285 5 = some (.ifCond .eq 15, 8) := by decide +kernel
theorem c_285_8 : ax_code 285 8 = some (.aload 0, 9) := by decide +kernel
theorem c_285_9 : ax_code 285 9 = some (.iload 1, 10) := by decide +kernel
theorem c_285_10 : ax_code 285 10 = some (.iload 2, 11) := by decide +kernel
theorem c_285_11 : ax_code 285 11 = some (.invokevirtual 286, 14) := by decide +kernel
theorem c_285_14 : ax_code 285 14 = some (.ireturn, 15) := by decide +kernel
theorem c_285_15 : ax_code 285 15 = some (.iload 2, 16) := by decide +kernel
theorem c_285_16 : ax_code 285 16 = some (.iconst 3, 17) := by decide +kernel
theorem c_285_17 : ax_code 285 17 = some (.if_icmp .ne 26, 20) := by decide +kernel
theorem c_285_20 : ax_code 285 20 = some (.aload 0, 21) := by decide +kernel
theorem c_285_21 : ax_code 285 21 = some (.iconst 12, 23) := by decide +kernel
theorem c_285_23 : ax_code 285 23 = some (.invokevirtual 287, 26) := by decide +kernel
theorem c_285_26 : ax_code 285 26 = some (.aload 0, 27) := by decide +kernel
theorem c_285_27 : ax_code 285 27 = some (.iconst 11, 29) := by decide +kernel
theorem c_285_29 : ax_code 285 29 = some (.invokevirtual 287, 32) := by decide +kernel
theorem c_285_32 : ax_code 285 32 = some (.aload 0, 33) := by decide +kernel
theorem c_285_33 : ax_code 285 33 = some (.iconst 10, 35) := by decide +kernel
theorem c_285_35 : ax_code 285 35 = some (.invokevirtual 287, 38) := by decide +kernel
theorem c_285_38 : ax_code 285 38 = some (.aload 0, 39) := by decide +kernel
theorem c_285_39 : ax_code 285 39 = some (.iload 1, 40) := by decide +kernel
theorem c_285_40 : ax_code 285 40 = some (.invokevirtual 288, 43) := by decide +kernel
theorem c_285_43 : ax_code 285 43 = some (.aload 0, 44) := by decide +kernel
theorem c_285_44 : ax_code 285 44 = some (.iload 1, 45) := by decide +kernel
theorem c_285_45 : ax_code 285 45 = some (.iload 2, 46) := by decide +kernel
theorem c_285_46 : ax_code 285 46 = some (.invokevirtual 289, 49) := by decide +kernel
theorem c_285_49 : ax_code 285 49 = some (.iadd, 50) := by decide +kernel
theorem c_285_50 : ax_code 285 50 = some (.istore 3, 51) := by decide +kernel
theorem c_285_51 : ax_code 285 51 = some (.iload 2, 52) := by decide +kernel
theorem c_285_52 : ax_code 285 52 = some (.iconst 3, 53) := by decide +kernel
theorem c_285_53 : ax_code 285 53 = some (.if_icmp .ne 62, 56) := by decide +kernel
theorem c_285_56 : ax_code 285 56 = some (.iconst 2, 57) := by decide +kernel
theorem c_285_57 : ax_code 285 57 = some (.iload 3, 58) := by decide +kernel
theorem c_285_58 : ax_code 285 58 = some (.imul, 59) := by decide +kernel
theorem c_285_59 : ax_code 285 59 = some (.goto 63, 62) := by decide +kernel
theorem c_285_62 : ax_code 285 62 = some (.iload 3, 63) := by decide +kernel
theorem c_285_63 : ax_code 285 63 = some (.ireturn, 64) := by decide +kernel
theorem c_286_0 : ax_code 286 0 = some (.iload 2, 1) := by decide +kernel
theorem c_286_1 : ax_code 286 1 = some (.iconst 5, 2) := by decide +kernel
theorem c_286_2 : ax_code 286 2 = some (.if_icmp .ne 11, 5) := by decide +kernel
theorem c_286_5 : ax_code 286 5 = some (.aload 0, 6) := by decide +kernel
theorem c_286_6 : ax_code 286 6 = some (.iconst 14, 8) := by decide +kernel
theorem c_286_8 : ax_code 286 8 = some (.invokevirtual 287, 11) := by decide +kernel
theorem c_286_11 : ax_code 286 11 = some (.aload 0, 12) := by decide +kernel
theorem c_286_12 : ax_code 286 12 = some (.iconst 13, 14) := by decide +kernel
theorem c_286_14 : ax_code 286 14 = some (.invokevirtual 287, 17) := by decide +kernel
theorem c_286_17 : ax_code 286 17 = some (.aload 0, 18) := by decide +kernel
theorem c_286_18 : ax_code 286 18 = some (.iconst 10, 20) := by decide +kernel
theorem c_286_20 : ax_code 286 20 = some (.invokevirtual 287, 23) := by decide +kernel
theorem c_286_23 : ax_code 286 23 = some (.aload 0, 24) := by decide +kernel
theorem c_286_24 : ax_code 286 24 = some (.iload 1, 25) := by decide +kernel
theorem c_286_25 : ax_code 286 25 = some (.invokevirtual 288, 28) := by decide +kernel
theorem c_286_28 : ax_code 286 28 = some (.aload 0, 29) := by decide +kernel
theorem c_286_29 : ax_code 286 29 = some (.iload 1, 30) := by decide +kernel
theorem c_286_30 : ax_code 286 30 = some (.iconst 4, 31) := by decide +kernel
theorem c_286_31 : ax_code 286 31 = some (.invokevirtual 232, 34) := by decide +kernel
theorem c_286_34 : ax_code 286 34 = some (.invokestatic 240, 37) := by decide +kernel
theorem c_286_37 : ax_code 286 37 = some (.isub, 38) := by decide +kernel
theorem c_286_38 : ax_code 286 38 = some (.iload 2, 39) := by decide +kernel
theorem c_286_39 : ax_code 286 39 = some (.iconst 5, 40) := by decide +kernel
theorem c_286_40 : ax_code 286 40 = some (.if_icmp .ne 48, 43) := by decide +kernel
theorem c_286_43 : ax_code 286 43 = some (.iconst 100, 45) := by decide +kernel
theorem c_286_45 : ax_code 286 45 = some (.goto 49, 48) := by decide +kernel
theorem c_286_48 : ax_code 286 48 = some (.iconst 0, 49) := by decide +kernel
theorem c_286_49 : ax_code 286 49 = some (.iadd, 50) := by decide +kernel
theorem c_286_50 : ax_code 286 50 = some (.ireturn, 51) := by decide +kernel
theorem c_287_0 : ax_code 287 0 = some (.aload 0, 1) := by decide +kernel
theorem c_287_1 : ax_code 287 1 = some (.getfield 747, 4) := by decide +kernel
theorem c_287_4 : ax_code 287 4 = some (.iconst 16, 6) := by decide +kernel
theorem c_287_6 : ax_code 287 6 = some (.if_icmp .ge 29, 9) := by decide +kernel
theorem c_287_9 : ax_code 287 9 = some (.aload 0, 10) := by decide +kernel
theorem c_287_10 : ax_code 287 10 = some (.getfield 746, 13) := by decide +kernel
theorem c_287_13 : ax_code 287 13 = some (.aload 0, 14) := by decide +kernel
theorem c_287_14 : ax_code 287 14 = some (.getfield 747, 17) := by decide +kernel
theorem c_287_17 : ax_code 287 17 = some (.iload 1, 18) := by decide +kernel
theorem c_287_18 : ax_code 287 18 = some (.iastore, 19) := by decide +kernel
theorem c_287_19 : ax_code 287 19 = some (.aload 0, 20) := by decide +kernel
theorem c_287_20 : ax_code 287 20 = some (.dup, 21) := by decide +kernel
theorem c_287_21 : ax_code 287 21 = some (.getfield 747, 24) := by decide +kernel
theorem c_287_24 : ax_code 287 24 = some (.iconst 1, 25) := by decide +kernel
theorem c_287_25 : ax_code 287 25 = some (.iadd, 26) := by decide +kernel
theorem c_287_26 : ax_code 287 26 = some (.putfield 747, 29) := by decide +kernel
theorem c_287_29 : ax_code 287 29 = some (.return_, 30) := by decide +kernel
theorem c_288_0 : ax_code 288 0 = some (.iconst 0, 1) := by decide +kernel
theorem c_288_1 : ax_code 288 1 = some (.istore 2, 2) := by decide +kernel
theorem c_288_2 : ax_code 288 2 = some (.iconst 0, 3) := by decide +kernel
theorem c_288_3 : ax_code 288 3 = some (.istore 3, 4) := by decide +kernel
theorem c_288_4 : ax_code 288 4 = some (.iload 3, 5) := by decide +kernel
theorem c_288_5 : ax_code 288 5 = some (.iconst 8, 7) := by decide +kernel
theorem c_288_7 : ax_code 288 7 = some (.if_icmp .ge 33, 10) := by decide +kernel
theorem c_288_10 : ax_code 288 10 = some (.iload 2, 11) := by decide +kernel
theorem c_288_11 : ax_code 288 11 = some (.aload 0, 12) := by decide +kernel
theorem c_288_12 : ax_code 288 12 = some (.iload 1, 13) := by decide +kernel
theorem c_288_13 : ax_code 288 13 = some (.iload 3, 14) := by decide +kernel
theorem c_288_14 : ax_code 288 14 = some (.invokevirtual 270, 17) := by decide +kernel
theorem c_288_17 : ax_code 288 17 = some (.ifCond .eq 24, 20) := by decide +kernel
theorem c_288_20 : ax_code 288 20 = some (.iconst 1, 21) := by decide +kernel
theorem c_288_21 : ax_code 288 21 = some (.goto 25, 24) := by decide +kernel
theorem c_288_24 : ax_code 288 24 = some (.iconst 0, 25) := by decide +kernel
theorem c_288_25 : ax_code 288 25 = some (.iadd, 26) := by decide +kernel
theorem c_288_26 : ax_code 288 26 = some (.istore 2, 27) := by decide +kernel
theorem c_288_27 : ax_code 288 27 = some (.iinc 3 (1), 30) := by decide +kernel
theorem c_288_30 : ax_code 288 30 = some (.goto 4, 33) := by decide +kernel
theorem c_288_33 : ax_code 288 33 = some (.iload 2, 34) := by decide +kernel
theorem c_288_34 : ax_code 288 34 = some (.ireturn, 35) := by decide +kernel
theorem c_289_0 : ax_code 289 0 = some (.iload 2, 1) := by decide +kernel
theorem c_289_1 : ax_code 289 1 = some (.iconst 3, 2) := by decide +kernel
theorem c_289_2 : ax_code 289 2 = some (.if_icmp .eq 10, 5) := by decide +kernel
theorem c_289_5 : ax_code 289 5 = some (.iload 2, 6) := by decide +kernel
theorem c_289_6 : ax_code 289 6 = some (.iconst 4, 7) := by decide +kernel
theorem c_289_7 : ax_code 289 7 = some (.if_icmp .ne 26, 10) := by decide +kernel
theorem c_289_10 : ax_code 289 10 = some (.aload 0, 11) := by decide +kernel
theorem c_289_11 : ax_code 289 11 = some (.iload 2, 12) := by decide +kernel
theorem c_289_12 : ax_code 289 12 = some (.iconst 3, 13) := by decide +kernel
theorem c_289_13 : ax_code 289 13 = some (.if_icmp .ne 21, 16) := by decide +kernel
theorem c_289_16 : ax_code 289 16 = some (.iconst 24, 18) := by decide +kernel
theorem c_289_18 : ax_code 289 18 = some (.goto 23, 21) := by decide +kernel
theorem c_289_21 : ax_code 289 21 = some (.iconst 21, 23) := by decide +kernel
theorem c_289_23 : ax_code 289 23 = some (.invokevirtual 287, 26) := by decide +kernel
theorem c_289_26 : ax_code 289 26 = some (.iload 2, 27) := by decide +kernel
theorem c_289_27 : ax_code 289 27 = some (.iconst 5, 28) := by decide +kernel
theorem c_289_28 : ax_code 289 28 = some (.if_icmp .ne 37, 31) := by decide +kernel
theorem c_289_31 : ax_code 289 31 = some (.aload 0, 32) := by decide +kernel
theorem c_289_32 : ax_code 289 32 = some (.iconst 23, 34) := by decide +kernel
theorem c_289_34 : ax_code 289 34 = some (.invokevirtual 287, 37) := by decide +kernel
theorem c_289_37 : ax_code 289 37 = some (.iload 2, 38) := by decide +kernel
theorem c_289_38 : ax_code 289 38 = some (.iconst 2, 39) := by decide +kernel
theorem c_289_39 : ax_code 289 39 = some (.invokestatic 283, 42) := by decide +kernel
theorem c_289_42 : ax_code 289 42 = some (.istore 3, 43) := by decide +kernel
theorem c_289_43 : ax_code 289 43 = some (.iload 3, 44) := by decide +kernel
theorem c_289_44 : ax_code 289 44 = some (.ifCond .eq 53, 47) := by decide +kernel
theorem c_289_47 : ax_code 289 47 = some (.aload 0, 48) := by decide +kernel
theorem c_289_48 : ax_code 289 48 = some (.iconst 22, 50) := by decide +kernel
theorem c_289_50 : ax_code 289 50 = some (.invokevirtual 287, 53) := by decide +kernel
theorem c_289_53 : ax_code 289 53 = some (.aload 0, 54) := by decide +kernel
theorem c_289_54 : ax_code 289 54 = some (.iconst 20, 56) := by decide +kernel
theorem c_289_56 : ax_code 289 56 = some (.invokevirtual 287, 59) := by decide +kernel
theorem c_289_59 : ax_code 289 59 = some (.iload 1, 60) := by decide +kernel
theorem c_289_60 : ax_code 289 60 = some (.iload 3, 61) := by decide +kernel
theorem c_289_61 : ax_code 289 61 = some (.ifCond .eq 73, 64) := by decide +kernel
theorem c_289_64 : ax_code 289 64 = some (.aload 0, 65) := by decide +kernel
theorem c_289_65 : ax_code 289 65 = some (.iload 1, 66) := by decide +kernel
theorem c_289_66 : ax_code 289 66 = some (.iload 2, 67) := by decide +kernel
theorem c_289_67 : ax_code 289 67 = some (.invokevirtual 286, 70) := by decide +kernel
theorem c_289_70 : ax_code 289 70 = some (.goto 103, 73) := by decide +kernel
theorem c_289_73 : ax_code 289 73 = some (.iload 2, 74) := by decide +kernel
theorem c_289_74 : ax_code 289 74 = some (.iconst 3, 75) := by decide +kernel
theorem c_289_75 : ax_code 289 75 = some (.if_icmp .ne 88, 78) := by decide +kernel
theorem c_289_78 : ax_code 289 78 = some (.aload 0, 79) := by decide +kernel
theorem c_289_79 : ax_code 289 79 = some (.iload 1, 80) := by decide +kernel
theorem c_289_80 : ax_code 289 80 = some (.iload 1, 81) := by decide +kernel
theorem c_289_81 : ax_code 289 81 = some (.iconst 0, 82) := by decide +kernel
theorem c_289_82 : ax_code 289 82 = some (.invokevirtual 247, 85) := by decide +kernel
theorem c_289_85 : ax_code 289 85 = some (.goto 103, 88) := by decide +kernel
theorem c_289_88 : ax_code 289 88 = some (.iload 2, 89) := by decide +kernel
theorem c_289_89 : ax_code 289 89 = some (.iconst 4, 90) := by decide +kernel
theorem c_289_90 : ax_code 289 90 = some (.if_icmp .ne 102, 93) := by decide +kernel
theorem c_289_93 : ax_code 289 93 = some (.aload 0, 94) := by decide +kernel
theorem c_289_94 : ax_code 289 94 = some (.iload 1, 95) := by decide +kernel
theorem c_289_95 : ax_code 289 95 = some (.iconst 2, 96) := by decide +kernel
theorem c_289_96 : ax_code 289 96 = some (.invokevirtual 232, 99) := by decide +kernel
theorem c_289_99 : ax_code 289 99 = some (.goto 103, 102) := by decide +kernel
theorem c_289_102 : ax_code 289 102 = some (.iconst 0, 103) := by decide +kernel
theorem c_289_103 : ax_code 289 103 = some (.iadd, 104) := by decide +kernel
theorem c_289_104 : ax_code 289 104 = some (.istore 4, 106) := by decide +kernel
theorem c_289_106 : ax_code 289 106 = some (.iload 2, 107) := by decide +kernel
theorem c_289_107 : ax_code 289 107 = some (.iconst 5, 108) := by decide +kernel
theorem c_289_108 : ax_code 289 108 = some (.if_icmp .ne 117, 111) := by decide +kernel
theorem c_289_111 : ax_code 289 111 = some (.iload 4, 113) := by decide +kernel
theorem c_289_113 : ax_code 289 113 = some (.ineg, 114) := by decide +kernel
theorem c_289_114 : ax_code 289 114 = some (.goto 119, 117) := by decide +kernel
theorem c_289_117 : ax_code 289 117 = some (.iload 4, 119) := by decide +kernel
theorem c_289_119 : ax_code 289 119 = some (.ireturn, 120) := by decide +kernel
theorem c_290_0 : ax_code 290 0 = some (.aload 0, 1) := by decide +kernel
theorem c_290_1 : ax_code 290 1 = some (.iconst 0, 2) := by decide +kernel
theorem c_290_2 : ax_code 290 2 = some (.putfield 704, 5) := by decide +kernel
theorem c_290_5 : ax_code 290 5 = some (.iload 1, 6) := by decide +kernel
theorem c_290_6 : ax_code 290 6 = some (.i2l, 7) := by decide +kernel
theorem c_290_7 : ax_code 290 7 = some (.lconst 0, 8) := by decide +kernel
theorem c_290_8 : ax_code 290 8 = some (.aload 0, 9) := by decide +kernel
theorem c_290_9 : ax_code 290 9 = some (.getfield 747, 12) := by decide +kernel
theorem c_290_12 : ax_code 290 12 = some (.iconst 1, 13) := by decide +kernel
theorem c_290_13 : ax_code 290 13 = some (.isub, 14) := by decide +kernel
theorem c_290_14 : ax_code 290 14 = some (.i2l, 15) := by decide +kernel
theorem c_290_15 : ax_code 290 15 = some (.invokestatic 198, 18) := by decide +kernel
theorem c_290_18 : ax_code 290 18 = some (.ifCond .eq 30, 21) := by decide +kernel
theorem c_290_21 : ax_code 290 21 = some (.aload 0, 22) := by decide +kernel
theorem c_290_22 : ax_code 290 22 = some (.getfield 746, 25) := by decide +kernel
theorem c_290_25 : ax_code 290 25 = some (.iload 1, 26) := by decide +kernel
theorem c_290_26 : ax_code 290 26 = some (.iaload, 27) := by decide +kernel
theorem c_290_27 : ax_code 290 27 = some (.goto 32, 30) := by decide +kernel
theorem c_290_30 : ax_code 290 30 = some (.iconst (-1000000), 32) := by decide +kernel
theorem c_290_32 : ax_code 290 32 = some (.ireturn, 33) := by decide +kernel
theorem c_291_0 : ax_code 291 0 = some (.aload 0, 1) := by decide +kernel
theorem c_291_1 : ax_code 291 1 = some (.iconst 0, 2) := by decide +kernel
theorem c_291_2 : ax_code 291 2 = some (.putfield 704, 5) := by decide +kernel
theorem c_291_5 : ax_code 291 5 = some (.iconst 0, 6) := by decide +kernel
theorem c_291_6 : ax_code 291 6 = some (.istore 2, 7) := by decide +kernel
theorem c_291_7 : ax_code 291 7 = some (.iload 1, 8) := by decide +kernel
theorem c_291_8 : ax_code 291 8 = some (.tableswitch 139 (0) (5) #[48, 82, 82, 92, 100, 133], 48) := by decide +kernel
theorem c_291_48 : ax_code 291 48 = some (.iconst 0, 49) := by decide +kernel
theorem c_291_49 : ax_code 291 49 = some (.istore 3, 50) := by decide +kernel
theorem c_291_50 : ax_code 291 50 = some (.iload 3, 51) := by decide +kernel
theorem c_291_51 : ax_code 291 51 = some (.iconst 8, 53) := by decide +kernel
theorem c_291_53 : ax_code 291 53 = some (.if_icmp .ge 79, 56) := by decide +kernel
theorem c_291_56 : ax_code 291 56 = some (.iload 2, 57) := by decide +kernel
theorem c_291_57 : ax_code 291 57 = some (.aload 0, 58) := by decide +kernel
theorem c_291_58 : ax_code 291 58 = some (.getfield 706, 61) := by decide +kernel
theorem c_291_61 : ax_code 291 61 = some (.iload 3, 62) := by decide +kernel
theorem c_291_62 : ax_code 291 62 = some (.iaload, 63) := by decide +kernel
theorem c_291_63 : ax_code 291 63 = some (.ifCond .lt 70, 66) := by decide +kernel
theorem c_291_66 : ax_code 291 66 = some (.iconst 1, 67) := by decide +kernel
theorem c_291_67 : ax_code 291 67 = some (.goto 71, 70) := by decide +kernel
theorem c_291_70 : ax_code 291 70 = some (.iconst 0, 71) := by decide +kernel
theorem c_291_71 : ax_code 291 71 = some (.iadd, 72) := by decide +kernel
theorem c_291_72 : ax_code 291 72 = some (.istore 2, 73) := by decide +kernel
theorem c_291_73 : ax_code 291 73 = some (.iinc 3 (1), 76) := by decide +kernel
theorem c_291_76 : ax_code 291 76 = some (.goto 50, 79) := by decide +kernel
theorem c_291_79 : ax_code 291 79 = some (.iload 2, 80) := by decide +kernel
theorem c_291_80 : ax_code 291 80 = some (.i2l, 81) := by decide +kernel
theorem c_291_81 : ax_code 291 81 = some (.lreturn, 82) := by decide +kernel
theorem c_291_82 : ax_code 291 82 = some (.aload 0, 83) := by decide +kernel
theorem c_291_83 : ax_code 291 83 = some (.getfield 709, 86) := by decide +kernel
theorem c_291_86 : ax_code 291 86 = some (.iload 1, 87) := by decide +kernel
theorem c_291_87 : ax_code 291 87 = some (.iconst 1, 88) := by decide +kernel
theorem c_291_88 : ax_code 291 88 = some (.isub, 89) := by decide +kernel
theorem c_291_89 : ax_code 291 89 = some (.iaload, 90) := by decide +kernel
theorem c_291_90 : ax_code 291 90 = some (.i2l, 91) := by decide +kernel
theorem c_291_91 : ax_code 291 91 = some (.lreturn, 92) := by decide +kernel
theorem c_291_92 : ax_code 291 92 = some (.aload 0, 93) := by decide +kernel
theorem c_291_93 : ax_code 291 93 = some (.getfield 712, 96) := by decide +kernel
theorem c_291_96 : ax_code 291 96 = some (.iconst 0, 97) := by decide +kernel
theorem c_291_97 : ax_code 291 97 = some (.iaload, 98) := by decide +kernel
theorem c_291_98 : ax_code 291 98 = some (.i2l, 99) := by decide +kernel
theorem c_291_99 : ax_code 291 99 = some (.lreturn, 100) := by decide +kernel
theorem c_291_100 : ax_code 291 100 = some (.iconst 0, 101) := by decide +kernel
theorem c_291_101 : ax_code 291 101 = some (.istore 3, 102) := by decide +kernel
theorem c_291_102 : ax_code 291 102 = some (.iload 3, 103) := by decide +kernel
theorem c_291_103 : ax_code 291 103 = some (.aload 0, 104) := by decide +kernel
theorem c_291_104 : ax_code 291 104 = some (.getfield 712, 107) := by decide +kernel
theorem c_291_107 : ax_code 291 107 = some (.iconst 0, 108) := by decide +kernel
theorem c_291_108 : ax_code 291 108 = some (.iaload, 109) := by decide +kernel
theorem c_291_109 : ax_code 291 109 = some (.if_icmp .ge 130, 112) := by decide +kernel
theorem c_291_112 : ax_code 291 112 = some (.iload 2, 113) := by decide +kernel
theorem c_291_113 : ax_code 291 113 = some (.aload 0, 114) := by decide +kernel
theorem c_291_114 : ax_code 291 114 = some (.iload 3, 115) := by decide +kernel
theorem c_291_115 : ax_code 291 115 = some (.iconst 4, 116) := by decide +kernel
theorem c_291_116 : ax_code 291 116 = some (.invokevirtual 232, 119) := by decide +kernel
theorem c_291_119 : ax_code 291 119 = some (.invokestatic 240, 122) := by decide +kernel
theorem c_291_122 : ax_code 291 122 = some (.iadd, 123) := by decide +kernel
theorem c_291_123 : ax_code 291 123 = some (.istore 2, 124) := by decide +kernel
theorem c_291_124 : ax_code 291 124 = some (.iinc 3 (1), 127) := by decide +kernel
theorem c_291_127 : ax_code 291 127 = some (.goto 102, 130) := by decide +kernel
theorem c_291_130 : ax_code 291 130 = some (.iload 2, 131) := by decide +kernel
theorem c_291_131 : ax_code 291 131 = some (.i2l, 132) := by decide +kernel
theorem c_291_132 : ax_code 291 132 = some (.lreturn, 133) := by decide +kernel
theorem c_291_133 : ax_code 291 133 = some (.aload 0, 134) := by decide +kernel
theorem c_291_134 : ax_code 291 134 = some (.getfield 714, 137) := by decide +kernel
theorem c_291_137 : ax_code 291 137 = some (.i2l, 138) := by decide +kernel
theorem c_291_138 : ax_code 291 138 = some (.lreturn, 139) := by decide +kernel
theorem c_291_139 : ax_code 291 139 = some (.ldc2_w 0, 142) := by decide +kernel
theorem c_291_142 : ax_code 291 142 = some (.lreturn, 143) := by decide +kernel
theorem c_292_0 : ax_code 292 0 = some (.aload 0, 1) := by decide +kernel
theorem c_292_1 : ax_code 292 1 = some (.iconst 0, 2) := by decide +kernel
theorem c_292_2 : ax_code 292 2 = some (.putfield 704, 5) := by decide +kernel
theorem c_292_5 : ax_code 292 5 = some (.aload 0, 6) := by decide +kernel
theorem c_292_6 : ax_code 292 6 = some (.getfield 705, 9) := by decide +kernel
theorem c_292_9 : ax_code 292 9 = some (.ireturn, 10) := by decide +kernel
theorem c_293_0 : ax_code 293 0 = some (.new 10, 3) := by decide +kernel
theorem c_293_3 : ax_code 293 3 = some (.dup, 4) := by decide +kernel
theorem c_293_4 : ax_code 293 4 = some (.invokespecial 0, 7) := by decide +kernel
theorem c_293_7 : ax_code 293 7 = some (.astore 1, 8) := by decide +kernel
theorem c_293_8 : ax_code 293 8 = some (.new 11, 11) := by decide +kernel
theorem c_293_11 : ax_code 293 11 = some (.dup, 12) := by decide +kernel
theorem c_293_12 : ax_code 293 12 = some (.invokespecial 195, 15) := by decide +kernel
theorem c_293_15 : ax_code 293 15 = some (.astore 2, 16) := by decide +kernel
theorem c_293_16 : ax_code 293 16 = some (.iconst 0, 17) := by decide +kernel
theorem c_293_17 : ax_code 293 17 = some (.istore 3, 18) := by decide +kernel
theorem c_293_18 : ax_code 293 18 = some (.iload 3, 19) := by decide +kernel
theorem c_293_19 : ax_code 293 19 = some (.aload 0, 20) := by decide +kernel
theorem c_293_20 : ax_code 293 20 = some (.arraylength, 21) := by decide +kernel
theorem c_293_21 : ax_code 293 21 = some (.iconst 7, 23) := by decide +kernel
theorem c_293_23 : ax_code 293 23 = some (.isub, 24) := by decide +kernel
theorem c_293_24 : ax_code 293 24 = some (.if_icmp .gt 1461, 27) := by decide +kernel
theorem c_293_27 : ax_code 293 27 = some (.aload 0, 28) := by decide +kernel
theorem c_293_28 : ax_code 293 28 = some (.iload 3, 29) := by decide +kernel
theorem c_293_29 : ax_code 293 29 = some (.iaload, 30) := by decide +kernel
theorem c_293_30 : ax_code 293 30 = some (.iconst 63, 32) := by decide +kernel
theorem c_293_32 : ax_code 293 32 = some (.iand, 33) := by decide +kernel
theorem c_293_33 : ax_code 293 33 = some (.tableswitch 1455 (0) (35) #[192, 236, 280, 344, 368, 432, 446, 460, 473, 537, 613, 647, 681, 715, 759, 793, 827, 871, 895, 919, 953, 987, 1021, 1065, 1099, 1133, 1177, 1231, 1255, 1279, 1303, 1327, 1361, 1395, 1418, 1442], 192) := by decide +kernel
theorem c_293_192 : ax_code 293 192 = some (.aload 1, 193) := by decide +kernel
theorem c_293_193 : ax_code 293 193 = some (.aload 0, 194) := by decide +kernel
theorem c_293_194 : ax_code 293 194 = some (.iload 3, 195) := by decide +kernel
theorem c_293_195 : ax_code 293 195 = some (.iconst 1, 196) := by decide +kernel
theorem c_293_196 : ax_code 293 196 = some (.iadd, 197) := by decide +kernel
theorem c_293_197 : ax_code 293 197 = some (.iaload, 198) := by decide +kernel
theorem c_293_198 : ax_code 293 198 = some (.aload 0, 199) := by decide +kernel
theorem c_293_199 : ax_code 293 199 = some (.iload 3, 200) := by decide +kernel
theorem c_293_200 : ax_code 293 200 = some (.iconst 2, 201) := by decide +kernel
theorem c_293_201 : ax_code 293 201 = some (.iadd, 202) := by decide +kernel
theorem c_293_202 : ax_code 293 202 = some (.iaload, 203) := by decide +kernel
theorem c_293_203 : ax_code 293 203 = some (.aload 0, 204) := by decide +kernel
theorem c_293_204 : ax_code 293 204 = some (.iload 3, 205) := by decide +kernel
theorem c_293_205 : ax_code 293 205 = some (.iconst 3, 206) := by decide +kernel
theorem c_293_206 : ax_code 293 206 = some (.iadd, 207) := by decide +kernel
theorem c_293_207 : ax_code 293 207 = some (.iaload, 208) := by decide +kernel
theorem c_293_208 : ax_code 293 208 = some (.invokevirtual 12, 211) := by decide +kernel
theorem c_293_211 : ax_code 293 211 = some (.aload 2, 212) := by decide +kernel
theorem c_293_212 : ax_code 293 212 = some (.aload 0, 213) := by decide +kernel
theorem c_293_213 : ax_code 293 213 = some (.iload 3, 214) := by decide +kernel
theorem c_293_214 : ax_code 293 214 = some (.iconst 1, 215) := by decide +kernel
theorem c_293_215 : ax_code 293 215 = some (.iadd, 216) := by decide +kernel
theorem c_293_216 : ax_code 293 216 = some (.iaload, 217) := by decide +kernel
theorem c_293_217 : ax_code 293 217 = some (.aload 0, 218) := by decide +kernel
theorem c_293_218 : ax_code 293 218 = some (.iload 3, 219) := by decide +kernel
theorem c_293_219 : ax_code 293 219 = some (.iconst 2, 220) := by decide +kernel
theorem c_293_220 : ax_code 293 220 = some (.iadd, 221) := by decide +kernel
theorem c_293_221 : ax_code 293 221 = some (.iaload, 222) := by decide +kernel
theorem c_293_222 : ax_code 293 222 = some (.aload 0, 223) := by decide +kernel
theorem c_293_223 : ax_code 293 223 = some (.iload 3, 224) := by decide +kernel
theorem c_293_224 : ax_code 293 224 = some (.iconst 3, 225) := by decide +kernel
theorem c_293_225 : ax_code 293 225 = some (.iadd, 226) := by decide +kernel
theorem c_293_226 : ax_code 293 226 = some (.iaload, 227) := by decide +kernel
theorem c_293_227 : ax_code 293 227 = some (.invokevirtual 196, 230) := by decide +kernel
theorem c_293_230 : ax_code 293 230 = some (.lcmp, 231) := by decide +kernel
theorem c_293_231 : ax_code 293 231 = some (.ifCond .eq 1455, 234) := by decide +kernel
theorem c_293_234 : ax_code 293 234 = some (.iconst 0, 235) := by decide +kernel
theorem c_293_235 : ax_code 293 235 = some (.ireturn, 236) := by decide +kernel
theorem c_293_236 : ax_code 293 236 = some (.aload 1, 237) := by decide +kernel
theorem c_293_237 : ax_code 293 237 = some (.aload 0, 238) := by decide +kernel
theorem c_293_238 : ax_code 293 238 = some (.iload 3, 239) := by decide +kernel
theorem c_293_239 : ax_code 293 239 = some (.iconst 1, 240) := by decide +kernel
theorem c_293_240 : ax_code 293 240 = some (.iadd, 241) := by decide +kernel
theorem c_293_241 : ax_code 293 241 = some (.iaload, 242) := by decide +kernel
theorem c_293_242 : ax_code 293 242 = some (.aload 0, 243) := by decide +kernel
theorem c_293_243 : ax_code 293 243 = some (.iload 3, 244) := by decide +kernel
theorem c_293_244 : ax_code 293 244 = some (.iconst 2, 245) := by decide +kernel
theorem c_293_245 : ax_code 293 245 = some (.iadd, 246) := by decide +kernel
theorem c_293_246 : ax_code 293 246 = some (.iaload, 247) := by decide +kernel
theorem c_293_247 : ax_code 293 247 = some (.aload 0, 248) := by decide +kernel
theorem c_293_248 : ax_code 293 248 = some (.iload 3, 249) := by decide +kernel
theorem c_293_249 : ax_code 293 249 = some (.iconst 3, 250) := by decide +kernel
theorem c_293_250 : ax_code 293 250 = some (.iadd, 251) := by decide +kernel
theorem c_293_251 : ax_code 293 251 = some (.iaload, 252) := by decide +kernel
theorem c_293_252 : ax_code 293 252 = some (.invokevirtual 17, 255) := by decide +kernel
theorem c_293_255 : ax_code 293 255 = some (.aload 2, 256) := by decide +kernel
theorem c_293_256 : ax_code 293 256 = some (.aload 0, 257) := by decide +kernel
theorem c_293_257 : ax_code 293 257 = some (.iload 3, 258) := by decide +kernel
theorem c_293_258 : ax_code 293 258 = some (.iconst 1, 259) := by decide +kernel
theorem c_293_259 : ax_code 293 259 = some (.iadd, 260) := by decide +kernel
theorem c_293_260 : ax_code 293 260 = some (.iaload, 261) := by decide +kernel
theorem c_293_261 : ax_code 293 261 = some (.aload 0, 262) := by decide +kernel
theorem c_293_262 : ax_code 293 262 = some (.iload 3, 263) := by decide +kernel
theorem c_293_263 : ax_code 293 263 = some (.iconst 2, 264) := by decide +kernel
theorem c_293_264 : ax_code 293 264 = some (.iadd, 265) := by decide +kernel
theorem c_293_265 : ax_code 293 265 = some (.iaload, 266) := by decide +kernel
theorem c_293_266 : ax_code 293 266 = some (.aload 0, 267) := by decide +kernel
theorem c_293_267 : ax_code 293 267 = some (.iload 3, 268) := by decide +kernel
theorem c_293_268 : ax_code 293 268 = some (.iconst 3, 269) := by decide +kernel
theorem c_293_269 : ax_code 293 269 = some (.iadd, 270) := by decide +kernel
theorem c_293_270 : ax_code 293 270 = some (.iaload, 271) := by decide +kernel
theorem c_293_271 : ax_code 293 271 = some (.invokevirtual 200, 274) := by decide +kernel
theorem c_293_274 : ax_code 293 274 = some (.lcmp, 275) := by decide +kernel
theorem c_293_275 : ax_code 293 275 = some (.ifCond .eq 1455, 278) := by decide +kernel
theorem c_293_278 : ax_code 293 278 = some (.iconst 0, 279) := by decide +kernel
theorem c_293_279 : ax_code 293 279 = some (.ireturn, 280) := by decide +kernel
theorem c_293_280 : ax_code 293 280 = some (.aload 1, 281) := by decide +kernel
theorem c_293_281 : ax_code 293 281 = some (.aload 0, 282) := by decide +kernel
theorem c_293_282 : ax_code 293 282 = some (.iload 3, 283) := by decide +kernel
theorem c_293_283 : ax_code 293 283 = some (.iconst 1, 284) := by decide +kernel
theorem c_293_284 : ax_code 293 284 = some (.iadd, 285) := by decide +kernel
theorem c_293_285 : ax_code 293 285 = some (.iaload, 286) := by decide +kernel
theorem c_293_286 : ax_code 293 286 = some (.aload 0, 287) := by decide +kernel
theorem c_293_287 : ax_code 293 287 = some (.iload 3, 288) := by decide +kernel
theorem c_293_288 : ax_code 293 288 = some (.iconst 2, 289) := by decide +kernel
theorem c_293_289 : ax_code 293 289 = some (.iadd, 290) := by decide +kernel
theorem c_293_290 : ax_code 293 290 = some (.iaload, 291) := by decide +kernel
theorem c_293_291 : ax_code 293 291 = some (.aload 0, 292) := by decide +kernel
theorem c_293_292 : ax_code 293 292 = some (.iload 3, 293) := by decide +kernel
theorem c_293_293 : ax_code 293 293 = some (.iconst 3, 294) := by decide +kernel
theorem c_293_294 : ax_code 293 294 = some (.iadd, 295) := by decide +kernel
theorem c_293_295 : ax_code 293 295 = some (.iaload, 296) := by decide +kernel
theorem c_293_296 : ax_code 293 296 = some (.aload 0, 297) := by decide +kernel
theorem c_293_297 : ax_code 293 297 = some (.iload 3, 298) := by decide +kernel
theorem c_293_298 : ax_code 293 298 = some (.iconst 4, 299) := by decide +kernel
theorem c_293_299 : ax_code 293 299 = some (.iadd, 300) := by decide +kernel
theorem c_293_300 : ax_code 293 300 = some (.iaload, 301) := by decide +kernel
theorem c_293_301 : ax_code 293 301 = some (.aload 0, 302) := by decide +kernel
theorem c_293_302 : ax_code 293 302 = some (.iload 3, 303) := by decide +kernel
theorem c_293_303 : ax_code 293 303 = some (.iconst 5, 304) := by decide +kernel
theorem c_293_304 : ax_code 293 304 = some (.iadd, 305) := by decide +kernel
theorem c_293_305 : ax_code 293 305 = some (.iaload, 306) := by decide +kernel
theorem c_293_306 : ax_code 293 306 = some (.invokevirtual 22, 309) := by decide +kernel
theorem c_293_309 : ax_code 293 309 = some (.aload 2, 310) := by decide +kernel
theorem c_293_310 : ax_code 293 310 = some (.aload 0, 311) := by decide +kernel
theorem c_293_311 : ax_code 293 311 = some (.iload 3, 312) := by decide +kernel
theorem c_293_312 : ax_code 293 312 = some (.iconst 1, 313) := by decide +kernel
theorem c_293_313 : ax_code 293 313 = some (.iadd, 314) := by decide +kernel
theorem c_293_314 : ax_code 293 314 = some (.iaload, 315) := by decide +kernel
theorem c_293_315 : ax_code 293 315 = some (.aload 0, 316) := by decide +kernel
theorem c_293_316 : ax_code 293 316 = some (.iload 3, 317) := by decide +kernel
theorem c_293_317 : ax_code 293 317 = some (.iconst 2, 318) := by decide +kernel
theorem c_293_318 : ax_code 293 318 = some (.iadd, 319) := by decide +kernel
theorem c_293_319 : ax_code 293 319 = some (.iaload, 320) := by decide +kernel
theorem c_293_320 : ax_code 293 320 = some (.aload 0, 321) := by decide +kernel
theorem c_293_321 : ax_code 293 321 = some (.iload 3, 322) := by decide +kernel
theorem c_293_322 : ax_code 293 322 = some (.iconst 3, 323) := by decide +kernel
theorem c_293_323 : ax_code 293 323 = some (.iadd, 324) := by decide +kernel
theorem c_293_324 : ax_code 293 324 = some (.iaload, 325) := by decide +kernel
theorem c_293_325 : ax_code 293 325 = some (.aload 0, 326) := by decide +kernel
theorem c_293_326 : ax_code 293 326 = some (.iload 3, 327) := by decide +kernel
theorem c_293_327 : ax_code 293 327 = some (.iconst 4, 328) := by decide +kernel
theorem c_293_328 : ax_code 293 328 = some (.iadd, 329) := by decide +kernel
theorem c_293_329 : ax_code 293 329 = some (.iaload, 330) := by decide +kernel
theorem c_293_330 : ax_code 293 330 = some (.aload 0, 331) := by decide +kernel
theorem c_293_331 : ax_code 293 331 = some (.iload 3, 332) := by decide +kernel
theorem c_293_332 : ax_code 293 332 = some (.iconst 5, 333) := by decide +kernel
theorem c_293_333 : ax_code 293 333 = some (.iadd, 334) := by decide +kernel
theorem c_293_334 : ax_code 293 334 = some (.iaload, 335) := by decide +kernel
theorem c_293_335 : ax_code 293 335 = some (.invokevirtual 201, 338) := by decide +kernel
theorem c_293_338 : ax_code 293 338 = some (.lcmp, 339) := by decide +kernel
theorem c_293_339 : ax_code 293 339 = some (.ifCond .eq 1455, 342) := by decide +kernel
theorem c_293_342 : ax_code 293 342 = some (.iconst 0, 343) := by decide +kernel
theorem c_293_343 : ax_code 293 343 = some (.ireturn, 344) := by decide +kernel
theorem c_293_344 : ax_code 293 344 = some (.aload 1, 345) := by decide +kernel
theorem c_293_345 : ax_code 293 345 = some (.aload 0, 346) := by decide +kernel
theorem c_293_346 : ax_code 293 346 = some (.iload 3, 347) := by decide +kernel
theorem c_293_347 : ax_code 293 347 = some (.iconst 1, 348) := by decide +kernel
theorem c_293_348 : ax_code 293 348 = some (.iadd, 349) := by decide +kernel
theorem c_293_349 : ax_code 293 349 = some (.iaload, 350) := by decide +kernel
theorem c_293_350 : ax_code 293 350 = some (.invokevirtual 25, 353) := by decide +kernel
theorem c_293_353 : ax_code 293 353 = some (.aload 2, 354) := by decide +kernel
theorem c_293_354 : ax_code 293 354 = some (.aload 0, 355) := by decide +kernel
theorem c_293_355 : ax_code 293 355 = some (.iload 3, 356) := by decide +kernel
theorem c_293_356 : ax_code 293 356 = some (.iconst 1, 357) := by decide +kernel
theorem c_293_357 : ax_code 293 357 = some (.iadd, 358) := by decide +kernel
theorem c_293_358 : ax_code 293 358 = some (.iaload, 359) := by decide +kernel
theorem c_293_359 : ax_code 293 359 = some (.invokevirtual 202, 362) := by decide +kernel
theorem c_293_362 : ax_code 293 362 = some (.lcmp, 363) := by decide +kernel
theorem c_293_363 : ax_code 293 363 = some (.ifCond .eq 1455, 366) := by decide +kernel
theorem c_293_366 : ax_code 293 366 = some (.iconst 0, 367) := by decide +kernel
theorem c_293_367 : ax_code 293 367 = some (.ireturn, 368) := by decide +kernel
theorem c_293_368 : ax_code 293 368 = some (.aload 1, 369) := by decide +kernel
theorem c_293_369 : ax_code 293 369 = some (.aload 0, 370) := by decide +kernel
theorem c_293_370 : ax_code 293 370 = some (.iload 3, 371) := by decide +kernel
theorem c_293_371 : ax_code 293 371 = some (.iconst 1, 372) := by decide +kernel
theorem c_293_372 : ax_code 293 372 = some (.iadd, 373) := by decide +kernel
theorem c_293_373 : ax_code 293 373 = some (.iaload, 374) := by decide +kernel
theorem c_293_374 : ax_code 293 374 = some (.i2l, 375) := by decide +kernel
theorem c_293_375 : ax_code 293 375 = some (.iconst 32, 377) := by decide +kernel
theorem c_293_377 : ax_code 293 377 = some (.lshl, 378) := by decide +kernel
theorem c_293_378 : ax_code 293 378 = some (.aload 0, 379) := by decide +kernel
theorem c_293_379 : ax_code 293 379 = some (.iload 3, 380) := by decide +kernel
theorem c_293_380 : ax_code 293 380 = some (.iconst 2, 381) := by decide +kernel
theorem c_293_381 : ax_code 293 381 = some (.iadd, 382) := by decide +kernel
theorem c_293_382 : ax_code 293 382 = some (.iaload, 383) := by decide +kernel
theorem c_293_383 : ax_code 293 383 = some (.i2l, 384) := by decide +kernel
theorem c_293_384 : ax_code 293 384 = some (.ldc2_w 29, 387) := by decide +kernel
theorem c_293_387 : ax_code 293 387 = some (.land, 388) := by decide +kernel
theorem c_293_388 : ax_code 293 388 = some (.lor, 389) := by decide +kernel
theorem c_293_389 : ax_code 293 389 = some (.aload 0, 390) := by decide +kernel
theorem c_293_390 : ax_code 293 390 = some (.iload 3, 391) := by decide +kernel
theorem c_293_391 : ax_code 293 391 = some (.iconst 3, 392) := by decide +kernel
theorem c_293_392 : ax_code 293 392 = some (.iadd, 393) := by decide +kernel
theorem c_293_393 : ax_code 293 393 = some (.iaload, 394) := by decide +kernel
theorem c_293_394 : ax_code 293 394 = some (.invokevirtual 27, 397) := by decide +kernel
theorem c_293_397 : ax_code 293 397 = some (.aload 2, 398) := by decide +kernel
theorem c_293_398 : ax_code 293 398 = some (.aload 0, 399) := by decide +kernel
theorem c_293_399 : ax_code 293 399 = some (.iload 3, 400) := by decide +kernel
theorem c_293_400 : ax_code 293 400 = some (.iconst 1, 401) := by decide +kernel
theorem c_293_401 : ax_code 293 401 = some (.iadd, 402) := by decide +kernel
theorem c_293_402 : ax_code 293 402 = some (.iaload, 403) := by decide +kernel
theorem c_293_403 : ax_code 293 403 = some (.i2l, 404) := by decide +kernel
theorem c_293_404 : ax_code 293 404 = some (.iconst 32, 406) := by decide +kernel
theorem c_293_406 : ax_code 293 406 = some (.lshl, 407) := by decide +kernel
theorem c_293_407 : ax_code 293 407 = some (.aload 0, 408) := by decide +kernel
theorem c_293_408 : ax_code 293 408 = some (.iload 3, 409) := by decide +kernel
theorem c_293_409 : ax_code 293 409 = some (.iconst 2, 410) := by decide +kernel
theorem c_293_410 : ax_code 293 410 = some (.iadd, 411) := by decide +kernel
theorem c_293_411 : ax_code 293 411 = some (.iaload, 412) := by decide +kernel
theorem c_293_412 : ax_code 293 412 = some (.i2l, 413) := by decide +kernel
theorem c_293_413 : ax_code 293 413 = some (.ldc2_w 29, 416) := by decide +kernel
theorem c_293_416 : ax_code 293 416 = some (.land, 417) := by decide +kernel
theorem c_293_417 : ax_code 293 417 = some (.lor, 418) := by decide +kernel
theorem c_293_418 : ax_code 293 418 = some (.aload 0, 419) := by decide +kernel
theorem c_293_419 : ax_code 293 419 = some (.iload 3, 420) := by decide +kernel
theorem c_293_420 : ax_code 293 420 = some (.iconst 3, 421) := by decide +kernel
theorem c_293_421 : ax_code 293 421 = some (.iadd, 422) := by decide +kernel
theorem c_293_422 : ax_code 293 422 = some (.iaload, 423) := by decide +kernel
theorem c_293_423 : ax_code 293 423 = some (.invokevirtual 203, 426) := by decide +kernel
theorem c_293_426 : ax_code 293 426 = some (.lcmp, 427) := by decide +kernel
theorem c_293_427 : ax_code 293 427 = some (.ifCond .eq 1455, 430) := by decide +kernel
theorem c_293_430 : ax_code 293 430 = some (.iconst 0, 431) := by decide +kernel
theorem c_293_431 : ax_code 293 431 = some (.ireturn, 432) := by decide +kernel
theorem c_293_432 : ax_code 293 432 = some (.aload 1, 433) := by decide +kernel
theorem c_293_433 : ax_code 293 433 = some (.invokevirtual 30, 436) := by decide +kernel
theorem c_293_436 : ax_code 293 436 = some (.aload 2, 437) := by decide +kernel
theorem c_293_437 : ax_code 293 437 = some (.invokevirtual 204, 440) := by decide +kernel
theorem c_293_440 : ax_code 293 440 = some (.lcmp, 441) := by decide +kernel
theorem c_293_441 : ax_code 293 441 = some (.ifCond .eq 1455, 444) := by decide +kernel
theorem c_293_444 : ax_code 293 444 = some (.iconst 0, 445) := by decide +kernel
theorem c_293_445 : ax_code 293 445 = some (.ireturn, 446) := by decide +kernel
theorem c_293_446 : ax_code 293 446 = some (.aload 1, 447) := by decide +kernel
theorem c_293_447 : ax_code 293 447 = some (.invokevirtual 66, 450) := by decide +kernel
theorem c_293_450 : ax_code 293 450 = some (.aload 2, 451) := by decide +kernel
theorem c_293_451 : ax_code 293 451 = some (.invokevirtual 219, 454) := by decide +kernel
theorem c_293_454 : ax_code 293 454 = some (.lcmp, 455) := by decide +kernel
theorem c_293_455 : ax_code 293 455 = some (.ifCond .eq 1455, 458) := by decide +kernel
theorem c_293_458 : ax_code 293 458 = some (.iconst 0, 459) := by decide +kernel
theorem c_293_459 : ax_code 293 459 = some (.ireturn, 460) := by decide +kernel
theorem c_293_460 : ax_code 293 460 = some (.aload 1, 461) := by decide +kernel
theorem c_293_461 : ax_code 293 461 = some (.invokevirtual 85, 464) := by decide +kernel
theorem c_293_464 : ax_code 293 464 = some (.aload 2, 465) := by decide +kernel
theorem c_293_465 : ax_code 293 465 = some (.invokevirtual 227, 468) := by decide +kernel
theorem c_293_468 : ax_code 293 468 = some (.if_icmp .eq 1455, 471) := by decide +kernel
theorem c_293_471 : ax_code 293 471 = some (.iconst 0, 472) := by decide +kernel
theorem c_293_472 : ax_code 293 472 = some (.ireturn, 473) := by decide +kernel
theorem c_293_473 : ax_code 293 473 = some (.aload 1, 474) := by decide +kernel
theorem c_293_474 : ax_code 293 474 = some (.aload 0, 475) := by decide +kernel
theorem c_293_475 : ax_code 293 475 = some (.iload 3, 476) := by decide +kernel
theorem c_293_476 : ax_code 293 476 = some (.iconst 1, 477) := by decide +kernel
theorem c_293_477 : ax_code 293 477 = some (.iadd, 478) := by decide +kernel
theorem c_293_478 : ax_code 293 478 = some (.iaload, 479) := by decide +kernel
theorem c_293_479 : ax_code 293 479 = some (.aload 0, 480) := by decide +kernel
theorem c_293_480 : ax_code 293 480 = some (.iload 3, 481) := by decide +kernel
theorem c_293_481 : ax_code 293 481 = some (.iconst 2, 482) := by decide +kernel
theorem c_293_482 : ax_code 293 482 = some (.iadd, 483) := by decide +kernel
theorem c_293_483 : ax_code 293 483 = some (.iaload, 484) := by decide +kernel
theorem c_293_484 : ax_code 293 484 = some (.aload 0, 485) := by decide +kernel
theorem c_293_485 : ax_code 293 485 = some (.iload 3, 486) := by decide +kernel
theorem c_293_486 : ax_code 293 486 = some (.iconst 3, 487) := by decide +kernel
theorem c_293_487 : ax_code 293 487 = some (.iadd, 488) := by decide +kernel
theorem c_293_488 : ax_code 293 488 = some (.iaload, 489) := by decide +kernel
theorem c_293_489 : ax_code 293 489 = some (.aload 0, 490) := by decide +kernel
theorem c_293_490 : ax_code 293 490 = some (.iload 3, 491) := by decide +kernel
theorem c_293_491 : ax_code 293 491 = some (.iconst 4, 492) := by decide +kernel
theorem c_293_492 : ax_code 293 492 = some (.iadd, 493) := by decide +kernel
theorem c_293_493 : ax_code 293 493 = some (.iaload, 494) := by decide +kernel
theorem c_293_494 : ax_code 293 494 = some (.aload 0, 495) := by decide +kernel
theorem c_293_495 : ax_code 293 495 = some (.iload 3, 496) := by decide +kernel
theorem c_293_496 : ax_code 293 496 = some (.iconst 5, 497) := by decide +kernel
theorem c_293_497 : ax_code 293 497 = some (.iadd, 498) := by decide +kernel
theorem c_293_498 : ax_code 293 498 = some (.iaload, 499) := by decide +kernel
theorem c_293_499 : ax_code 293 499 = some (.invokevirtual 87, 502) := by decide +kernel
theorem c_293_502 : ax_code 293 502 = some (.aload 2, 503) := by decide +kernel
theorem c_293_503 : ax_code 293 503 = some (.aload 0, 504) := by decide +kernel
theorem c_293_504 : ax_code 293 504 = some (.iload 3, 505) := by decide +kernel
theorem c_293_505 : ax_code 293 505 = some (.iconst 1, 506) := by decide +kernel
theorem c_293_506 : ax_code 293 506 = some (.iadd, 507) := by decide +kernel
theorem c_293_507 : ax_code 293 507 = some (.iaload, 508) := by decide +kernel
theorem c_293_508 : ax_code 293 508 = some (.aload 0, 509) := by decide +kernel
theorem c_293_509 : ax_code 293 509 = some (.iload 3, 510) := by decide +kernel
theorem c_293_510 : ax_code 293 510 = some (.iconst 2, 511) := by decide +kernel
theorem c_293_511 : ax_code 293 511 = some (.iadd, 512) := by decide +kernel
theorem c_293_512 : ax_code 293 512 = some (.iaload, 513) := by decide +kernel
theorem c_293_513 : ax_code 293 513 = some (.aload 0, 514) := by decide +kernel
theorem c_293_514 : ax_code 293 514 = some (.iload 3, 515) := by decide +kernel
theorem c_293_515 : ax_code 293 515 = some (.iconst 3, 516) := by decide +kernel
theorem c_293_516 : ax_code 293 516 = some (.iadd, 517) := by decide +kernel
theorem c_293_517 : ax_code 293 517 = some (.iaload, 518) := by decide +kernel
theorem c_293_518 : ax_code 293 518 = some (.aload 0, 519) := by decide +kernel
theorem c_293_519 : ax_code 293 519 = some (.iload 3, 520) := by decide +kernel
theorem c_293_520 : ax_code 293 520 = some (.iconst 4, 521) := by decide +kernel
theorem c_293_521 : ax_code 293 521 = some (.iadd, 522) := by decide +kernel
theorem c_293_522 : ax_code 293 522 = some (.iaload, 523) := by decide +kernel
theorem c_293_523 : ax_code 293 523 = some (.aload 0, 524) := by decide +kernel
theorem c_293_524 : ax_code 293 524 = some (.iload 3, 525) := by decide +kernel
theorem c_293_525 : ax_code 293 525 = some (.iconst 5, 526) := by decide +kernel
theorem c_293_526 : ax_code 293 526 = some (.iadd, 527) := by decide +kernel
theorem c_293_527 : ax_code 293 527 = some (.iaload, 528) := by decide +kernel
theorem c_293_528 : ax_code 293 528 = some (.invokevirtual 228, 531) := by decide +kernel
theorem c_293_531 : ax_code 293 531 = some (.lcmp, 532) := by decide +kernel
theorem c_293_532 : ax_code 293 532 = some (.ifCond .eq 1455, 535) := by decide +kernel
theorem c_293_535 : ax_code 293 535 = some (.iconst 0, 536) := by decide +kernel
theorem c_293_536 : ax_code 293 536 = some (.ireturn, 537) := by decide +kernel
theorem c_293_537 : ax_code 293 537 = some (.aload 1, 538) := by decide +kernel
theorem c_293_538 : ax_code 293 538 = some (.aload 0, 539) := by decide +kernel
theorem c_293_539 : ax_code 293 539 = some (.iload 3, 540) := by decide +kernel
theorem c_293_540 : ax_code 293 540 = some (.iconst 1, 541) := by decide +kernel
theorem c_293_541 : ax_code 293 541 = some (.iadd, 542) := by decide +kernel
theorem c_293_542 : ax_code 293 542 = some (.iaload, 543) := by decide +kernel
theorem c_293_543 : ax_code 293 543 = some (.aload 0, 544) := by decide +kernel
theorem c_293_544 : ax_code 293 544 = some (.iload 3, 545) := by decide +kernel
theorem c_293_545 : ax_code 293 545 = some (.iconst 2, 546) := by decide +kernel
theorem c_293_546 : ax_code 293 546 = some (.iadd, 547) := by decide +kernel
theorem c_293_547 : ax_code 293 547 = some (.iaload, 548) := by decide +kernel
theorem c_293_548 : ax_code 293 548 = some (.aload 0, 549) := by decide +kernel
theorem c_293_549 : ax_code 293 549 = some (.iload 3, 550) := by decide +kernel
theorem c_293_550 : ax_code 293 550 = some (.iconst 3, 551) := by decide +kernel
theorem c_293_551 : ax_code 293 551 = some (.iadd, 552) := by decide +kernel
theorem c_293_552 : ax_code 293 552 = some (.iaload, 553) := by decide +kernel
theorem c_293_553 : ax_code 293 553 = some (.aload 0, 554) := by decide +kernel
theorem c_293_554 : ax_code 293 554 = some (.iload 3, 555) := by decide +kernel
theorem c_293_555 : ax_code 293 555 = some (.iconst 4, 556) := by decide +kernel
theorem c_293_556 : ax_code 293 556 = some (.iadd, 557) := by decide +kernel
theorem c_293_557 : ax_code 293 557 = some (.iaload, 558) := by decide +kernel
theorem c_293_558 : ax_code 293 558 = some (.aload 0, 559) := by decide +kernel
theorem c_293_559 : ax_code 293 559 = some (.iload 3, 560) := by decide +kernel
theorem c_293_560 : ax_code 293 560 = some (.iconst 5, 561) := by decide +kernel
theorem c_293_561 : ax_code 293 561 = some (.iadd, 562) := by decide +kernel
theorem c_293_562 : ax_code 293 562 = some (.iaload, 563) := by decide +kernel
theorem c_293_563 : ax_code 293 563 = some (.aload 0, 564) := by decide +kernel
theorem c_293_564 : ax_code 293 564 = some (.iload 3, 565) := by decide +kernel
theorem c_293_565 : ax_code 293 565 = some (.iconst 6, 567) := by decide +kernel
theorem c_293_567 : ax_code 293 567 = some (.iadd, 568) := by decide +kernel
theorem c_293_568 : ax_code 293 568 = some (.iaload, 569) := by decide +kernel
theorem c_293_569 : ax_code 293 569 = some (.invokevirtual 95, 572) := by decide +kernel
theorem c_293_572 : ax_code 293 572 = some (.aload 2, 573) := by decide +kernel
theorem c_293_573 : ax_code 293 573 = some (.aload 0, 574) := by decide +kernel
theorem c_293_574 : ax_code 293 574 = some (.iload 3, 575) := by decide +kernel
theorem c_293_575 : ax_code 293 575 = some (.iconst 1, 576) := by decide +kernel
theorem c_293_576 : ax_code 293 576 = some (.iadd, 577) := by decide +kernel
theorem c_293_577 : ax_code 293 577 = some (.iaload, 578) := by decide +kernel
theorem c_293_578 : ax_code 293 578 = some (.aload 0, 579) := by decide +kernel
theorem c_293_579 : ax_code 293 579 = some (.iload 3, 580) := by decide +kernel
theorem c_293_580 : ax_code 293 580 = some (.iconst 2, 581) := by decide +kernel
theorem c_293_581 : ax_code 293 581 = some (.iadd, 582) := by decide +kernel
theorem c_293_582 : ax_code 293 582 = some (.iaload, 583) := by decide +kernel
theorem c_293_583 : ax_code 293 583 = some (.aload 0, 584) := by decide +kernel
theorem c_293_584 : ax_code 293 584 = some (.iload 3, 585) := by decide +kernel
theorem c_293_585 : ax_code 293 585 = some (.iconst 3, 586) := by decide +kernel
theorem c_293_586 : ax_code 293 586 = some (.iadd, 587) := by decide +kernel
theorem c_293_587 : ax_code 293 587 = some (.iaload, 588) := by decide +kernel
theorem c_293_588 : ax_code 293 588 = some (.aload 0, 589) := by decide +kernel
theorem c_293_589 : ax_code 293 589 = some (.iload 3, 590) := by decide +kernel
theorem c_293_590 : ax_code 293 590 = some (.iconst 4, 591) := by decide +kernel
theorem c_293_591 : ax_code 293 591 = some (.iadd, 592) := by decide +kernel
theorem c_293_592 : ax_code 293 592 = some (.iaload, 593) := by decide +kernel
theorem c_293_593 : ax_code 293 593 = some (.aload 0, 594) := by decide +kernel
theorem c_293_594 : ax_code 293 594 = some (.iload 3, 595) := by decide +kernel
theorem c_293_595 : ax_code 293 595 = some (.iconst 5, 596) := by decide +kernel
theorem c_293_596 : ax_code 293 596 = some (.iadd, 597) := by decide +kernel
theorem c_293_597 : ax_code 293 597 = some (.iaload, 598) := by decide +kernel
theorem c_293_598 : ax_code 293 598 = some (.aload 0, 599) := by decide +kernel
theorem c_293_599 : ax_code 293 599 = some (.iload 3, 600) := by decide +kernel
theorem c_293_600 : ax_code 293 600 = some (.iconst 6, 602) := by decide +kernel
theorem c_293_602 : ax_code 293 602 = some (.iadd, 603) := by decide +kernel
theorem c_293_603 : ax_code 293 603 = some (.iaload, 604) := by decide +kernel
theorem c_293_604 : ax_code 293 604 = some (.invokevirtual 233, 607) := by decide +kernel
theorem c_293_607 : ax_code 293 607 = some (.lcmp, 608) := by decide +kernel
theorem c_293_608 : ax_code 293 608 = some (.ifCond .eq 1455, 611) := by decide +kernel
theorem c_293_611 : ax_code 293 611 = some (.iconst 0, 612) := by decide +kernel
theorem c_293_612 : ax_code 293 612 = some (.ireturn, 613) := by decide +kernel
theorem c_293_613 : ax_code 293 613 = some (.aload 1, 614) := by decide +kernel
theorem c_293_614 : ax_code 293 614 = some (.aload 0, 615) := by decide +kernel
theorem c_293_615 : ax_code 293 615 = some (.iload 3, 616) := by decide +kernel
theorem c_293_616 : ax_code 293 616 = some (.iconst 1, 617) := by decide +kernel
theorem c_293_617 : ax_code 293 617 = some (.iadd, 618) := by decide +kernel
theorem c_293_618 : ax_code 293 618 = some (.iaload, 619) := by decide +kernel
theorem c_293_619 : ax_code 293 619 = some (.aload 0, 620) := by decide +kernel
theorem c_293_620 : ax_code 293 620 = some (.iload 3, 621) := by decide +kernel
theorem c_293_621 : ax_code 293 621 = some (.iconst 2, 622) := by decide +kernel
theorem c_293_622 : ax_code 293 622 = some (.iadd, 623) := by decide +kernel
theorem c_293_623 : ax_code 293 623 = some (.iaload, 624) := by decide +kernel
theorem c_293_624 : ax_code 293 624 = some (.invokevirtual 99, 627) := by decide +kernel
theorem c_293_627 : ax_code 293 627 = some (.aload 2, 628) := by decide +kernel
theorem c_293_628 : ax_code 293 628 = some (.aload 0, 629) := by decide +kernel
theorem c_293_629 : ax_code 293 629 = some (.iload 3, 630) := by decide +kernel
theorem c_293_630 : ax_code 293 630 = some (.iconst 1, 631) := by decide +kernel
theorem c_293_631 : ax_code 293 631 = some (.iadd, 632) := by decide +kernel
theorem c_293_632 : ax_code 293 632 = some (.iaload, 633) := by decide +kernel
theorem c_293_633 : ax_code 293 633 = some (.aload 0, 634) := by decide +kernel
theorem c_293_634 : ax_code 293 634 = some (.iload 3, 635) := by decide +kernel
theorem c_293_635 : ax_code 293 635 = some (.iconst 2, 636) := by decide +kernel
theorem c_293_636 : ax_code 293 636 = some (.iadd, 637) := by decide +kernel
theorem c_293_637 : ax_code 293 637 = some (.iaload, 638) := by decide +kernel
theorem c_293_638 : ax_code 293 638 = some (.invokevirtual 236, 641) := by decide +kernel
theorem c_293_641 : ax_code 293 641 = some (.lcmp, 642) := by decide +kernel
theorem c_293_642 : ax_code 293 642 = some (.ifCond .eq 1455, 645) := by decide +kernel
theorem c_293_645 : ax_code 293 645 = some (.iconst 0, 646) := by decide +kernel
theorem c_293_646 : ax_code 293 646 = some (.ireturn, 647) := by decide +kernel
theorem c_293_647 : ax_code 293 647 = some (.aload 1, 648) := by decide +kernel
theorem c_293_648 : ax_code 293 648 = some (.aload 0, 649) := by decide +kernel
theorem c_293_649 : ax_code 293 649 = some (.iload 3, 650) := by decide +kernel
theorem c_293_650 : ax_code 293 650 = some (.iconst 1, 651) := by decide +kernel
theorem c_293_651 : ax_code 293 651 = some (.iadd, 652) := by decide +kernel
theorem c_293_652 : ax_code 293 652 = some (.iaload, 653) := by decide +kernel
theorem c_293_653 : ax_code 293 653 = some (.aload 0, 654) := by decide +kernel
theorem c_293_654 : ax_code 293 654 = some (.iload 3, 655) := by decide +kernel
theorem c_293_655 : ax_code 293 655 = some (.iconst 2, 656) := by decide +kernel
theorem c_293_656 : ax_code 293 656 = some (.iadd, 657) := by decide +kernel
theorem c_293_657 : ax_code 293 657 = some (.iaload, 658) := by decide +kernel
theorem c_293_658 : ax_code 293 658 = some (.invokevirtual 100, 661) := by decide +kernel
theorem c_293_661 : ax_code 293 661 = some (.aload 2, 662) := by decide +kernel
theorem c_293_662 : ax_code 293 662 = some (.aload 0, 663) := by decide +kernel
theorem c_293_663 : ax_code 293 663 = some (.iload 3, 664) := by decide +kernel
theorem c_293_664 : ax_code 293 664 = some (.iconst 1, 665) := by decide +kernel
theorem c_293_665 : ax_code 293 665 = some (.iadd, 666) := by decide +kernel
theorem c_293_666 : ax_code 293 666 = some (.iaload, 667) := by decide +kernel
theorem c_293_667 : ax_code 293 667 = some (.aload 0, 668) := by decide +kernel
theorem c_293_668 : ax_code 293 668 = some (.iload 3, 669) := by decide +kernel
theorem c_293_669 : ax_code 293 669 = some (.iconst 2, 670) := by decide +kernel
theorem c_293_670 : ax_code 293 670 = some (.iadd, 671) := by decide +kernel
theorem c_293_671 : ax_code 293 671 = some (.iaload, 672) := by decide +kernel
theorem c_293_672 : ax_code 293 672 = some (.invokevirtual 238, 675) := by decide +kernel
theorem c_293_675 : ax_code 293 675 = some (.lcmp, 676) := by decide +kernel
theorem c_293_676 : ax_code 293 676 = some (.ifCond .eq 1455, 679) := by decide +kernel
theorem c_293_679 : ax_code 293 679 = some (.iconst 0, 680) := by decide +kernel
theorem c_293_680 : ax_code 293 680 = some (.ireturn, 681) := by decide +kernel
theorem c_293_681 : ax_code 293 681 = some (.aload 1, 682) := by decide +kernel
theorem c_293_682 : ax_code 293 682 = some (.aload 0, 683) := by decide +kernel
theorem c_293_683 : ax_code 293 683 = some (.iload 3, 684) := by decide +kernel
theorem c_293_684 : ax_code 293 684 = some (.iconst 1, 685) := by decide +kernel
theorem c_293_685 : ax_code 293 685 = some (.iadd, 686) := by decide +kernel
theorem c_293_686 : ax_code 293 686 = some (.iaload, 687) := by decide +kernel
theorem c_293_687 : ax_code 293 687 = some (.aload 0, 688) := by decide +kernel
theorem c_293_688 : ax_code 293 688 = some (.iload 3, 689) := by decide +kernel
theorem c_293_689 : ax_code 293 689 = some (.iconst 2, 690) := by decide +kernel
theorem c_293_690 : ax_code 293 690 = some (.iadd, 691) := by decide +kernel
theorem c_293_691 : ax_code 293 691 = some (.iaload, 692) := by decide +kernel
theorem c_293_692 : ax_code 293 692 = some (.invokevirtual 105, 695) := by decide +kernel
theorem c_293_695 : ax_code 293 695 = some (.aload 2, 696) := by decide +kernel
theorem c_293_696 : ax_code 293 696 = some (.aload 0, 697) := by decide +kernel
theorem c_293_697 : ax_code 293 697 = some (.iload 3, 698) := by decide +kernel
theorem c_293_698 : ax_code 293 698 = some (.iconst 1, 699) := by decide +kernel
theorem c_293_699 : ax_code 293 699 = some (.iadd, 700) := by decide +kernel
theorem c_293_700 : ax_code 293 700 = some (.iaload, 701) := by decide +kernel
theorem c_293_701 : ax_code 293 701 = some (.aload 0, 702) := by decide +kernel
theorem c_293_702 : ax_code 293 702 = some (.iload 3, 703) := by decide +kernel
theorem c_293_703 : ax_code 293 703 = some (.iconst 2, 704) := by decide +kernel
theorem c_293_704 : ax_code 293 704 = some (.iadd, 705) := by decide +kernel
theorem c_293_705 : ax_code 293 705 = some (.iaload, 706) := by decide +kernel
theorem c_293_706 : ax_code 293 706 = some (.invokevirtual 241, 709) := by decide +kernel
theorem c_293_709 : ax_code 293 709 = some (.lcmp, 710) := by decide +kernel
theorem c_293_710 : ax_code 293 710 = some (.ifCond .eq 1455, 713) := by decide +kernel
theorem c_293_713 : ax_code 293 713 = some (.iconst 0, 714) := by decide +kernel
theorem c_293_714 : ax_code 293 714 = some (.ireturn, 715) := by decide +kernel
theorem c_293_715 : ax_code 293 715 = some (.aload 1, 716) := by decide +kernel
theorem c_293_716 : ax_code 293 716 = some (.aload 0, 717) := by decide +kernel
theorem c_293_717 : ax_code 293 717 = some (.iload 3, 718) := by decide +kernel
theorem c_293_718 : ax_code 293 718 = some (.iconst 1, 719) := by decide +kernel
theorem c_293_719 : ax_code 293 719 = some (.iadd, 720) := by decide +kernel
theorem c_293_720 : ax_code 293 720 = some (.iaload, 721) := by decide +kernel
theorem c_293_721 : ax_code 293 721 = some (.aload 0, 722) := by decide +kernel
theorem c_293_722 : ax_code 293 722 = some (.iload 3, 723) := by decide +kernel
theorem c_293_723 : ax_code 293 723 = some (.iconst 2, 724) := by decide +kernel
theorem c_293_724 : ax_code 293 724 = some (.iadd, 725) := by decide +kernel
theorem c_293_725 : ax_code 293 725 = some (.iaload, 726) := by decide +kernel
theorem c_293_726 : ax_code 293 726 = some (.aload 0, 727) := by decide +kernel
theorem c_293_727 : ax_code 293 727 = some (.iload 3, 728) := by decide +kernel
theorem c_293_728 : ax_code 293 728 = some (.iconst 3, 729) := by decide +kernel
theorem c_293_729 : ax_code 293 729 = some (.iadd, 730) := by decide +kernel
theorem c_293_730 : ax_code 293 730 = some (.iaload, 731) := by decide +kernel
theorem c_293_731 : ax_code 293 731 = some (.invokevirtual 106, 734) := by decide +kernel
theorem c_293_734 : ax_code 293 734 = some (.aload 2, 735) := by decide +kernel
theorem c_293_735 : ax_code 293 735 = some (.aload 0, 736) := by decide +kernel
theorem c_293_736 : ax_code 293 736 = some (.iload 3, 737) := by decide +kernel
theorem c_293_737 : ax_code 293 737 = some (.iconst 1, 738) := by decide +kernel
theorem c_293_738 : ax_code 293 738 = some (.iadd, 739) := by decide +kernel
theorem c_293_739 : ax_code 293 739 = some (.iaload, 740) := by decide +kernel
theorem c_293_740 : ax_code 293 740 = some (.aload 0, 741) := by decide +kernel
theorem c_293_741 : ax_code 293 741 = some (.iload 3, 742) := by decide +kernel
theorem c_293_742 : ax_code 293 742 = some (.iconst 2, 743) := by decide +kernel
theorem c_293_743 : ax_code 293 743 = some (.iadd, 744) := by decide +kernel
theorem c_293_744 : ax_code 293 744 = some (.iaload, 745) := by decide +kernel
theorem c_293_745 : ax_code 293 745 = some (.aload 0, 746) := by decide +kernel
theorem c_293_746 : ax_code 293 746 = some (.iload 3, 747) := by decide +kernel
theorem c_293_747 : ax_code 293 747 = some (.iconst 3, 748) := by decide +kernel
theorem c_293_748 : ax_code 293 748 = some (.iadd, 749) := by decide +kernel
theorem c_293_749 : ax_code 293 749 = some (.iaload, 750) := by decide +kernel
theorem c_293_750 : ax_code 293 750 = some (.invokevirtual 242, 753) := by decide +kernel
theorem c_293_753 : ax_code 293 753 = some (.lcmp, 754) := by decide +kernel
theorem c_293_754 : ax_code 293 754 = some (.ifCond .eq 1455, 757) := by decide +kernel
theorem c_293_757 : ax_code 293 757 = some (.iconst 0, 758) := by decide +kernel
theorem c_293_758 : ax_code 293 758 = some (.ireturn, 759) := by decide +kernel
theorem c_293_759 : ax_code 293 759 = some (.aload 1, 760) := by decide +kernel
theorem c_293_760 : ax_code 293 760 = some (.aload 0, 761) := by decide +kernel
theorem c_293_761 : ax_code 293 761 = some (.iload 3, 762) := by decide +kernel
theorem c_293_762 : ax_code 293 762 = some (.iconst 1, 763) := by decide +kernel
theorem c_293_763 : ax_code 293 763 = some (.iadd, 764) := by decide +kernel
theorem c_293_764 : ax_code 293 764 = some (.iaload, 765) := by decide +kernel
theorem c_293_765 : ax_code 293 765 = some (.aload 0, 766) := by decide +kernel
theorem c_293_766 : ax_code 293 766 = some (.iload 3, 767) := by decide +kernel
theorem c_293_767 : ax_code 293 767 = some (.iconst 2, 768) := by decide +kernel
theorem c_293_768 : ax_code 293 768 = some (.iadd, 769) := by decide +kernel
theorem c_293_769 : ax_code 293 769 = some (.iaload, 770) := by decide +kernel
theorem c_293_770 : ax_code 293 770 = some (.invokevirtual 107, 773) := by decide +kernel
theorem c_293_773 : ax_code 293 773 = some (.aload 2, 774) := by decide +kernel
theorem c_293_774 : ax_code 293 774 = some (.aload 0, 775) := by decide +kernel
theorem c_293_775 : ax_code 293 775 = some (.iload 3, 776) := by decide +kernel
theorem c_293_776 : ax_code 293 776 = some (.iconst 1, 777) := by decide +kernel
theorem c_293_777 : ax_code 293 777 = some (.iadd, 778) := by decide +kernel
theorem c_293_778 : ax_code 293 778 = some (.iaload, 779) := by decide +kernel
theorem c_293_779 : ax_code 293 779 = some (.aload 0, 780) := by decide +kernel
theorem c_293_780 : ax_code 293 780 = some (.iload 3, 781) := by decide +kernel
theorem c_293_781 : ax_code 293 781 = some (.iconst 2, 782) := by decide +kernel
theorem c_293_782 : ax_code 293 782 = some (.iadd, 783) := by decide +kernel
theorem c_293_783 : ax_code 293 783 = some (.iaload, 784) := by decide +kernel
theorem c_293_784 : ax_code 293 784 = some (.invokevirtual 243, 787) := by decide +kernel
theorem c_293_787 : ax_code 293 787 = some (.lcmp, 788) := by decide +kernel
theorem c_293_788 : ax_code 293 788 = some (.ifCond .eq 1455, 791) := by decide +kernel
theorem c_293_791 : ax_code 293 791 = some (.iconst 0, 792) := by decide +kernel
theorem c_293_792 : ax_code 293 792 = some (.ireturn, 793) := by decide +kernel
theorem c_293_793 : ax_code 293 793 = some (.aload 1, 794) := by decide +kernel
theorem c_293_794 : ax_code 293 794 = some (.aload 0, 795) := by decide +kernel
theorem c_293_795 : ax_code 293 795 = some (.iload 3, 796) := by decide +kernel
theorem c_293_796 : ax_code 293 796 = some (.iconst 1, 797) := by decide +kernel
theorem c_293_797 : ax_code 293 797 = some (.iadd, 798) := by decide +kernel
theorem c_293_798 : ax_code 293 798 = some (.iaload, 799) := by decide +kernel
theorem c_293_799 : ax_code 293 799 = some (.aload 0, 800) := by decide +kernel
theorem c_293_800 : ax_code 293 800 = some (.iload 3, 801) := by decide +kernel
theorem c_293_801 : ax_code 293 801 = some (.iconst 2, 802) := by decide +kernel
theorem c_293_802 : ax_code 293 802 = some (.iadd, 803) := by decide +kernel
theorem c_293_803 : ax_code 293 803 = some (.iaload, 804) := by decide +kernel
theorem c_293_804 : ax_code 293 804 = some (.invokevirtual 110, 807) := by decide +kernel
theorem c_293_807 : ax_code 293 807 = some (.aload 2, 808) := by decide +kernel
theorem c_293_808 : ax_code 293 808 = some (.aload 0, 809) := by decide +kernel
theorem c_293_809 : ax_code 293 809 = some (.iload 3, 810) := by decide +kernel
theorem c_293_810 : ax_code 293 810 = some (.iconst 1, 811) := by decide +kernel
theorem c_293_811 : ax_code 293 811 = some (.iadd, 812) := by decide +kernel
theorem c_293_812 : ax_code 293 812 = some (.iaload, 813) := by decide +kernel
theorem c_293_813 : ax_code 293 813 = some (.aload 0, 814) := by decide +kernel
theorem c_293_814 : ax_code 293 814 = some (.iload 3, 815) := by decide +kernel
theorem c_293_815 : ax_code 293 815 = some (.iconst 2, 816) := by decide +kernel
theorem c_293_816 : ax_code 293 816 = some (.iadd, 817) := by decide +kernel
theorem c_293_817 : ax_code 293 817 = some (.iaload, 818) := by decide +kernel
theorem c_293_818 : ax_code 293 818 = some (.invokevirtual 246, 821) := by decide +kernel
theorem c_293_821 : ax_code 293 821 = some (.lcmp, 822) := by decide +kernel
theorem c_293_822 : ax_code 293 822 = some (.ifCond .eq 1455, 825) := by decide +kernel
theorem c_293_825 : ax_code 293 825 = some (.iconst 0, 826) := by decide +kernel
theorem c_293_826 : ax_code 293 826 = some (.ireturn, 827) := by decide +kernel
theorem c_293_827 : ax_code 293 827 = some (.aload 1, 828) := by decide +kernel
theorem c_293_828 : ax_code 293 828 = some (.aload 0, 829) := by decide +kernel
theorem c_293_829 : ax_code 293 829 = some (.iload 3, 830) := by decide +kernel
theorem c_293_830 : ax_code 293 830 = some (.iconst 1, 831) := by decide +kernel
theorem c_293_831 : ax_code 293 831 = some (.iadd, 832) := by decide +kernel
theorem c_293_832 : ax_code 293 832 = some (.iaload, 833) := by decide +kernel
theorem c_293_833 : ax_code 293 833 = some (.aload 0, 834) := by decide +kernel
theorem c_293_834 : ax_code 293 834 = some (.iload 3, 835) := by decide +kernel
theorem c_293_835 : ax_code 293 835 = some (.iconst 2, 836) := by decide +kernel
theorem c_293_836 : ax_code 293 836 = some (.iadd, 837) := by decide +kernel
theorem c_293_837 : ax_code 293 837 = some (.iaload, 838) := by decide +kernel
theorem c_293_838 : ax_code 293 838 = some (.aload 0, 839) := by decide +kernel
theorem c_293_839 : ax_code 293 839 = some (.iload 3, 840) := by decide +kernel
theorem c_293_840 : ax_code 293 840 = some (.iconst 3, 841) := by decide +kernel
theorem c_293_841 : ax_code 293 841 = some (.iadd, 842) := by decide +kernel
theorem c_293_842 : ax_code 293 842 = some (.iaload, 843) := by decide +kernel
theorem c_293_843 : ax_code 293 843 = some (.invokevirtual 115, 846) := by decide +kernel
theorem c_293_846 : ax_code 293 846 = some (.aload 2, 847) := by decide +kernel
theorem c_293_847 : ax_code 293 847 = some (.aload 0, 848) := by decide +kernel
theorem c_293_848 : ax_code 293 848 = some (.iload 3, 849) := by decide +kernel
theorem c_293_849 : ax_code 293 849 = some (.iconst 1, 850) := by decide +kernel
theorem c_293_850 : ax_code 293 850 = some (.iadd, 851) := by decide +kernel
theorem c_293_851 : ax_code 293 851 = some (.iaload, 852) := by decide +kernel
theorem c_293_852 : ax_code 293 852 = some (.aload 0, 853) := by decide +kernel
theorem c_293_853 : ax_code 293 853 = some (.iload 3, 854) := by decide +kernel
theorem c_293_854 : ax_code 293 854 = some (.iconst 2, 855) := by decide +kernel
theorem c_293_855 : ax_code 293 855 = some (.iadd, 856) := by decide +kernel
theorem c_293_856 : ax_code 293 856 = some (.iaload, 857) := by decide +kernel
theorem c_293_857 : ax_code 293 857 = some (.aload 0, 858) := by decide +kernel
theorem c_293_858 : ax_code 293 858 = some (.iload 3, 859) := by decide +kernel
theorem c_293_859 : ax_code 293 859 = some (.iconst 3, 860) := by decide +kernel
theorem c_293_860 : ax_code 293 860 = some (.iadd, 861) := by decide +kernel
theorem c_293_861 : ax_code 293 861 = some (.iaload, 862) := by decide +kernel
theorem c_293_862 : ax_code 293 862 = some (.invokevirtual 250, 865) := by decide +kernel
theorem c_293_865 : ax_code 293 865 = some (.lcmp, 866) := by decide +kernel
theorem c_293_866 : ax_code 293 866 = some (.ifCond .eq 1455, 869) := by decide +kernel
theorem c_293_869 : ax_code 293 869 = some (.iconst 0, 870) := by decide +kernel
theorem c_293_870 : ax_code 293 870 = some (.ireturn, 871) := by decide +kernel
theorem c_293_871 : ax_code 293 871 = some (.aload 1, 872) := by decide +kernel
theorem c_293_872 : ax_code 293 872 = some (.aload 0, 873) := by decide +kernel
theorem c_293_873 : ax_code 293 873 = some (.iload 3, 874) := by decide +kernel
theorem c_293_874 : ax_code 293 874 = some (.iconst 1, 875) := by decide +kernel
theorem c_293_875 : ax_code 293 875 = some (.iadd, 876) := by decide +kernel
theorem c_293_876 : ax_code 293 876 = some (.iaload, 877) := by decide +kernel
theorem c_293_877 : ax_code 293 877 = some (.invokevirtual 123, 880) := by decide +kernel
theorem c_293_880 : ax_code 293 880 = some (.aload 2, 881) := by decide +kernel
theorem c_293_881 : ax_code 293 881 = some (.aload 0, 882) := by decide +kernel
theorem c_293_882 : ax_code 293 882 = some (.iload 3, 883) := by decide +kernel
theorem c_293_883 : ax_code 293 883 = some (.iconst 1, 884) := by decide +kernel
theorem c_293_884 : ax_code 293 884 = some (.iadd, 885) := by decide +kernel
theorem c_293_885 : ax_code 293 885 = some (.iaload, 886) := by decide +kernel
theorem c_293_886 : ax_code 293 886 = some (.invokevirtual 251, 889) := by decide +kernel
theorem c_293_889 : ax_code 293 889 = some (.lcmp, 890) := by decide +kernel
theorem c_293_890 : ax_code 293 890 = some (.ifCond .eq 1455, 893) := by decide +kernel
theorem c_293_893 : ax_code 293 893 = some (.iconst 0, 894) := by decide +kernel
theorem c_293_894 : ax_code 293 894 = some (.ireturn, 895) := by decide +kernel
theorem c_293_895 : ax_code 293 895 = some (.aload 1, 896) := by decide +kernel
theorem c_293_896 : ax_code 293 896 = some (.aload 0, 897) := by decide +kernel
theorem c_293_897 : ax_code 293 897 = some (.iload 3, 898) := by decide +kernel
theorem c_293_898 : ax_code 293 898 = some (.iconst 1, 899) := by decide +kernel
theorem c_293_899 : ax_code 293 899 = some (.iadd, 900) := by decide +kernel
theorem c_293_900 : ax_code 293 900 = some (.iaload, 901) := by decide +kernel
theorem c_293_901 : ax_code 293 901 = some (.invokevirtual 130, 904) := by decide +kernel
theorem c_293_904 : ax_code 293 904 = some (.aload 2, 905) := by decide +kernel
theorem c_293_905 : ax_code 293 905 = some (.aload 0, 906) := by decide +kernel
theorem c_293_906 : ax_code 293 906 = some (.iload 3, 907) := by decide +kernel
theorem c_293_907 : ax_code 293 907 = some (.iconst 1, 908) := by decide +kernel
theorem c_293_908 : ax_code 293 908 = some (.iadd, 909) := by decide +kernel
theorem c_293_909 : ax_code 293 909 = some (.iaload, 910) := by decide +kernel
theorem c_293_910 : ax_code 293 910 = some (.invokevirtual 254, 913) := by decide +kernel
theorem c_293_913 : ax_code 293 913 = some (.lcmp, 914) := by decide +kernel
theorem c_293_914 : ax_code 293 914 = some (.ifCond .eq 1455, 917) := by decide +kernel
theorem c_293_917 : ax_code 293 917 = some (.iconst 0, 918) := by decide +kernel
theorem c_293_918 : ax_code 293 918 = some (.ireturn, 919) := by decide +kernel
theorem c_293_919 : ax_code 293 919 = some (.aload 1, 920) := by decide +kernel
theorem c_293_920 : ax_code 293 920 = some (.aload 0, 921) := by decide +kernel
theorem c_293_921 : ax_code 293 921 = some (.iload 3, 922) := by decide +kernel
theorem c_293_922 : ax_code 293 922 = some (.iconst 1, 923) := by decide +kernel
theorem c_293_923 : ax_code 293 923 = some (.iadd, 924) := by decide +kernel
theorem c_293_924 : ax_code 293 924 = some (.iaload, 925) := by decide +kernel
theorem c_293_925 : ax_code 293 925 = some (.aload 0, 926) := by decide +kernel
theorem c_293_926 : ax_code 293 926 = some (.iload 3, 927) := by decide +kernel
theorem c_293_927 : ax_code 293 927 = some (.iconst 2, 928) := by decide +kernel
theorem c_293_928 : ax_code 293 928 = some (.iadd, 929) := by decide +kernel
theorem c_293_929 : ax_code 293 929 = some (.iaload, 930) := by decide +kernel
theorem c_293_930 : ax_code 293 930 = some (.invokevirtual 131, 933) := by decide +kernel
theorem c_293_933 : ax_code 293 933 = some (.aload 2, 934) := by decide +kernel
theorem c_293_934 : ax_code 293 934 = some (.aload 0, 935) := by decide +kernel
theorem c_293_935 : ax_code 293 935 = some (.iload 3, 936) := by decide +kernel
theorem c_293_936 : ax_code 293 936 = some (.iconst 1, 937) := by decide +kernel
theorem c_293_937 : ax_code 293 937 = some (.iadd, 938) := by decide +kernel
theorem c_293_938 : ax_code 293 938 = some (.iaload, 939) := by decide +kernel
theorem c_293_939 : ax_code 293 939 = some (.aload 0, 940) := by decide +kernel
theorem c_293_940 : ax_code 293 940 = some (.iload 3, 941) := by decide +kernel
theorem c_293_941 : ax_code 293 941 = some (.iconst 2, 942) := by decide +kernel
theorem c_293_942 : ax_code 293 942 = some (.iadd, 943) := by decide +kernel
theorem c_293_943 : ax_code 293 943 = some (.iaload, 944) := by decide +kernel
theorem c_293_944 : ax_code 293 944 = some (.invokevirtual 255, 947) := by decide +kernel
theorem c_293_947 : ax_code 293 947 = some (.lcmp, 948) := by decide +kernel
theorem c_293_948 : ax_code 293 948 = some (.ifCond .eq 1455, 951) := by decide +kernel
theorem c_293_951 : ax_code 293 951 = some (.iconst 0, 952) := by decide +kernel
theorem c_293_952 : ax_code 293 952 = some (.ireturn, 953) := by decide +kernel
theorem c_293_953 : ax_code 293 953 = some (.aload 1, 954) := by decide +kernel
theorem c_293_954 : ax_code 293 954 = some (.aload 0, 955) := by decide +kernel
theorem c_293_955 : ax_code 293 955 = some (.iload 3, 956) := by decide +kernel
theorem c_293_956 : ax_code 293 956 = some (.iconst 1, 957) := by decide +kernel
theorem c_293_957 : ax_code 293 957 = some (.iadd, 958) := by decide +kernel
theorem c_293_958 : ax_code 293 958 = some (.iaload, 959) := by decide +kernel
theorem c_293_959 : ax_code 293 959 = some (.aload 0, 960) := by decide +kernel
theorem c_293_960 : ax_code 293 960 = some (.iload 3, 961) := by decide +kernel
theorem c_293_961 : ax_code 293 961 = some (.iconst 2, 962) := by decide +kernel
theorem c_293_962 : ax_code 293 962 = some (.iadd, 963) := by decide +kernel
theorem c_293_963 : ax_code 293 963 = some (.iaload, 964) := by decide +kernel
theorem c_293_964 : ax_code 293 964 = some (.invokevirtual 134, 967) := by decide +kernel
theorem c_293_967 : ax_code 293 967 = some (.aload 2, 968) := by decide +kernel
theorem c_293_968 : ax_code 293 968 = some (.aload 0, 969) := by decide +kernel
theorem c_293_969 : ax_code 293 969 = some (.iload 3, 970) := by decide +kernel
theorem c_293_970 : ax_code 293 970 = some (.iconst 1, 971) := by decide +kernel
theorem c_293_971 : ax_code 293 971 = some (.iadd, 972) := by decide +kernel
theorem c_293_972 : ax_code 293 972 = some (.iaload, 973) := by decide +kernel
theorem c_293_973 : ax_code 293 973 = some (.aload 0, 974) := by decide +kernel
theorem c_293_974 : ax_code 293 974 = some (.iload 3, 975) := by decide +kernel
theorem c_293_975 : ax_code 293 975 = some (.iconst 2, 976) := by decide +kernel
theorem c_293_976 : ax_code 293 976 = some (.iadd, 977) := by decide +kernel
theorem c_293_977 : ax_code 293 977 = some (.iaload, 978) := by decide +kernel
theorem c_293_978 : ax_code 293 978 = some (.invokevirtual 257, 981) := by decide +kernel
theorem c_293_981 : ax_code 293 981 = some (.lcmp, 982) := by decide +kernel
theorem c_293_982 : ax_code 293 982 = some (.ifCond .eq 1455, 985) := by decide +kernel
theorem c_293_985 : ax_code 293 985 = some (.iconst 0, 986) := by decide +kernel
theorem c_293_986 : ax_code 293 986 = some (.ireturn, 987) := by decide +kernel
theorem c_293_987 : ax_code 293 987 = some (.aload 1, 988) := by decide +kernel
theorem c_293_988 : ax_code 293 988 = some (.aload 0, 989) := by decide +kernel
theorem c_293_989 : ax_code 293 989 = some (.iload 3, 990) := by decide +kernel
theorem c_293_990 : ax_code 293 990 = some (.iconst 1, 991) := by decide +kernel
theorem c_293_991 : ax_code 293 991 = some (.iadd, 992) := by decide +kernel
theorem c_293_992 : ax_code 293 992 = some (.iaload, 993) := by decide +kernel
theorem c_293_993 : ax_code 293 993 = some (.aload 0, 994) := by decide +kernel
theorem c_293_994 : ax_code 293 994 = some (.iload 3, 995) := by decide +kernel
theorem c_293_995 : ax_code 293 995 = some (.iconst 2, 996) := by decide +kernel
theorem c_293_996 : ax_code 293 996 = some (.iadd, 997) := by decide +kernel
theorem c_293_997 : ax_code 293 997 = some (.iaload, 998) := by decide +kernel
theorem c_293_998 : ax_code 293 998 = some (.invokevirtual 153, 1001) := by decide +kernel
theorem c_293_1001 : ax_code 293 1001 = some (.aload 2, 1002) := by decide +kernel
theorem c_293_1002 : ax_code 293 1002 = some (.aload 0, 1003) := by decide +kernel
theorem c_293_1003 : ax_code 293 1003 = some (.iload 3, 1004) := by decide +kernel
theorem c_293_1004 : ax_code 293 1004 = some (.iconst 1, 1005) := by decide +kernel
theorem c_293_1005 : ax_code 293 1005 = some (.iadd, 1006) := by decide +kernel
theorem c_293_1006 : ax_code 293 1006 = some (.iaload, 1007) := by decide +kernel
theorem c_293_1007 : ax_code 293 1007 = some (.aload 0, 1008) := by decide +kernel
theorem c_293_1008 : ax_code 293 1008 = some (.iload 3, 1009) := by decide +kernel
theorem c_293_1009 : ax_code 293 1009 = some (.iconst 2, 1010) := by decide +kernel
theorem c_293_1010 : ax_code 293 1010 = some (.iadd, 1011) := by decide +kernel
theorem c_293_1011 : ax_code 293 1011 = some (.iaload, 1012) := by decide +kernel
theorem c_293_1012 : ax_code 293 1012 = some (.invokevirtual 266, 1015) := by decide +kernel
theorem c_293_1015 : ax_code 293 1015 = some (.lcmp, 1016) := by decide +kernel
theorem c_293_1016 : ax_code 293 1016 = some (.ifCond .eq 1455, 1019) := by decide +kernel
theorem c_293_1019 : ax_code 293 1019 = some (.iconst 0, 1020) := by decide +kernel
theorem c_293_1020 : ax_code 293 1020 = some (.ireturn, 1021) := by decide +kernel
theorem c_293_1021 : ax_code 293 1021 = some (.aload 1, 1022) := by decide +kernel
theorem c_293_1022 : ax_code 293 1022 = some (.aload 0, 1023) := by decide +kernel
theorem c_293_1023 : ax_code 293 1023 = some (.iload 3, 1024) := by decide +kernel
theorem c_293_1024 : ax_code 293 1024 = some (.iconst 1, 1025) := by decide +kernel
theorem c_293_1025 : ax_code 293 1025 = some (.iadd, 1026) := by decide +kernel
theorem c_293_1026 : ax_code 293 1026 = some (.iaload, 1027) := by decide +kernel
theorem c_293_1027 : ax_code 293 1027 = some (.aload 0, 1028) := by decide +kernel
theorem c_293_1028 : ax_code 293 1028 = some (.iload 3, 1029) := by decide +kernel
theorem c_293_1029 : ax_code 293 1029 = some (.iconst 2, 1030) := by decide +kernel
theorem c_293_1030 : ax_code 293 1030 = some (.iadd, 1031) := by decide +kernel
theorem c_293_1031 : ax_code 293 1031 = some (.iaload, 1032) := by decide +kernel
theorem c_293_1032 : ax_code 293 1032 = some (.aload 0, 1033) := by decide +kernel
theorem c_293_1033 : ax_code 293 1033 = some (.iload 3, 1034) := by decide +kernel
theorem c_293_1034 : ax_code 293 1034 = some (.iconst 3, 1035) := by decide +kernel
theorem c_293_1035 : ax_code 293 1035 = some (.iadd, 1036) := by decide +kernel
theorem c_293_1036 : ax_code 293 1036 = some (.iaload, 1037) := by decide +kernel
theorem c_293_1037 : ax_code 293 1037 = some (.invokevirtual 156, 1040) := by decide +kernel
theorem c_293_1040 : ax_code 293 1040 = some (.aload 2, 1041) := by decide +kernel
theorem c_293_1041 : ax_code 293 1041 = some (.aload 0, 1042) := by decide +kernel
theorem c_293_1042 : ax_code 293 1042 = some (.iload 3, 1043) := by decide +kernel
theorem c_293_1043 : ax_code 293 1043 = some (.iconst 1, 1044) := by decide +kernel
theorem c_293_1044 : ax_code 293 1044 = some (.iadd, 1045) := by decide +kernel
theorem c_293_1045 : ax_code 293 1045 = some (.iaload, 1046) := by decide +kernel
theorem c_293_1046 : ax_code 293 1046 = some (.aload 0, 1047) := by decide +kernel
theorem c_293_1047 : ax_code 293 1047 = some (.iload 3, 1048) := by decide +kernel
theorem c_293_1048 : ax_code 293 1048 = some (.iconst 2, 1049) := by decide +kernel
theorem c_293_1049 : ax_code 293 1049 = some (.iadd, 1050) := by decide +kernel
theorem c_293_1050 : ax_code 293 1050 = some (.iaload, 1051) := by decide +kernel
theorem c_293_1051 : ax_code 293 1051 = some (.aload 0, 1052) := by decide +kernel
theorem c_293_1052 : ax_code 293 1052 = some (.iload 3, 1053) := by decide +kernel
theorem c_293_1053 : ax_code 293 1053 = some (.iconst 3, 1054) := by decide +kernel
theorem c_293_1054 : ax_code 293 1054 = some (.iadd, 1055) := by decide +kernel
theorem c_293_1055 : ax_code 293 1055 = some (.iaload, 1056) := by decide +kernel
theorem c_293_1056 : ax_code 293 1056 = some (.invokevirtual 268, 1059) := by decide +kernel
theorem c_293_1059 : ax_code 293 1059 = some (.lcmp, 1060) := by decide +kernel
theorem c_293_1060 : ax_code 293 1060 = some (.ifCond .eq 1455, 1063) := by decide +kernel
theorem c_293_1063 : ax_code 293 1063 = some (.iconst 0, 1064) := by decide +kernel
theorem c_293_1064 : ax_code 293 1064 = some (.ireturn, 1065) := by decide +kernel
theorem c_293_1065 : ax_code 293 1065 = some (.aload 1, 1066) := by decide +kernel
theorem c_293_1066 : ax_code 293 1066 = some (.aload 0, 1067) := by decide +kernel
theorem c_293_1067 : ax_code 293 1067 = some (.iload 3, 1068) := by decide +kernel
theorem c_293_1068 : ax_code 293 1068 = some (.iconst 1, 1069) := by decide +kernel
theorem c_293_1069 : ax_code 293 1069 = some (.iadd, 1070) := by decide +kernel
theorem c_293_1070 : ax_code 293 1070 = some (.iaload, 1071) := by decide +kernel
theorem c_293_1071 : ax_code 293 1071 = some (.aload 0, 1072) := by decide +kernel
theorem c_293_1072 : ax_code 293 1072 = some (.iload 3, 1073) := by decide +kernel
theorem c_293_1073 : ax_code 293 1073 = some (.iconst 2, 1074) := by decide +kernel
theorem c_293_1074 : ax_code 293 1074 = some (.iadd, 1075) := by decide +kernel
theorem c_293_1075 : ax_code 293 1075 = some (.iaload, 1076) := by decide +kernel
theorem c_293_1076 : ax_code 293 1076 = some (.invokevirtual 159, 1079) := by decide +kernel
theorem c_293_1079 : ax_code 293 1079 = some (.aload 2, 1080) := by decide +kernel
theorem c_293_1080 : ax_code 293 1080 = some (.aload 0, 1081) := by decide +kernel
theorem c_293_1081 : ax_code 293 1081 = some (.iload 3, 1082) := by decide +kernel
theorem c_293_1082 : ax_code 293 1082 = some (.iconst 1, 1083) := by decide +kernel
theorem c_293_1083 : ax_code 293 1083 = some (.iadd, 1084) := by decide +kernel
theorem c_293_1084 : ax_code 293 1084 = some (.iaload, 1085) := by decide +kernel
theorem c_293_1085 : ax_code 293 1085 = some (.aload 0, 1086) := by decide +kernel
theorem c_293_1086 : ax_code 293 1086 = some (.iload 3, 1087) := by decide +kernel
theorem c_293_1087 : ax_code 293 1087 = some (.iconst 2, 1088) := by decide +kernel
theorem c_293_1088 : ax_code 293 1088 = some (.iadd, 1089) := by decide +kernel
theorem c_293_1089 : ax_code 293 1089 = some (.iaload, 1090) := by decide +kernel
theorem c_293_1090 : ax_code 293 1090 = some (.invokevirtual 269, 1093) := by decide +kernel
theorem c_293_1093 : ax_code 293 1093 = some (.lcmp, 1094) := by decide +kernel
theorem c_293_1094 : ax_code 293 1094 = some (.ifCond .eq 1455, 1097) := by decide +kernel
theorem c_293_1097 : ax_code 293 1097 = some (.iconst 0, 1098) := by decide +kernel
theorem c_293_1098 : ax_code 293 1098 = some (.ireturn, 1099) := by decide +kernel
theorem c_293_1099 : ax_code 293 1099 = some (.aload 1, 1100) := by decide +kernel
theorem c_293_1100 : ax_code 293 1100 = some (.aload 0, 1101) := by decide +kernel
theorem c_293_1101 : ax_code 293 1101 = some (.iload 3, 1102) := by decide +kernel
theorem c_293_1102 : ax_code 293 1102 = some (.iconst 1, 1103) := by decide +kernel
theorem c_293_1103 : ax_code 293 1103 = some (.iadd, 1104) := by decide +kernel
theorem c_293_1104 : ax_code 293 1104 = some (.iaload, 1105) := by decide +kernel
theorem c_293_1105 : ax_code 293 1105 = some (.aload 0, 1106) := by decide +kernel
theorem c_293_1106 : ax_code 293 1106 = some (.iload 3, 1107) := by decide +kernel
theorem c_293_1107 : ax_code 293 1107 = some (.iconst 2, 1108) := by decide +kernel
theorem c_293_1108 : ax_code 293 1108 = some (.iadd, 1109) := by decide +kernel
theorem c_293_1109 : ax_code 293 1109 = some (.iaload, 1110) := by decide +kernel
theorem c_293_1110 : ax_code 293 1110 = some (.invokevirtual 164, 1113) := by decide +kernel
theorem c_293_1113 : ax_code 293 1113 = some (.aload 2, 1114) := by decide +kernel
theorem c_293_1114 : ax_code 293 1114 = some (.aload 0, 1115) := by decide +kernel
theorem c_293_1115 : ax_code 293 1115 = some (.iload 3, 1116) := by decide +kernel
theorem c_293_1116 : ax_code 293 1116 = some (.iconst 1, 1117) := by decide +kernel
theorem c_293_1117 : ax_code 293 1117 = some (.iadd, 1118) := by decide +kernel
theorem c_293_1118 : ax_code 293 1118 = some (.iaload, 1119) := by decide +kernel
theorem c_293_1119 : ax_code 293 1119 = some (.aload 0, 1120) := by decide +kernel
theorem c_293_1120 : ax_code 293 1120 = some (.iload 3, 1121) := by decide +kernel
theorem c_293_1121 : ax_code 293 1121 = some (.iconst 2, 1122) := by decide +kernel
theorem c_293_1122 : ax_code 293 1122 = some (.iadd, 1123) := by decide +kernel
theorem c_293_1123 : ax_code 293 1123 = some (.iaload, 1124) := by decide +kernel
theorem c_293_1124 : ax_code 293 1124 = some (.invokevirtual 271, 1127) := by decide +kernel
theorem c_293_1127 : ax_code 293 1127 = some (.lcmp, 1128) := by decide +kernel
theorem c_293_1128 : ax_code 293 1128 = some (.ifCond .eq 1455, 1131) := by decide +kernel
theorem c_293_1131 : ax_code 293 1131 = some (.iconst 0, 1132) := by decide +kernel
theorem c_293_1132 : ax_code 293 1132 = some (.ireturn, 1133) := by decide +kernel
theorem c_293_1133 : ax_code 293 1133 = some (.aload 1, 1134) := by decide +kernel
theorem c_293_1134 : ax_code 293 1134 = some (.aload 0, 1135) := by decide +kernel
theorem c_293_1135 : ax_code 293 1135 = some (.iload 3, 1136) := by decide +kernel
theorem c_293_1136 : ax_code 293 1136 = some (.iconst 1, 1137) := by decide +kernel
theorem c_293_1137 : ax_code 293 1137 = some (.iadd, 1138) := by decide +kernel
theorem c_293_1138 : ax_code 293 1138 = some (.iaload, 1139) := by decide +kernel
theorem c_293_1139 : ax_code 293 1139 = some (.aload 0, 1140) := by decide +kernel
theorem c_293_1140 : ax_code 293 1140 = some (.iload 3, 1141) := by decide +kernel
theorem c_293_1141 : ax_code 293 1141 = some (.iconst 2, 1142) := by decide +kernel
theorem c_293_1142 : ax_code 293 1142 = some (.iadd, 1143) := by decide +kernel
theorem c_293_1143 : ax_code 293 1143 = some (.iaload, 1144) := by decide +kernel
theorem c_293_1144 : ax_code 293 1144 = some (.aload 0, 1145) := by decide +kernel
theorem c_293_1145 : ax_code 293 1145 = some (.iload 3, 1146) := by decide +kernel
theorem c_293_1146 : ax_code 293 1146 = some (.iconst 3, 1147) := by decide +kernel
theorem c_293_1147 : ax_code 293 1147 = some (.iadd, 1148) := by decide +kernel
theorem c_293_1148 : ax_code 293 1148 = some (.iaload, 1149) := by decide +kernel
theorem c_293_1149 : ax_code 293 1149 = some (.invokevirtual 166, 1152) := by decide +kernel
theorem c_293_1152 : ax_code 293 1152 = some (.aload 2, 1153) := by decide +kernel
theorem c_293_1153 : ax_code 293 1153 = some (.aload 0, 1154) := by decide +kernel
theorem c_293_1154 : ax_code 293 1154 = some (.iload 3, 1155) := by decide +kernel
theorem c_293_1155 : ax_code 293 1155 = some (.iconst 1, 1156) := by decide +kernel
theorem c_293_1156 : ax_code 293 1156 = some (.iadd, 1157) := by decide +kernel
theorem c_293_1157 : ax_code 293 1157 = some (.iaload, 1158) := by decide +kernel
theorem c_293_1158 : ax_code 293 1158 = some (.aload 0, 1159) := by decide +kernel
theorem c_293_1159 : ax_code 293 1159 = some (.iload 3, 1160) := by decide +kernel
theorem c_293_1160 : ax_code 293 1160 = some (.iconst 2, 1161) := by decide +kernel
theorem c_293_1161 : ax_code 293 1161 = some (.iadd, 1162) := by decide +kernel
theorem c_293_1162 : ax_code 293 1162 = some (.iaload, 1163) := by decide +kernel
theorem c_293_1163 : ax_code 293 1163 = some (.aload 0, 1164) := by decide +kernel
theorem c_293_1164 : ax_code 293 1164 = some (.iload 3, 1165) := by decide +kernel
theorem c_293_1165 : ax_code 293 1165 = some (.iconst 3, 1166) := by decide +kernel
theorem c_293_1166 : ax_code 293 1166 = some (.iadd, 1167) := by decide +kernel
theorem c_293_1167 : ax_code 293 1167 = some (.iaload, 1168) := by decide +kernel
theorem c_293_1168 : ax_code 293 1168 = some (.invokevirtual 275, 1171) := by decide +kernel
theorem c_293_1171 : ax_code 293 1171 = some (.lcmp, 1172) := by decide +kernel
theorem c_293_1172 : ax_code 293 1172 = some (.ifCond .eq 1455, 1175) := by decide +kernel
theorem c_293_1175 : ax_code 293 1175 = some (.iconst 0, 1176) := by decide +kernel
theorem c_293_1176 : ax_code 293 1176 = some (.ireturn, 1177) := by decide +kernel
theorem c_293_1177 : ax_code 293 1177 = some (.aload 1, 1178) := by decide +kernel
theorem c_293_1178 : ax_code 293 1178 = some (.aload 0, 1179) := by decide +kernel
theorem c_293_1179 : ax_code 293 1179 = some (.iload 3, 1180) := by decide +kernel
theorem c_293_1180 : ax_code 293 1180 = some (.iconst 1, 1181) := by decide +kernel
theorem c_293_1181 : ax_code 293 1181 = some (.iadd, 1182) := by decide +kernel
theorem c_293_1182 : ax_code 293 1182 = some (.iaload, 1183) := by decide +kernel
theorem c_293_1183 : ax_code 293 1183 = some (.aload 0, 1184) := by decide +kernel
theorem c_293_1184 : ax_code 293 1184 = some (.iload 3, 1185) := by decide +kernel
theorem c_293_1185 : ax_code 293 1185 = some (.iconst 2, 1186) := by decide +kernel
theorem c_293_1186 : ax_code 293 1186 = some (.iadd, 1187) := by decide +kernel
theorem c_293_1187 : ax_code 293 1187 = some (.iaload, 1188) := by decide +kernel
theorem c_293_1188 : ax_code 293 1188 = some (.aload 0, 1189) := by decide +kernel
theorem c_293_1189 : ax_code 293 1189 = some (.iload 3, 1190) := by decide +kernel
theorem c_293_1190 : ax_code 293 1190 = some (.iconst 3, 1191) := by decide +kernel
theorem c_293_1191 : ax_code 293 1191 = some (.iadd, 1192) := by decide +kernel
theorem c_293_1192 : ax_code 293 1192 = some (.iaload, 1193) := by decide +kernel
theorem c_293_1193 : ax_code 293 1193 = some (.aload 0, 1194) := by decide +kernel
theorem c_293_1194 : ax_code 293 1194 = some (.iload 3, 1195) := by decide +kernel
theorem c_293_1195 : ax_code 293 1195 = some (.iconst 4, 1196) := by decide +kernel
theorem c_293_1196 : ax_code 293 1196 = some (.iadd, 1197) := by decide +kernel
theorem c_293_1197 : ax_code 293 1197 = some (.iaload, 1198) := by decide +kernel
theorem c_293_1198 : ax_code 293 1198 = some (.invokevirtual 167, 1201) := by decide +kernel
theorem c_293_1201 : ax_code 293 1201 = some (.aload 2, 1202) := by decide +kernel
theorem c_293_1202 : ax_code 293 1202 = some (.aload 0, 1203) := by decide +kernel
theorem c_293_1203 : ax_code 293 1203 = some (.iload 3, 1204) := by decide +kernel
theorem c_293_1204 : ax_code 293 1204 = some (.iconst 1, 1205) := by decide +kernel
theorem c_293_1205 : ax_code 293 1205 = some (.iadd, 1206) := by decide +kernel
theorem c_293_1206 : ax_code 293 1206 = some (.iaload, 1207) := by decide +kernel
theorem c_293_1207 : ax_code 293 1207 = some (.aload 0, 1208) := by decide +kernel
theorem c_293_1208 : ax_code 293 1208 = some (.iload 3, 1209) := by decide +kernel
theorem c_293_1209 : ax_code 293 1209 = some (.iconst 2, 1210) := by decide +kernel
theorem c_293_1210 : ax_code 293 1210 = some (.iadd, 1211) := by decide +kernel
theorem c_293_1211 : ax_code 293 1211 = some (.iaload, 1212) := by decide +kernel
theorem c_293_1212 : ax_code 293 1212 = some (.aload 0, 1213) := by decide +kernel
theorem c_293_1213 : ax_code 293 1213 = some (.iload 3, 1214) := by decide +kernel
theorem c_293_1214 : ax_code 293 1214 = some (.iconst 3, 1215) := by decide +kernel
theorem c_293_1215 : ax_code 293 1215 = some (.iadd, 1216) := by decide +kernel
theorem c_293_1216 : ax_code 293 1216 = some (.iaload, 1217) := by decide +kernel
theorem c_293_1217 : ax_code 293 1217 = some (.aload 0, 1218) := by decide +kernel
theorem c_293_1218 : ax_code 293 1218 = some (.iload 3, 1219) := by decide +kernel
theorem c_293_1219 : ax_code 293 1219 = some (.iconst 4, 1220) := by decide +kernel
theorem c_293_1220 : ax_code 293 1220 = some (.iadd, 1221) := by decide +kernel
theorem c_293_1221 : ax_code 293 1221 = some (.iaload, 1222) := by decide +kernel
theorem c_293_1222 : ax_code 293 1222 = some (.invokevirtual 276, 1225) := by decide +kernel
theorem c_293_1225 : ax_code 293 1225 = some (.lcmp, 1226) := by decide +kernel
theorem c_293_1226 : ax_code 293 1226 = some (.ifCond .eq 1455, 1229) := by decide +kernel
theorem c_293_1229 : ax_code 293 1229 = some (.iconst 0, 1230) := by decide +kernel
theorem c_293_1230 : ax_code 293 1230 = some (.ireturn, 1231) := by decide +kernel
theorem c_293_1231 : ax_code 293 1231 = some (.aload 1, 1232) := by decide +kernel
theorem c_293_1232 : ax_code 293 1232 = some (.aload 0, 1233) := by decide +kernel
theorem c_293_1233 : ax_code 293 1233 = some (.iload 3, 1234) := by decide +kernel
theorem c_293_1234 : ax_code 293 1234 = some (.iconst 1, 1235) := by decide +kernel
theorem c_293_1235 : ax_code 293 1235 = some (.iadd, 1236) := by decide +kernel
theorem c_293_1236 : ax_code 293 1236 = some (.iaload, 1237) := by decide +kernel
theorem c_293_1237 : ax_code 293 1237 = some (.invokevirtual 170, 1240) := by decide +kernel
theorem c_293_1240 : ax_code 293 1240 = some (.aload 2, 1241) := by decide +kernel
theorem c_293_1241 : ax_code 293 1241 = some (.aload 0, 1242) := by decide +kernel
theorem c_293_1242 : ax_code 293 1242 = some (.iload 3, 1243) := by decide +kernel
theorem c_293_1243 : ax_code 293 1243 = some (.iconst 1, 1244) := by decide +kernel
theorem c_293_1244 : ax_code 293 1244 = some (.iadd, 1245) := by decide +kernel
theorem c_293_1245 : ax_code 293 1245 = some (.iaload, 1246) := by decide +kernel
theorem c_293_1246 : ax_code 293 1246 = some (.invokevirtual 277, 1249) := by decide +kernel
theorem c_293_1249 : ax_code 293 1249 = some (.lcmp, 1250) := by decide +kernel
theorem c_293_1250 : ax_code 293 1250 = some (.ifCond .eq 1455, 1253) := by decide +kernel
theorem c_293_1253 : ax_code 293 1253 = some (.iconst 0, 1254) := by decide +kernel
theorem c_293_1254 : ax_code 293 1254 = some (.ireturn, 1255) := by decide +kernel
theorem c_293_1255 : ax_code 293 1255 = some (.aload 1, 1256) := by decide +kernel
theorem c_293_1256 : ax_code 293 1256 = some (.aload 0, 1257) := by decide +kernel
theorem c_293_1257 : ax_code 293 1257 = some (.iload 3, 1258) := by decide +kernel
theorem c_293_1258 : ax_code 293 1258 = some (.iconst 1, 1259) := by decide +kernel
theorem c_293_1259 : ax_code 293 1259 = some (.iadd, 1260) := by decide +kernel
theorem c_293_1260 : ax_code 293 1260 = some (.iaload, 1261) := by decide +kernel
theorem c_293_1261 : ax_code 293 1261 = some (.invokevirtual 173, 1264) := by decide +kernel
theorem c_293_1264 : ax_code 293 1264 = some (.aload 2, 1265) := by decide +kernel
theorem c_293_1265 : ax_code 293 1265 = some (.aload 0, 1266) := by decide +kernel
theorem c_293_1266 : ax_code 293 1266 = some (.iload 3, 1267) := by decide +kernel
theorem c_293_1267 : ax_code 293 1267 = some (.iconst 1, 1268) := by decide +kernel
theorem c_293_1268 : ax_code 293 1268 = some (.iadd, 1269) := by decide +kernel
theorem c_293_1269 : ax_code 293 1269 = some (.iaload, 1270) := by decide +kernel
theorem c_293_1270 : ax_code 293 1270 = some (.invokevirtual 278, 1273) := by decide +kernel
theorem c_293_1273 : ax_code 293 1273 = some (.lcmp, 1274) := by decide +kernel
theorem c_293_1274 : ax_code 293 1274 = some (.ifCond .eq 1455, 1277) := by decide +kernel
theorem c_293_1277 : ax_code 293 1277 = some (.iconst 0, 1278) := by decide +kernel
theorem c_293_1278 : ax_code 293 1278 = some (.ireturn, 1279) := by decide +kernel
theorem c_293_1279 : ax_code 293 1279 = some (.aload 1, 1280) := by decide +kernel
theorem c_293_1280 : ax_code 293 1280 = some (.aload 0, 1281) := by decide +kernel
theorem c_293_1281 : ax_code 293 1281 = some (.iload 3, 1282) := by decide +kernel
theorem c_293_1282 : ax_code 293 1282 = some (.iconst 1, 1283) := by decide +kernel
theorem c_293_1283 : ax_code 293 1283 = some (.iadd, 1284) := by decide +kernel
theorem c_293_1284 : ax_code 293 1284 = some (.iaload, 1285) := by decide +kernel
theorem c_293_1285 : ax_code 293 1285 = some (.invokevirtual 177, 1288) := by decide +kernel
theorem c_293_1288 : ax_code 293 1288 = some (.aload 2, 1289) := by decide +kernel
theorem c_293_1289 : ax_code 293 1289 = some (.aload 0, 1290) := by decide +kernel
theorem c_293_1290 : ax_code 293 1290 = some (.iload 3, 1291) := by decide +kernel
theorem c_293_1291 : ax_code 293 1291 = some (.iconst 1, 1292) := by decide +kernel
theorem c_293_1292 : ax_code 293 1292 = some (.iadd, 1293) := by decide +kernel
theorem c_293_1293 : ax_code 293 1293 = some (.iaload, 1294) := by decide +kernel
theorem c_293_1294 : ax_code 293 1294 = some (.invokevirtual 279, 1297) := by decide +kernel
theorem c_293_1297 : ax_code 293 1297 = some (.lcmp, 1298) := by decide +kernel
theorem c_293_1298 : ax_code 293 1298 = some (.ifCond .eq 1455, 1301) := by decide +kernel
theorem c_293_1301 : ax_code 293 1301 = some (.iconst 0, 1302) := by decide +kernel
theorem c_293_1302 : ax_code 293 1302 = some (.ireturn, 1303) := by decide +kernel
theorem c_293_1303 : ax_code 293 1303 = some (.aload 1, 1304) := by decide +kernel
theorem c_293_1304 : ax_code 293 1304 = some (.aload 0, 1305) := by decide +kernel
theorem c_293_1305 : ax_code 293 1305 = some (.iload 3, 1306) := by decide +kernel
theorem c_293_1306 : ax_code 293 1306 = some (.iconst 1, 1307) := by decide +kernel
theorem c_293_1307 : ax_code 293 1307 = some (.iadd, 1308) := by decide +kernel
theorem c_293_1308 : ax_code 293 1308 = some (.iaload, 1309) := by decide +kernel
theorem c_293_1309 : ax_code 293 1309 = some (.invokevirtual 178, 1312) := by decide +kernel
theorem c_293_1312 : ax_code 293 1312 = some (.aload 2, 1313) := by decide +kernel
theorem c_293_1313 : ax_code 293 1313 = some (.aload 0, 1314) := by decide +kernel
theorem c_293_1314 : ax_code 293 1314 = some (.iload 3, 1315) := by decide +kernel
theorem c_293_1315 : ax_code 293 1315 = some (.iconst 1, 1316) := by decide +kernel
theorem c_293_1316 : ax_code 293 1316 = some (.iadd, 1317) := by decide +kernel
theorem c_293_1317 : ax_code 293 1317 = some (.iaload, 1318) := by decide +kernel
theorem c_293_1318 : ax_code 293 1318 = some (.invokevirtual 280, 1321) := by decide +kernel
theorem c_293_1321 : ax_code 293 1321 = some (.lcmp, 1322) := by decide +kernel
theorem c_293_1322 : ax_code 293 1322 = some (.ifCond .eq 1455, 1325) := by decide +kernel
theorem c_293_1325 : ax_code 293 1325 = some (.iconst 0, 1326) := by decide +kernel
theorem c_293_1326 : ax_code 293 1326 = some (.ireturn, 1327) := by decide +kernel
theorem c_293_1327 : ax_code 293 1327 = some (.aload 1, 1328) := by decide +kernel
theorem c_293_1328 : ax_code 293 1328 = some (.aload 0, 1329) := by decide +kernel
theorem c_293_1329 : ax_code 293 1329 = some (.iload 3, 1330) := by decide +kernel
theorem c_293_1330 : ax_code 293 1330 = some (.iconst 1, 1331) := by decide +kernel
theorem c_293_1331 : ax_code 293 1331 = some (.iadd, 1332) := by decide +kernel
theorem c_293_1332 : ax_code 293 1332 = some (.iaload, 1333) := by decide +kernel
theorem c_293_1333 : ax_code 293 1333 = some (.aload 0, 1334) := by decide +kernel
theorem c_293_1334 : ax_code 293 1334 = some (.iload 3, 1335) := by decide +kernel
theorem c_293_1335 : ax_code 293 1335 = some (.iconst 2, 1336) := by decide +kernel
theorem c_293_1336 : ax_code 293 1336 = some (.iadd, 1337) := by decide +kernel
theorem c_293_1337 : ax_code 293 1337 = some (.iaload, 1338) := by decide +kernel
theorem c_293_1338 : ax_code 293 1338 = some (.invokevirtual 180, 1341) := by decide +kernel
theorem c_293_1341 : ax_code 293 1341 = some (.aload 2, 1342) := by decide +kernel
theorem c_293_1342 : ax_code 293 1342 = some (.aload 0, 1343) := by decide +kernel
theorem c_293_1343 : ax_code 293 1343 = some (.iload 3, 1344) := by decide +kernel
theorem c_293_1344 : ax_code 293 1344 = some (.iconst 1, 1345) := by decide +kernel
theorem c_293_1345 : ax_code 293 1345 = some (.iadd, 1346) := by decide +kernel
theorem c_293_1346 : ax_code 293 1346 = some (.iaload, 1347) := by decide +kernel
theorem c_293_1347 : ax_code 293 1347 = some (.aload 0, 1348) := by decide +kernel
theorem c_293_1348 : ax_code 293 1348 = some (.iload 3, 1349) := by decide +kernel
theorem c_293_1349 : ax_code 293 1349 = some (.iconst 2, 1350) := by decide +kernel
theorem c_293_1350 : ax_code 293 1350 = some (.iadd, 1351) := by decide +kernel
theorem c_293_1351 : ax_code 293 1351 = some (.iaload, 1352) := by decide +kernel
theorem c_293_1352 : ax_code 293 1352 = some (.invokevirtual 282, 1355) := by decide +kernel
theorem c_293_1355 : ax_code 293 1355 = some (.lcmp, 1356) := by decide +kernel
theorem c_293_1356 : ax_code 293 1356 = some (.ifCond .eq 1455, 1359) := by decide +kernel
theorem c_293_1359 : ax_code 293 1359 = some (.iconst 0, 1360) := by decide +kernel
theorem c_293_1360 : ax_code 293 1360 = some (.ireturn, 1361) := by decide +kernel
theorem c_293_1361 : ax_code 293 1361 = some (.aload 1, 1362) := by decide +kernel
theorem c_293_1362 : ax_code 293 1362 = some (.aload 0, 1363) := by decide +kernel
theorem c_293_1363 : ax_code 293 1363 = some (.iload 3, 1364) := by decide +kernel
theorem c_293_1364 : ax_code 293 1364 = some (.iconst 1, 1365) := by decide +kernel
theorem c_293_1365 : ax_code 293 1365 = some (.iadd, 1366) := by decide +kernel
theorem c_293_1366 : ax_code 293 1366 = some (.iaload, 1367) := by decide +kernel
theorem c_293_1367 : ax_code 293 1367 = some (.aload 0, 1368) := by decide +kernel
theorem c_293_1368 : ax_code 293 1368 = some (.iload 3, 1369) := by decide +kernel
theorem c_293_1369 : ax_code 293 1369 = some (.iconst 2, 1370) := by decide +kernel
theorem c_293_1370 : ax_code 293 1370 = some (.iadd, 1371) := by decide +kernel
theorem c_293_1371 : ax_code 293 1371 = some (.iaload, 1372) := by decide +kernel
theorem c_293_1372 : ax_code 293 1372 = some (.invokevirtual 182, 1375) := by decide +kernel
theorem c_293_1375 : ax_code 293 1375 = some (.aload 2, 1376) := by decide +kernel
theorem c_293_1376 : ax_code 293 1376 = some (.aload 0, 1377) := by decide +kernel
theorem c_293_1377 : ax_code 293 1377 = some (.iload 3, 1378) := by decide +kernel
theorem c_293_1378 : ax_code 293 1378 = some (.iconst 1, 1379) := by decide +kernel
theorem c_293_1379 : ax_code 293 1379 = some (.iadd, 1380) := by decide +kernel
theorem c_293_1380 : ax_code 293 1380 = some (.iaload, 1381) := by decide +kernel
theorem c_293_1381 : ax_code 293 1381 = some (.aload 0, 1382) := by decide +kernel
theorem c_293_1382 : ax_code 293 1382 = some (.iload 3, 1383) := by decide +kernel
theorem c_293_1383 : ax_code 293 1383 = some (.iconst 2, 1384) := by decide +kernel
theorem c_293_1384 : ax_code 293 1384 = some (.iadd, 1385) := by decide +kernel
theorem c_293_1385 : ax_code 293 1385 = some (.iaload, 1386) := by decide +kernel
theorem c_293_1386 : ax_code 293 1386 = some (.invokevirtual 284, 1389) := by decide +kernel
theorem c_293_1389 : ax_code 293 1389 = some (.lcmp, 1390) := by decide +kernel
theorem c_293_1390 : ax_code 293 1390 = some (.ifCond .eq 1455, 1393) := by decide +kernel
theorem c_293_1393 : ax_code 293 1393 = some (.iconst 0, 1394) := by decide +kernel
theorem c_293_1394 : ax_code 293 1394 = some (.ireturn, 1395) := by decide +kernel
theorem c_293_1395 : ax_code 293 1395 = some (.aload 1, 1396) := by decide +kernel
theorem c_293_1396 : ax_code 293 1396 = some (.aload 0, 1397) := by decide +kernel
theorem c_293_1397 : ax_code 293 1397 = some (.iload 3, 1398) := by decide +kernel
theorem c_293_1398 : ax_code 293 1398 = some (.iconst 1, 1399) := by decide +kernel
theorem c_293_1399 : ax_code 293 1399 = some (.iadd, 1400) := by decide +kernel
theorem c_293_1400 : ax_code 293 1400 = some (.iaload, 1401) := by decide +kernel
theorem c_293_1401 : ax_code 293 1401 = some (.invokevirtual 188, 1404) := by decide +kernel
theorem c_293_1404 : ax_code 293 1404 = some (.aload 2, 1405) := by decide +kernel
theorem c_293_1405 : ax_code 293 1405 = some (.aload 0, 1406) := by decide +kernel
theorem c_293_1406 : ax_code 293 1406 = some (.iload 3, 1407) := by decide +kernel
theorem c_293_1407 : ax_code 293 1407 = some (.iconst 1, 1408) := by decide +kernel
theorem c_293_1408 : ax_code 293 1408 = some (.iadd, 1409) := by decide +kernel
theorem c_293_1409 : ax_code 293 1409 = some (.iaload, 1410) := by decide +kernel
theorem c_293_1410 : ax_code 293 1410 = some (.invokevirtual 290, 1413) := by decide +kernel
theorem c_293_1413 : ax_code 293 1413 = some (.if_icmp .eq 1455, 1416) := by decide +kernel
theorem c_293_1416 : ax_code 293 1416 = some (.iconst 0, 1417) := by decide +kernel
theorem c_293_1417 : ax_code 293 1417 = some (.ireturn, 1418) := by decide +kernel
theorem c_293_1418 : ax_code 293 1418 = some (.aload 1, 1419) := by decide +kernel
theorem c_293_1419 : ax_code 293 1419 = some (.aload 0, 1420) := by decide +kernel
theorem c_293_1420 : ax_code 293 1420 = some (.iload 3, 1421) := by decide +kernel
theorem c_293_1421 : ax_code 293 1421 = some (.iconst 1, 1422) := by decide +kernel
theorem c_293_1422 : ax_code 293 1422 = some (.iadd, 1423) := by decide +kernel
theorem c_293_1423 : ax_code 293 1423 = some (.iaload, 1424) := by decide +kernel
theorem c_293_1424 : ax_code 293 1424 = some (.invokevirtual 190, 1427) := by decide +kernel
theorem c_293_1427 : ax_code 293 1427 = some (.aload 2, 1428) := by decide +kernel
theorem c_293_1428 : ax_code 293 1428 = some (.aload 0, 1429) := by decide +kernel
theorem c_293_1429 : ax_code 293 1429 = some (.iload 3, 1430) := by decide +kernel
theorem c_293_1430 : ax_code 293 1430 = some (.iconst 1, 1431) := by decide +kernel
theorem c_293_1431 : ax_code 293 1431 = some (.iadd, 1432) := by decide +kernel
theorem c_293_1432 : ax_code 293 1432 = some (.iaload, 1433) := by decide +kernel
theorem c_293_1433 : ax_code 293 1433 = some (.invokevirtual 291, 1436) := by decide +kernel
theorem c_293_1436 : ax_code 293 1436 = some (.lcmp, 1437) := by decide +kernel
theorem c_293_1437 : ax_code 293 1437 = some (.ifCond .eq 1455, 1440) := by decide +kernel
theorem c_293_1440 : ax_code 293 1440 = some (.iconst 0, 1441) := by decide +kernel
theorem c_293_1441 : ax_code 293 1441 = some (.ireturn, 1442) := by decide +kernel
theorem c_293_1442 : ax_code 293 1442 = some (.aload 1, 1443) := by decide +kernel
theorem c_293_1443 : ax_code 293 1443 = some (.invokevirtual 194, 1446) := by decide +kernel
theorem c_293_1446 : ax_code 293 1446 = some (.aload 2, 1447) := by decide +kernel
theorem c_293_1447 : ax_code 293 1447 = some (.invokevirtual 292, 1450) := by decide +kernel
theorem c_293_1450 : ax_code 293 1450 = some (.if_icmp .eq 1455, 1453) := by decide +kernel
theorem c_293_1453 : ax_code 293 1453 = some (.iconst 0, 1454) := by decide +kernel
theorem c_293_1454 : ax_code 293 1454 = some (.ireturn, 1455) := by decide +kernel
theorem c_293_1455 : ax_code 293 1455 = some (.iinc 3 (7), 1458) := by decide +kernel
theorem c_293_1458 : ax_code 293 1458 = some (.goto 18, 1461) := by decide +kernel
theorem c_293_1461 : ax_code 293 1461 = some (.iconst 1, 1462) := by decide +kernel
theorem c_293_1462 : ax_code 293 1462 = some (.ireturn, 1463) := by decide +kernel
