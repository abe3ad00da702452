/-! instructions, made plain -/
theorem c_196_0 : ax_code 196 0 = some (.aload 0, 1) := by decide +kernel
theorem c_196_1 : ax_code 196 1 = some (.iconst 0, 2) := by decide +kernel
theorem c_196_2 : ax_code 196 2 = some (.putfield 704, 5) := by decide +kernel
theorem c_196_5 : ax_code 196 5 = some (.iload 1, 6) := by decide +kernel
theorem c_196_6 : ax_code 196 6 = some (.invokestatic 197, 9) := by decide +kernel
theorem c_196_9 : ax_code 196 9 = some (.ifCond .eq 30, 12) := by decide +kernel
theorem c_196_12 : ax_code 196 12 = some (.iload 2, 13) := by decide +kernel
theorem c_196_13 : ax_code 196 13 = some (.i2l, 14) := by decide +kernel
theorem c_196_14 : ax_code 196 14 = some (.lconst 0, 15) := by decide +kernel
theorem c_196_15 : ax_code 196 15 = some (.ldc2_w 8, 18) := by decide +kernel
theorem c_196_18 : ax_code 196 18 = some (.invokestatic 198, 21) := by decide +kernel
theorem c_196_21 : ax_code 196 21 = some (.ifCond .eq 30, 24) := by decide +kernel
theorem c_196_24 : ax_code 196 24 = some (.iload 3, 25) := by decide +kernel
theorem c_196_25 : ax_code 196 25 = some (.iconst 40, 27) := by decide +kernel
theorem c_196_27 : ax_code 196 27 = some (.if_icmp .le 34, 30) := by decide +kernel
theorem c_196_30 : ax_code 196 30 = some (.ldc2_w 0, 33) := by decide +kernel
theorem c_196_33 : ax_code 196 33 = some (.lreturn, 34) := by decide +kernel
theorem c_196_34 : ax_code 196 34 = some (.aload 0, 35) := by decide +kernel
theorem c_196_35 : ax_code 196 35 = some (.iconst 0, 36) := by decide +kernel
theorem c_196_36 : ax_code 196 36 = some (.putfield 705, 39) := by decide +kernel
theorem c_196_39 : ax_code 196 39 = some (.iload 3, 40) := by decide +kernel
theorem c_196_40 : ax_code 196 40 = some (.ifCond .ge 49, 43) := by decide +kernel
theorem c_196_43 : ax_code 196 43 = some (.aload 0, 44) := by decide +kernel
theorem c_196_44 : ax_code 196 44 = some (.iconst 4, 45) := by decide +kernel
theorem c_196_45 : ax_code 196 45 = some (.invokevirtual 199, 48) := by decide +kernel
theorem c_196_48 : ax_code 196 48 = some (.lreturn, 49) := by decide +kernel
theorem c_196_49 : ax_code 196 49 = some (.aload 0, 50) := by decide +kernel
theorem c_196_50 : ax_code 196 50 = some (.getfield 706, 53) := by decide +kernel
theorem c_196_53 : ax_code 196 53 = some (.iload 1, 54) := by decide +kernel
theorem c_196_54 : ax_code 196 54 = some (.iload 2, 55) := by decide +kernel
theorem c_196_55 : ax_code 196 55 = some (.iastore, 56) := by decide +kernel
theorem c_196_56 : ax_code 196 56 = some (.aload 0, 57) := by decide +kernel
theorem c_196_57 : ax_code 196 57 = some (.getfield 707, 60) := by decide +kernel
theorem c_196_60 : ax_code 196 60 = some (.iload 1, 61) := by decide +kernel
theorem c_196_61 : ax_code 196 61 = some (.iload 3, 62) := by decide +kernel
theorem c_196_62 : ax_code 196 62 = some (.iastore, 63) := by decide +kernel
theorem c_196_63 : ax_code 196 63 = some (.iconst 0, 64) := by decide +kernel
theorem c_196_64 : ax_code 196 64 = some (.istore 4, 66) := by decide +kernel
theorem c_196_66 : ax_code 196 66 = some (.iload 4, 68) := by decide +kernel
theorem c_196_68 : ax_code 196 68 = some (.iconst 40, 70) := by decide +kernel
theorem c_196_70 : ax_code 196 70 = some (.if_icmp .ge 92, 73) := by decide +kernel
theorem c_196_73 : ax_code 196 73 = some (.aload 0, 74) := by decide +kernel
theorem c_196_74 : ax_code 196 74 = some (.getfield 708, 77) := by decide +kernel
theorem c_196_77 : ax_code 196 77 = some (.iconst 40, 79) := by decide +kernel
theorem c_196_79 : ax_code 196 79 = some (.iload 1, 80) := by decide +kernel
theorem c_196_80 : ax_code 196 80 = some (.imul, 81) := by decide +kernel
theorem c_196_81 : ax_code 196 81 = some (.iload 4, 83) := by decide +kernel
theorem c_196_83 : ax_code 196 83 = some (.iadd, 84) := by decide +kernel
theorem c_196_84 : ax_code 196 84 = some (.iconst 0, 85) := by decide +kernel
theorem c_196_85 : ax_code 196 85 = some (.iastore, 86) := by decide +kernel
theorem c_196_86 : ax_code 196 86 = some (.iinc 4 (1), 89) := by decide +kernel
theorem c_196_89 : ax_code 196 89 = some (.goto 66, 92) := by decide +kernel
theorem c_196_92 : ax_code 196 92 = some (.iload 3, 93) := by decide +kernel
theorem c_196_93 : ax_code 196 93 = some (.i2l, 94) := by decide +kernel
theorem c_196_94 : ax_code 196 94 = some (.lreturn, 95) := by decide +kernel
theorem c_197_0 : ax_code 197 0 = some (.iload 0, 1) := by decide +kernel
theorem c_197_1 : ax_code 197 1 = some (.i2l, 2) := by decide +kernel
theorem c_197_2 : ax_code 197 2 = some (.lconst 0, 3) := by decide +kernel
theorem c_197_3 : ax_code 197 3 = some (.ldc2_w 7, 6) := by decide +kernel
theorem c_197_6 : ax_code 197 6 = some (.invokestatic 198, 9) := by decide +kernel
theorem c_197_9 : ax_code 197 9 = some (.ireturn, 10) := by decide +kernel
theorem c_198_0 : ax_code 198 0 = some (.lload 0, 1) := by decide +kernel
theorem c_198_1 : ax_code 198 1 = some (.lload 2, 2) := by decide +kernel
theorem c_198_2 : ax_code 198 2 = some (.lcmp, 3) := by decide +kernel
theorem c_198_3 : ax_code 198 3 = some (.ifCond .lt 17, 6) := by decide +kernel
theorem c_198_6 : ax_code 198 6 = some (.lload 0, 7) := by decide +kernel
theorem c_198_7 : ax_code 198 7 = some (.lload 4, 9) := by decide +kernel
theorem c_198_9 : ax_code 198 9 = some (.lcmp, 10) := by decide +kernel
theorem c_198_10 : ax_code 198 10 = some (.ifCond .gt 17, 13) := by decide +kernel
theorem c_198_13 : ax_code 198 13 = some (.iconst 1, 14) := by decide +kernel
theorem c_198_14 : ax_code 198 14 = some (.goto 18, 17) := by decide +kernel
theorem c_198_17 : ax_code 198 17 = some (.iconst 0, 18) := by decide +kernel
theorem c_198_18 : ax_code 198 18 = some (.ireturn, 19) := by decide +kernel
theorem c_199_0 : ax_code 199 0 = some (.aload 0, 1) := by decide +kernel
theorem c_199_1 : ax_code 199 1 = some (.iload 1, 2) := by decide +kernel
theorem c_199_2 : ax_code 199 2 = some (.putfield 705, 5) := by decide +kernel
theorem c_199_5 : ax_code 199 5 = some (.ldc2_w 1, 8) := by decide +kernel
theorem c_199_8 : ax_code 199 8 = some (.iload 1, 9) := by decide +kernel
theorem c_199_9 : ax_code 199 9 = some (.i2l, 10) := by decide +kernel
theorem c_199_10 : ax_code 199 10 = some (.lsub, 11) := by decide +kernel
theorem c_199_11 : ax_code 199 11 = some (.lreturn, 12) := by decide +kernel
theorem c_200_0 : ax_code 200 0 = some (.aload 0, 1) := by decide +kernel
theorem c_200_1 : ax_code 200 1 = some (.iconst 0, 2) := by decide +kernel
theorem c_200_2 : ax_code 200 2 = some (.putfield 704, 5) := by decide +kernel
theorem c_200_5 : ax_code 200 5 = some (.iload 1, 6) := by decide +kernel
theorem c_200_6 : ax_code 200 6 = some (.invokestatic 197, 9) := by decide +kernel
theorem c_200_9 : ax_code 200 9 = some (.ifCond .ne 16, 12) := by decide +kernel
theorem c_200_12 : ax_code 200 12 = some (.ldc2_w 0, 15) := by decide +kernel
theorem c_200_15 : ax_code 200 15 = some (.lreturn, 16) := by decide +kernel
theorem c_200_16 : ax_code 200 16 = some (.aload 0, 17) := by decide +kernel
theorem c_200_17 : ax_code 200 17 = some (.iconst 0, 18) := by decide +kernel
theorem c_200_18 : ax_code 200 18 = some (.putfield 705, 21) := by decide +kernel
theorem c_200_21 : ax_code 200 21 = some (.aload 0, 22) := by decide +kernel
theorem c_200_22 : ax_code 200 22 = some (.getfield 706, 25) := by decide +kernel
theorem c_200_25 : ax_code 200 25 = some (.iload 1, 26) := by decide +kernel
theorem c_200_26 : ax_code 200 26 = some (.iaload, 27) := by decide +kernel
theorem c_200_27 : ax_code 200 27 = some (.ifCond .ge 36, 30) := by decide +kernel
theorem c_200_30 : ax_code 200 30 = some (.aload 0, 31) := by decide +kernel
theorem c_200_31 : ax_code 200 31 = some (.iconst 1, 32) := by decide +kernel
theorem c_200_32 : ax_code 200 32 = some (.invokevirtual 199, 35) := by decide +kernel
theorem c_200_35 : ax_code 200 35 = some (.lreturn, 36) := by decide +kernel
theorem c_200_36 : ax_code 200 36 = some (.iload 2, 37) := by decide +kernel
theorem c_200_37 : ax_code 200 37 = some (.i2l, 38) := by decide +kernel
theorem c_200_38 : ax_code 200 38 = some (.lconst 0, 39) := by decide +kernel
theorem c_200_39 : ax_code 200 39 = some (.aload 0, 40) := by decide +kernel
theorem c_200_40 : ax_code 200 40 = some (.getfield 707, 43) := by decide +kernel
theorem c_200_43 : ax_code 200 43 = some (.iload 1, 44) := by decide +kernel
theorem c_200_44 : ax_code 200 44 = some (.iaload, 45) := by decide +kernel
theorem c_200_45 : ax_code 200 45 = some (.iconst 1, 46) := by decide +kernel
theorem c_200_46 : ax_code 200 46 = some (.isub, 47) := by decide +kernel
theorem c_200_47 : ax_code 200 47 = some (.i2l, 48) := by decide +kernel
theorem c_200_48 : ax_code 200 48 = some (.invokestatic 198, 51) := by decide +kernel
theorem c_200_51 : ax_code 200 51 = some (.ifCond .ne 60, 54) := by decide +kernel
theorem c_200_54 : ax_code 200 54 = some (.aload 0, 55) := by decide +kernel
theorem c_200_55 : ax_code 200 55 = some (.iconst 2, 56) := by decide +kernel
theorem c_200_56 : ax_code 200 56 = some (.invokevirtual 199, 59) := by decide +kernel
theorem c_200_59 : ax_code 200 59 = some (.lreturn, 60) := by decide +kernel
theorem c_200_60 : ax_code 200 60 = some (.aload 0, 61) := by decide +kernel
theorem c_200_61 : ax_code 200 61 = some (.getfield 708, 64) := by decide +kernel
theorem c_200_64 : ax_code 200 64 = some (.iconst 40, 66) := by decide +kernel
theorem c_200_66 : ax_code 200 66 = some (.iload 1, 67) := by decide +kernel
theorem c_200_67 : ax_code 200 67 = some (.imul, 68) := by decide +kernel
theorem c_200_68 : ax_code 200 68 = some (.iload 2, 69) := by decide +kernel
theorem c_200_69 : ax_code 200 69 = some (.iadd, 70) := by decide +kernel
theorem c_200_70 : ax_code 200 70 = some (.aload 0, 71) := by decide +kernel
theorem c_200_71 : ax_code 200 71 = some (.getfield 706, 74) := by decide +kernel
theorem c_200_74 : ax_code 200 74 = some (.iload 1, 75) := by decide +kernel
theorem c_200_75 : ax_code 200 75 = some (.iaload, 76) := by decide +kernel
theorem c_200_76 : ax_code 200 76 = some (.ifCond .ne 84, 79) := by decide +kernel
theorem c_200_79 : ax_code 200 79 = some (.iload 3, 80) := by decide +kernel
theorem c_200_80 : ax_code 200 80 = some (.i2b, 81) := by decide +kernel
theorem c_200_81 : ax_code 200 81 = some (.goto 100, 84) := by decide +kernel
theorem c_200_84 : ax_code 200 84 = some (.aload 0, 85) := by decide +kernel
theorem c_200_85 : ax_code 200 85 = some (.getfield 706, 88) := by decide +kernel
theorem c_200_88 : ax_code 200 88 = some (.iload 1, 89) := by decide +kernel
theorem c_200_89 : ax_code 200 89 = some (.iaload, 90) := by decide +kernel
theorem c_200_90 : ax_code 200 90 = some (.iconst 1, 91) := by decide +kernel
theorem c_200_91 : ax_code 200 91 = some (.if_icmp .ne 99, 94) := by decide +kernel
theorem c_200_94 : ax_code 200 94 = some (.iload 3, 95) := by decide +kernel
theorem c_200_95 : ax_code 200 95 = some (.i2s, 96) := by decide +kernel
theorem c_200_96 : ax_code 200 96 = some (.goto 100, 99) := by decide +kernel
theorem c_200_99 : ax_code 200 99 = some (.iload 3, 100) := by decide +kernel
theorem c_200_100 : ax_code 200 100 = some (.iastore, 101) := by decide +kernel
theorem c_200_101 : ax_code 200 101 = some (.aload 0, 102) := by decide +kernel
theorem c_200_102 : ax_code 200 102 = some (.getfield 708, 105) := by decide +kernel
theorem c_200_105 : ax_code 200 105 = some (.iconst 40, 107) := by decide +kernel
theorem c_200_107 : ax_code 200 107 = some (.iload 1, 108) := by decide +kernel
theorem c_200_108 : ax_code 200 108 = some (.imul, 109) := by decide +kernel
theorem c_200_109 : ax_code 200 109 = some (.iload 2, 110) := by decide +kernel
theorem c_200_110 : ax_code 200 110 = some (.iadd, 111) := by decide +kernel
theorem c_200_111 : ax_code 200 111 = some (.iaload, 112) := by decide +kernel
theorem c_200_112 : ax_code 200 112 = some (.i2l, 113) := by decide +kernel
theorem c_200_113 : ax_code 200 113 = some (.lreturn, 114) := by decide +kernel
theorem c_201_0 : ax_code 201 0 = some (.aload 0, 1) := by decide +kernel
theorem c_201_1 : ax_code 201 1 = some (.iconst 0, 2) := by decide +kernel
theorem c_201_2 : ax_code 201 2 = some (.putfield 704, 5) := by decide +kernel
theorem c_201_5 : ax_code 201 5 = some (.iload 1, 6) := by decide +kernel
theorem c_201_6 : ax_code 201 6 = some (.invokestatic 197, 9) := by decide +kernel
theorem c_201_9 : ax_code 201 9 = some (.ifCond .eq 19, 12) := by decide +kernel
theorem c_201_12 : ax_code 201 12 = some (.iload 3, 13) := by decide +kernel
theorem c_201_13 : ax_code 201 13 = some (.invokestatic 197, 16) := by decide +kernel
theorem c_201_16 : ax_code 201 16 = some (.ifCond .ne 23, 19) := by decide +kernel
theorem c_201_19 : ax_code 201 19 = some (.ldc2_w 0, 22) := by decide +kernel
theorem c_201_22 : ax_code 201 22 = some (.lreturn, 23) := by decide +kernel
theorem c_201_23 : ax_code 201 23 = some (.aload 0, 24) := by decide +kernel
theorem c_201_24 : ax_code 201 24 = some (.iconst 0, 25) := by decide +kernel
theorem c_201_25 : ax_code 201 25 = some (.putfield 705, 28) := by decide +kernel
theorem c_201_28 : ax_code 201 28 = some (.aload 0, 29) := by decide +kernel
theorem c_201_29 : ax_code 201 29 = some (.getfield 706, 32) := by decide +kernel
theorem c_201_32 : ax_code 201 32 = some (.iload 1, 33) := by decide +kernel
theorem c_201_33 : ax_code 201 33 = some (.iaload, 34) := by decide +kernel
theorem c_201_34 : ax_code 201 34 = some (.ifCond .lt 46, 37) := by decide +kernel
theorem c_201_37 : ax_code 201 37 = some (.aload 0, 38) := by decide +kernel
theorem c_201_38 : ax_code 201 38 = some (.getfield 706, 41) := by decide +kernel
theorem c_201_41 : ax_code 201 41 = some (.iload 3, 42) := by decide +kernel
theorem c_201_42 : ax_code 201 42 = some (.iaload, 43) := by decide +kernel
theorem c_201_43 : ax_code 201 43 = some (.ifCond .ge 52, 46) := by decide +kernel
theorem c_201_46 : ax_code 201 46 = some (.aload 0, 47) := by decide +kernel
theorem c_201_47 : ax_code 201 47 = some (.iconst 1, 48) := by decide +kernel
theorem c_201_48 : ax_code 201 48 = some (.invokevirtual 199, 51) := by decide +kernel
theorem c_201_51 : ax_code 201 51 = some (.lreturn, 52) := by decide +kernel
theorem c_201_52 : ax_code 201 52 = some (.aload 0, 53) := by decide +kernel
theorem c_201_53 : ax_code 201 53 = some (.getfield 706, 56) := by decide +kernel
theorem c_201_56 : ax_code 201 56 = some (.iload 1, 57) := by decide +kernel
theorem c_201_57 : ax_code 201 57 = some (.iaload, 58) := by decide +kernel
theorem c_201_58 : ax_code 201 58 = some (.aload 0, 59) := by decide +kernel
theorem c_201_59 : ax_code 201 59 = some (.getfield 706, 62) := by decide +kernel
theorem c_201_62 : ax_code 201 62 = some (.iload 3, 63) := by decide +kernel
theorem c_201_63 : ax_code 201 63 = some (.iaload, 64) := by decide +kernel
theorem c_201_64 : ax_code 201 64 = some (.if_icmp .eq 73, 67) := by decide +kernel
theorem c_201_67 : ax_code 201 67 = some (.aload 0, 68) := by decide +kernel
theorem c_201_68 : ax_code 201 68 = some (.iconst 5, 69) := by decide +kernel
theorem c_201_69 : ax_code 201 69 = some (.invokevirtual 199, 72) := by decide +kernel
theorem c_201_72 : ax_code 201 72 = some (.lreturn, 73) := by decide +kernel
theorem c_201_73 : ax_code 201 73 = some (.iload 2, 74) := by decide +kernel
theorem c_201_74 : ax_code 201 74 = some (.ifCond .lt 122, 77) := by decide +kernel
theorem c_201_77 : ax_code 201 77 = some (.iload 4, 79) := by decide +kernel
theorem c_201_79 : ax_code 201 79 = some (.ifCond .lt 122, 82) := by decide +kernel
theorem c_201_82 : ax_code 201 82 = some (.iload 5, 84) := by decide +kernel
theorem c_201_84 : ax_code 201 84 = some (.ifCond .lt 122, 87) := by decide +kernel
theorem c_201_87 : ax_code 201 87 = some (.iload 2, 88) := by decide +kernel
theorem c_201_88 : ax_code 201 88 = some (.i2l, 89) := by decide +kernel
theorem c_201_89 : ax_code 201 89 = some (.iload 5, 91) := by decide +kernel
theorem c_201_91 : ax_code 201 91 = some (.i2l, 92) := by decide +kernel
theorem c_201_92 : ax_code 201 92 = some (.ladd, 93) := by decide +kernel
theorem c_201_93 : ax_code 201 93 = some (.aload 0, 94) := by decide +kernel
theorem c_201_94 : ax_code 201 94 = some (.getfield 707, 97) := by decide +kernel
theorem c_201_97 : ax_code 201 97 = some (.iload 1, 98) := by decide +kernel
theorem c_201_98 : ax_code 201 98 = some (.iaload, 99) := by decide +kernel
theorem c_201_99 : ax_code 201 99 = some (.i2l, 100) := by decide +kernel
theorem c_201_100 : ax_code 201 100 = some (.lcmp, 101) := by decide +kernel
theorem c_201_101 : ax_code 201 101 = some (.ifCond .gt 122, 104) := by decide +kernel
theorem c_201_104 : ax_code 201 104 = some (.iload 4, 106) := by decide +kernel
theorem c_201_106 : ax_code 201 106 = some (.i2l, 107) := by decide +kernel
theorem c_201_107 : ax_code 201 107 = some (.iload 5, 109) := by decide +kernel
theorem c_201_109 : ax_code 201 109 = some (.i2l, 110) := by decide +kernel
theorem c_201_110 : ax_code 201 110 = some (.ladd, 111) := by decide +kernel
theorem c_201_111 : ax_code 201 111 = some (.aload 0, 112) := by decide +kernel
theorem c_201_112 : ax_code 201 112 = some (.getfield 707, 115) := by decide +kernel
theorem c_201_115 : ax_code 201 115 = some (.iload 3, 116) := by decide +kernel
theorem c_201_116 : ax_code 201 116 = some (.iaload, 117) := by decide +kernel
theorem c_201_117 : ax_code 201 117 = some (.i2l, 118) := by decide +kernel
theorem c_201_118 : ax_code 201 118 = some (.lcmp, 119) := by decide +kernel
theorem c_201_119 : ax_code 201 119 = some (.ifCond .le 128, 122) := by decide +kernel
theorem c_201_122 : ax_code 201 122 = some (.aload 0, 123) := by decide +kernel
theorem c_201_123 : ax_code 201 123 = some (.iconst 2, 124) := by decide +kernel
theorem c_201_124 : ax_code 201 124 = some (.invokevirtual 199, 127) := by decide +kernel
theorem c_201_127 : ax_code 201 127 = some (.lreturn, 128) := by decide +kernel
theorem c_201_128 : ax_code 201 128 = some (.iload 2, 129) := by decide +kernel
theorem c_201_129 : ax_code 201 129 = some (.iload 4, 131) := by decide +kernel
theorem c_201_131 : ax_code 201 131 = some (.if_icmp .lt 138, 134) := by decide +kernel
theorem c_201_134 : ax_code 201 134 = some (.iconst 1, 135) := by decide +kernel
theorem c_201_135 : ax_code 201 135 = some (.goto 139, 138) := by decide +kernel
theorem c_201_138 : ax_code 201 138 = some (.iconst 0, 139) := by decide +kernel
theorem c_201_139 : ax_code 201 139 = some (.istore 6, 141) := by decide +kernel
theorem c_201_141 : ax_code 201 141 = some (.iconst 0, 142) := by decide +kernel
theorem c_201_142 : ax_code 201 142 = some (.istore 7, 144) := by decide +kernel
theorem c_201_144 : ax_code 201 144 = some (.iload 7, 146) := by decide +kernel
theorem c_201_146 : ax_code 201 146 = some (.iload 5, 148) := by decide +kernel
theorem c_201_148 : ax_code 201 148 = some (.if_icmp .ge 205, 151) := by decide +kernel
theorem c_201_151 : ax_code 201 151 = some (.iload 6, 153) := by decide +kernel
theorem c_201_153 : ax_code 201 153 = some (.ifCond .eq 161, 156) := by decide +kernel
theorem c_201_156 : ax_code 201 156 = some (.iload 7, 158) := by decide +kernel
theorem c_201_158 : ax_code 201 158 = some (.goto 168, 161) := by decide +kernel
theorem c_201_161 : ax_code 201 161 = some (.iload 5, 163) := by decide +kernel
theorem c_201_163 : ax_code 201 163 = some (.iconst 1, 164) := by decide +kernel
theorem c_201_164 : ax_code 201 164 = some (.isub, 165) := by decide +kernel
theorem c_201_165 : ax_code 201 165 = some (.iload 7, 167) := by decide +kernel
theorem c_201_167 : ax_code 201 167 = some (.isub, 168) := by decide +kernel
theorem c_201_168 : ax_code 201 168 = some (.istore 8, 170) := by decide +kernel
theorem c_201_170 : ax_code 201 170 = some (.aload 0, 171) := by decide +kernel
theorem c_201_171 : ax_code 201 171 = some (.getfield 708, 174) := by decide +kernel
theorem c_201_174 : ax_code 201 174 = some (.iconst 40, 176) := by decide +kernel
theorem c_201_176 : ax_code 201 176 = some (.iload 3, 177) := by decide +kernel
theorem c_201_177 : ax_code 201 177 = some (.imul, 178) := by decide +kernel
theorem c_201_178 : ax_code 201 178 = some (.iload 4, 180) := by decide +kernel
theorem c_201_180 : ax_code 201 180 = some (.iadd, 181) := by decide +kernel
theorem c_201_181 : ax_code 201 181 = some (.iload 8, 183) := by decide +kernel
theorem c_201_183 : ax_code 201 183 = some (.iadd, 184) := by decide +kernel
theorem c_201_184 : ax_code 201 184 = some (.aload 0, 185) := by decide +kernel
theorem c_201_185 : ax_code 201 185 = some (.getfield 708, 188) := by decide +kernel
theorem c_201_188 : ax_code 201 188 = some (.iconst 40, 190) := by decide +kernel
theorem c_201_190 : ax_code 201 190 = some (.iload 1, 191) := by decide +kernel
theorem c_201_191 : ax_code 201 191 = some (.imul, 192) := by decide +kernel
theorem c_201_192 : ax_code 201 192 = some (.iload 2, 193) := by decide +kernel
theorem c_201_193 : ax_code 201 193 = some (.iadd, 194) := by decide +kernel
theorem c_201_194 : ax_code 201 194 = some (.iload 8, 196) := by decide +kernel
theorem c_201_196 : ax_code 201 196 = some (.iadd, 197) := by decide +kernel
theorem c_201_197 : ax_code 201 197 = some (.iaload, 198) := by decide +kernel
theorem c_201_198 : ax_code 201 198 = some (.iastore, 199) := by decide +kernel
theorem c_201_199 : ax_code 201 199 = some (.iinc 7 (1), 202) := by decide +kernel
theorem c_201_202 : ax_code 201 202 = some (.goto 144, 205) := by decide +kernel
theorem c_201_205 : ax_code 201 205 = some (.iload 5, 207) := by decide +kernel
theorem c_201_207 : ax_code 201 207 = some (.i2l, 208) := by decide +kernel
theorem c_201_208 : ax_code 201 208 = some (.lreturn, 209) := by decide +kernel
theorem c_202_0 : ax_code 202 0 = some (.aload 0, 1) := by decide +kernel
theorem c_202_1 : ax_code 202 1 = some (.iconst 0, 2) := by decide +kernel
theorem c_202_2 : ax_code 202 2 = some (.putfield 704, 5) := by decide +kernel
theorem c_202_5 : ax_code 202 5 = some (.iload 1, 6) := by decide +kernel
theorem c_202_6 : ax_code 202 6 = some (.invokestatic 197, 9) := by decide +kernel
theorem c_202_9 : ax_code 202 9 = some (.ifCond .ne 16, 12) := by decide +kernel
theorem c_202_12 : ax_code 202 12 = some (.ldc2_w 0, 15) := by decide +kernel
theorem c_202_15 : ax_code 202 15 = some (.lreturn, 16) := by decide +kernel
theorem c_202_16 : ax_code 202 16 = some (.aload 0, 17) := by decide +kernel
theorem c_202_17 : ax_code 202 17 = some (.iconst 0, 18) := by decide +kernel
theorem c_202_18 : ax_code 202 18 = some (.putfield 705, 21) := by decide +kernel
theorem c_202_21 : ax_code 202 21 = some (.aload 0, 22) := by decide +kernel
theorem c_202_22 : ax_code 202 22 = some (.getfield 706, 25) := by decide +kernel
theorem c_202_25 : ax_code 202 25 = some (.iload 1, 26) := by decide +kernel
theorem c_202_26 : ax_code 202 26 = some (.iaload, 27) := by decide +kernel
theorem c_202_27 : ax_code 202 27 = some (.ifCond .ge 36, 30) := by decide +kernel
theorem c_202_30 : ax_code 202 30 = some (.aload 0, 31) := by decide +kernel
theorem c_202_31 : ax_code 202 31 = some (.iconst 1, 32) := by decide +kernel
theorem c_202_32 : ax_code 202 32 = some (.invokevirtual 199, 35) := by decide +kernel
theorem c_202_35 : ax_code 202 35 = some (.lreturn, 36) := by decide +kernel
theorem c_202_36 : ax_code 202 36 = some (.aload 0, 37) := by decide +kernel
theorem c_202_37 : ax_code 202 37 = some (.getfield 706, 40) := by decide +kernel
theorem c_202_40 : ax_code 202 40 = some (.iload 1, 41) := by decide +kernel
theorem c_202_41 : ax_code 202 41 = some (.iconst (-1), 42) := by decide +kernel
theorem c_202_42 : ax_code 202 42 = some (.iastore, 43) := by decide +kernel
theorem c_202_43 : ax_code 202 43 = some (.aload 0, 44) := by decide +kernel
theorem c_202_44 : ax_code 202 44 = some (.getfield 707, 47) := by decide +kernel
theorem c_202_47 : ax_code 202 47 = some (.iload 1, 48) := by decide +kernel
theorem c_202_48 : ax_code 202 48 = some (.iaload, 49) := by decide +kernel
theorem c_202_49 : ax_code 202 49 = some (.i2l, 50) := by decide +kernel
theorem c_202_50 : ax_code 202 50 = some (.lreturn, 51) := by decide +kernel
theorem c_203_0 : ax_code 203 0 = some (.aload 0, 1) := by decide +kernel
theorem c_203_1 : ax_code 203 1 = some (.iconst 0, 2) := by decide +kernel
theorem c_203_2 : ax_code 203 2 = some (.putfield 704, 5) := by decide +kernel
theorem c_203_5 : ax_code 203 5 = some (.iload 3, 6) := by decide +kernel
theorem c_203_6 : ax_code 203 6 = some (.i2l, 7) := by decide +kernel
theorem c_203_7 : ax_code 203 7 = some (.lconst 1, 8) := by decide +kernel
theorem c_203_8 : ax_code 203 8 = some (.ldc2_w 9, 11) := by decide +kernel
theorem c_203_11 : ax_code 203 11 = some (.invokestatic 198, 14) := by decide +kernel
theorem c_203_14 : ax_code 203 14 = some (.ifCond .ne 21, 17) := by decide +kernel
theorem c_203_17 : ax_code 203 17 = some (.ldc2_w 0, 20) := by decide +kernel
theorem c_203_20 : ax_code 203 20 = some (.lreturn, 21) := by decide +kernel
theorem c_203_21 : ax_code 203 21 = some (.aload 0, 22) := by decide +kernel
theorem c_203_22 : ax_code 203 22 = some (.getfield 714, 25) := by decide +kernel
theorem c_203_25 : ax_code 203 25 = some (.iload 3, 26) := by decide +kernel
theorem c_203_26 : ax_code 203 26 = some (.iadd, 27) := by decide +kernel
theorem c_203_27 : ax_code 203 27 = some (.iconst 500, 30) := by decide +kernel
theorem c_203_30 : ax_code 203 30 = some (.if_icmp .le 37, 33) := by decide +kernel
theorem c_203_33 : ax_code 203 33 = some (.ldc2_w 2, 36) := by decide +kernel
theorem c_203_36 : ax_code 203 36 = some (.lreturn, 37) := by decide +kernel
theorem c_203_37 : ax_code 203 37 = some (.iload 3, 38) := by decide +kernel
theorem c_203_38 : ax_code 203 38 = some (.iconst 1, 39) := by decide +kernel
theorem c_203_39 : ax_code 203 39 = some (.isub, 40) := by decide +kernel
theorem c_203_40 : ax_code 203 40 = some (.istore 4, 42) := by decide +kernel
theorem c_203_42 : ax_code 203 42 = some (.iload 4, 44) := by decide +kernel
theorem c_203_44 : ax_code 203 44 = some (.ifCond .lt 84, 47) := by decide +kernel
theorem c_203_47 : ax_code 203 47 = some (.aload 0, 48) := by decide +kernel
theorem c_203_48 : ax_code 203 48 = some (.getfield 713, 51) := by decide +kernel
theorem c_203_51 : ax_code 203 51 = some (.aload 0, 52) := by decide +kernel
theorem c_203_52 : ax_code 203 52 = some (.getfield 714, 55) := by decide +kernel
theorem c_203_55 : ax_code 203 55 = some (.lload 1, 56) := by decide +kernel
theorem c_203_56 : ax_code 203 56 = some (.iconst 8, 58) := by decide +kernel
theorem c_203_58 : ax_code 203 58 = some (.iload 4, 60) := by decide +kernel
theorem c_203_60 : ax_code 203 60 = some (.imul, 61) := by decide +kernel
theorem c_203_61 : ax_code 203 61 = some (.lshr, 62) := by decide +kernel
theorem c_203_62 : ax_code 203 62 = some (.ldc2_w 10, 65) := by decide +kernel
theorem c_203_65 : ax_code 203 65 = some (.land, 66) := by decide +kernel
theorem c_203_66 : ax_code 203 66 = some (.l2i, 67) := by decide +kernel
theorem c_203_67 : ax_code 203 67 = some (.iastore, 68) := by decide +kernel
theorem c_203_68 : ax_code 203 68 = some (.aload 0, 69) := by decide +kernel
theorem c_203_69 : ax_code 203 69 = some (.dup, 70) := by decide +kernel
theorem c_203_70 : ax_code 203 70 = some (.getfield 714, 73) := by decide +kernel
theorem c_203_73 : ax_code 203 73 = some (.iconst 1, 74) := by decide +kernel
theorem c_203_74 : ax_code 203 74 = some (.iadd, 75) := by decide +kernel
theorem c_203_75 : ax_code 203 75 = some (.putfield 714, 78) := by decide +kernel
theorem c_203_78 : ax_code 203 78 = some (.iinc 4 (-1), 81) := by decide +kernel
theorem c_203_81 : ax_code 203 81 = some (.goto 42, 84) := by decide +kernel
theorem c_203_84 : ax_code 203 84 = some (.aload 0, 85) := by decide +kernel
theorem c_203_85 : ax_code 203 85 = some (.getfield 714, 88) := by decide +kernel
theorem c_203_88 : ax_code 203 88 = some (.i2l, 89) := by decide +kernel
theorem c_203_89 : ax_code 203 89 = some (.lreturn, 90) := by decide +kernel
theorem c_204_0 : ax_code 204 0 = some (.aload 0, 1) := by decide +kernel
theorem c_204_1 : ax_code 204 1 = some (.iconst 0, 2) := by decide +kernel
theorem c_204_2 : ax_code 204 2 = some (.putfield 704, 5) := by decide +kernel
theorem c_204_5 : ax_code 204 5 = some (.iconst 0, 6) := by decide +kernel
theorem c_204_6 : ax_code 204 6 = some (.istore 1, 7) := by decide +kernel
theorem c_204_7 : ax_code 204 7 = some (.iload 1, 8) := by decide +kernel
theorem c_204_8 : ax_code 204 8 = some (.iconst 102, 10) := by decide +kernel
theorem c_204_10 : ax_code 204 10 = some (.if_icmp .ge 26, 13) := by decide +kernel
theorem c_204_13 : ax_code 204 13 = some (.aload 0, 14) := by decide +kernel
theorem c_204_14 : ax_code 204 14 = some (.getfield 710, 17) := by decide +kernel
theorem c_204_17 : ax_code 204 17 = some (.iload 1, 18) := by decide +kernel
theorem c_204_18 : ax_code 204 18 = some (.iconst 0, 19) := by decide +kernel
theorem c_204_19 : ax_code 204 19 = some (.iastore, 20) := by decide +kernel
theorem c_204_20 : ax_code 204 20 = some (.iinc 1 (1), 23) := by decide +kernel
theorem c_204_23 : ax_code 204 23 = some (.goto 7, 26) := by decide +kernel
theorem c_204_26 : ax_code 204 26 = some (.aload 0, 27) := by decide +kernel
theorem c_204_27 : ax_code 204 27 = some (.invokevirtual 205, 30) := by decide +kernel
theorem c_204_30 : ax_code 204 30 = some (.aload 0, 31) := by decide +kernel
theorem c_204_31 : ax_code 204 31 = some (.invokevirtual 210, 34) := by decide +kernel
theorem c_204_34 : ax_code 204 34 = some (.ldc2_w 11, 37) := by decide +kernel
theorem c_204_37 : ax_code 204 37 = some (.lcmp, 38) := by decide +kernel
theorem c_204_38 : ax_code 204 38 = some (.ifCond .ne 48, 41) := by decide +kernel
theorem c_204_41 : ax_code 204 41 = some (.aload 0, 42) := by decide +kernel
theorem c_204_42 : ax_code 204 42 = some (.invokevirtual 211, 45) := by decide +kernel
theorem c_204_45 : ax_code 204 45 = some (.goto 30, 48) := by decide +kernel
theorem c_204_48 : ax_code 204 48 = some (.aload 0, 49) := by decide +kernel
theorem c_204_49 : ax_code 204 49 = some (.invokevirtual 210, 52) := by decide +kernel
theorem c_204_52 : ax_code 204 52 = some (.ldc2_w 12, 55) := by decide +kernel
theorem c_204_55 : ax_code 204 55 = some (.lcmp, 56) := by decide +kernel
theorem c_204_56 : ax_code 204 56 = some (.ifCond .ne 66, 59) := by decide +kernel
theorem c_204_59 : ax_code 204 59 = some (.aload 0, 60) := by decide +kernel
theorem c_204_60 : ax_code 204 60 = some (.invokevirtual 217, 63) := by decide +kernel
theorem c_204_63 : ax_code 204 63 = some (.goto 48, 66) := by decide +kernel
theorem c_204_66 : ax_code 204 66 = some (.aload 0, 67) := by decide +kernel
theorem c_204_67 : ax_code 204 67 = some (.getfield 721, 70) := by decide +kernel
theorem c_204_70 : ax_code 204 70 = some (.ifCond .ne 93, 73) := by decide +kernel
theorem c_204_73 : ax_code 204 73 = some (.aload 0, 74) := by decide +kernel
theorem c_204_74 : ax_code 204 74 = some (.aload 0, 75) := by decide +kernel
theorem c_204_75 : ax_code 204 75 = some (.invokevirtual 210, 78) := by decide +kernel
theorem c_204_78 : ax_code 204 78 = some (.ldc2_w 13, 81) := by decide +kernel
theorem c_204_81 : ax_code 204 81 = some (.lcmp, 82) := by decide +kernel
theorem c_204_82 : ax_code 204 82 = some (.ifCond .ne 89, 85) := by decide +kernel
theorem c_204_85 : ax_code 204 85 = some (.iconst 1, 86) := by decide +kernel
theorem c_204_86 : ax_code 204 86 = some (.goto 90, 89) := by decide +kernel
theorem c_204_89 : ax_code 204 89 = some (.iconst 0, 90) := by decide +kernel
theorem c_204_90 : ax_code 204 90 = some (.invokevirtual 213, 93) := by decide +kernel
theorem c_204_93 : ax_code 204 93 = some (.iconst 90, 95) := by decide +kernel
theorem c_204_95 : ax_code 204 95 = some (.istore 1, 96) := by decide +kernel
theorem c_204_96 : ax_code 204 96 = some (.iload 1, 97) := by decide +kernel
theorem c_204_97 : ax_code 204 97 = some (.iconst 102, 99) := by decide +kernel
theorem c_204_99 : ax_code 204 99 = some (.if_icmp .ge 144, 102) := by decide +kernel
theorem c_204_102 : ax_code 204 102 = some (.aload 0, 103) := by decide +kernel
theorem c_204_103 : ax_code 204 103 = some (.getfield 710, 106) := by decide +kernel
theorem c_204_106 : ax_code 204 106 = some (.iload 1, 107) := by decide +kernel
theorem c_204_107 : ax_code 204 107 = some (.aload 0, 108) := by decide +kernel
theorem c_204_108 : ax_code 204 108 = some (.iconst 0, 109) := by decide +kernel
theorem c_204_109 : ax_code 204 109 = some (.iload 1, 110) := by decide +kernel
theorem c_204_110 : ax_code 204 110 = some (.iconst 98, 112) := by decide +kernel
theorem c_204_112 : ax_code 204 112 = some (.if_icmp .gt 120, 115) := by decide +kernel
theorem c_204_115 : ax_code 204 115 = some (.iconst 9, 117) := by decide +kernel
theorem c_204_117 : ax_code 204 117 = some (.goto 134, 120) := by decide +kernel
theorem c_204_120 : ax_code 204 120 = some (.iload 1, 121) := by decide +kernel
theorem c_204_121 : ax_code 204 121 = some (.iconst 101, 123) := by decide +kernel
theorem c_204_123 : ax_code 204 123 = some (.if_icmp .ge 131, 126) := by decide +kernel
theorem c_204_126 : ax_code 204 126 = some (.iconst 99, 128) := by decide +kernel
theorem c_204_128 : ax_code 204 128 = some (.goto 134, 131) := by decide +kernel
theorem c_204_131 : ax_code 204 131 = some (.iconst 9999, 134) := by decide +kernel
theorem c_204_134 : ax_code 204 134 = some (.invokevirtual 214, 137) := by decide +kernel
theorem c_204_137 : ax_code 204 137 = some (.iastore, 138) := by decide +kernel
theorem c_204_138 : ax_code 204 138 = some (.iinc 1 (1), 141) := by decide +kernel
theorem c_204_141 : ax_code 204 141 = some (.goto 96, 144) := by decide +kernel
theorem c_204_144 : ax_code 204 144 = some (.aload 0, 145) := by decide +kernel
theorem c_204_145 : ax_code 204 145 = some (.invokevirtual 216, 148) := by decide +kernel
theorem c_204_148 : ax_code 204 148 = some (.aload 0, 149) := by decide +kernel
theorem c_204_149 : ax_code 204 149 = some (.invokevirtual 218, 152) := by decide +kernel
theorem c_204_152 : ax_code 204 152 = some (.lstore 1, 153) := by decide +kernel
theorem c_204_153 : ax_code 204 153 = some (.lload 1, 154) := by decide +kernel
theorem c_204_154 : ax_code 204 154 = some (.lconst 0, 155) := by decide +kernel
theorem c_204_155 : ax_code 204 155 = some (.lcmp, 156) := by decide +kernel
theorem c_204_156 : ax_code 204 156 = some (.ifCond .ge 161, 159) := by decide +kernel
theorem c_204_159 : ax_code 204 159 = some (.lload 1, 160) := by decide +kernel
theorem c_204_160 : ax_code 204 160 = some (.lreturn, 161) := by decide +kernel
theorem c_204_161 : ax_code 204 161 = some (.aload 0, 162) := by decide +kernel
theorem c_204_162 : ax_code 204 162 = some (.iconst 1, 163) := by decide +kernel
theorem c_204_163 : ax_code 204 163 = some (.putfield 711, 166) := by decide +kernel
theorem c_204_166 : ax_code 204 166 = some (.iconst 0, 167) := by decide +kernel
theorem c_204_167 : ax_code 204 167 = some (.istore 3, 168) := by decide +kernel
theorem c_204_168 : ax_code 204 168 = some (.iload 3, 169) := by decide +kernel
theorem c_204_169 : ax_code 204 169 = some (.iconst 102, 171) := by decide +kernel
theorem c_204_171 : ax_code 204 171 = some (.if_icmp .ge 192, 174) := by decide +kernel
theorem c_204_174 : ax_code 204 174 = some (.aload 0, 175) := by decide +kernel
theorem c_204_175 : ax_code 204 175 = some (.getfield 709, 178) := by decide +kernel
theorem c_204_178 : ax_code 204 178 = some (.iload 3, 179) := by decide +kernel
theorem c_204_179 : ax_code 204 179 = some (.aload 0, 180) := by decide +kernel
theorem c_204_180 : ax_code 204 180 = some (.getfield 710, 183) := by decide +kernel
theorem c_204_183 : ax_code 204 183 = some (.iload 3, 184) := by decide +kernel
theorem c_204_184 : ax_code 204 184 = some (.iaload, 185) := by decide +kernel
theorem c_204_185 : ax_code 204 185 = some (.iastore, 186) := by decide +kernel
theorem c_204_186 : ax_code 204 186 = some (.iinc 3 (1), 189) := by decide +kernel
theorem c_204_189 : ax_code 204 189 = some (.goto 168, 192) := by decide +kernel
theorem c_204_192 : ax_code 204 192 = some (.aload 0, 193) := by decide +kernel
theorem c_204_193 : ax_code 204 193 = some (.getfield 712, 196) := by decide +kernel
theorem c_204_196 : ax_code 204 196 = some (.iconst 0, 197) := by decide +kernel
theorem c_204_197 : ax_code 204 197 = some (.iconst 0, 198) := by decide +kernel
theorem c_204_198 : ax_code 204 198 = some (.iastore, 199) := by decide +kernel
theorem c_204_199 : ax_code 204 199 = some (.aload 0, 200) := by decide +kernel
theorem c_204_200 : ax_code 204 200 = some (.getfield 709, 203) := by decide +kernel
theorem c_204_203 : ax_code 204 203 = some (.iconst 0, 204) := by decide +kernel
theorem c_204_204 : ax_code 204 204 = some (.iaload, 205) := by decide +kernel
theorem c_204_205 : ax_code 204 205 = some (.aload 0, 206) := by decide +kernel
theorem c_204_206 : ax_code 204 206 = some (.getfield 709, 209) := by decide +kernel
theorem c_204_209 : ax_code 204 209 = some (.iconst 1, 210) := by decide +kernel
theorem c_204_210 : ax_code 204 210 = some (.iaload, 211) := by decide +kernel
theorem c_204_211 : ax_code 204 211 = some (.iadd, 212) := by decide +kernel
theorem c_204_212 : ax_code 204 212 = some (.i2l, 213) := by decide +kernel
theorem c_204_213 : ax_code 204 213 = some (.lreturn, 214) := by decide +kernel
theorem c_205_0 : ax_code 205 0 = some (.aload 0, 1) := by decide +kernel
theorem c_205_1 : ax_code 205 1 = some (.aload 0, 2) := by decide +kernel
theorem c_205_2 : ax_code 205 2 = some (.getfield 714, 5) := by decide +kernel
theorem c_205_5 : ax_code 205 5 = some (.putfield 716, 8) := by decide +kernel
theorem c_205_8 : ax_code 205 8 = some (.aload 0, 9) := by decide +kernel
theorem c_205_9 : ax_code 205 9 = some (.iconst 0, 10) := by decide +kernel
theorem c_205_10 : ax_code 205 10 = some (.putfield 714, 13) := by decide +kernel
theorem c_205_13 : ax_code 205 13 = some (.aload 0, 14) := by decide +kernel
theorem c_205_14 : ax_code 205 14 = some (.iconst 0, 15) := by decide +kernel
theorem c_205_15 : ax_code 205 15 = some (.putfield 717, 18) := by decide +kernel
theorem c_205_18 : ax_code 205 18 = some (.aload 0, 19) := by decide +kernel
theorem c_205_19 : ax_code 205 19 = some (.iconst 0, 20) := by decide +kernel
theorem c_205_20 : ax_code 205 20 = some (.putfield 721, 23) := by decide +kernel
theorem c_205_23 : ax_code 205 23 = some (.aload 0, 24) := by decide +kernel
theorem c_205_24 : ax_code 205 24 = some (.invokevirtual 206, 27) := by decide +kernel
theorem c_205_27 : ax_code 205 27 = some (.return_, 28) := by decide +kernel
theorem c_206_0 : ax_code 206 0 = some (.aload 0, 1) := by decide +kernel
theorem c_206_1 : ax_code 206 1 = some (.aload 0, 2) := by decide +kernel
theorem c_206_2 : ax_code 206 2 = some (.getfield 717, 5) := by decide +kernel
theorem c_206_5 : ax_code 206 5 = some (.invokevirtual 207, 8) := by decide +kernel
theorem c_206_8 : ax_code 206 8 = some (.iconst 32, 10) := by decide +kernel
theorem c_206_10 : ax_code 206 10 = some (.if_icmp .eq 26, 13) := by decide +kernel
theorem c_206_13 : ax_code 206 13 = some (.aload 0, 14) := by decide +kernel
theorem c_206_14 : ax_code 206 14 = some (.aload 0, 15) := by decide +kernel
theorem c_206_15 : ax_code 206 15 = some (.getfield 717, 18) := by decide +kernel
theorem c_206_18 : ax_code 206 18 = some (.invokevirtual 207, 21) := by decide +kernel
theorem c_206_21 : ax_code 206 21 = some (.iconst 10, 23) := by decide +kernel
theorem c_206_23 : ax_code 206 23 = some (.if_icmp .ne 39, 26) := by decide +kernel
theorem c_206_26 : ax_code 206 26 = some (.aload 0, 27) := by decide +kernel
theorem c_206_27 : ax_code 206 27 = some (.dup, 28) := by decide +kernel
theorem c_206_28 : ax_code 206 28 = some (.getfield 717, 31) := by decide +kernel
theorem c_206_31 : ax_code 206 31 = some (.iconst 1, 32) := by decide +kernel
theorem c_206_32 : ax_code 206 32 = some (.iadd, 33) := by decide +kernel
theorem c_206_33 : ax_code 206 33 = some (.putfield 717, 36) := by decide +kernel
theorem c_206_36 : ax_code 206 36 = some (.goto 0, 39) := by decide +kernel
theorem c_206_39 : ax_code 206 39 = some (.aload 0, 40) := by decide +kernel
theorem c_206_40 : ax_code 206 40 = some (.aload 0, 41) := by decide +kernel
theorem c_206_41 : ax_code 206 41 = some (.getfield 717, 44) := by decide +kernel
theorem c_206_44 : ax_code 206 44 = some (.putfield 719, 47) := by decide +kernel
theorem c_206_47 : ax_code 206 47 = some (.aload 0, 48) := by decide +kernel
theorem c_206_48 : ax_code 206 48 = some (.aload 0, 49) := by decide +kernel
theorem c_206_49 : ax_code 206 49 = some (.getfield 717, 52) := by decide +kernel
theorem c_206_52 : ax_code 206 52 = some (.invokevirtual 207, 55) := by decide +kernel
theorem c_206_55 : ax_code 206 55 = some (.istore 1, 56) := by decide +kernel
theorem c_206_56 : ax_code 206 56 = some (.iload 1, 57) := by decide +kernel
theorem c_206_57 : ax_code 206 57 = some (.iconst (-1000000), 59) := by decide +kernel
theorem c_206_59 : ax_code 206 59 = some (.if_icmp .ne 70, 62) := by decide +kernel
theorem c_206_62 : ax_code 206 62 = some (.aload 0, 63) := by decide +kernel
theorem c_206_63 : ax_code 206 63 = some (.iconst 1, 64) := by decide +kernel
theorem c_206_64 : ax_code 206 64 = some (.putfield 718, 67) := by decide +kernel
theorem c_206_67 : ax_code 206 67 = some (.goto 206, 70) := by decide +kernel
theorem c_206_70 : ax_code 206 70 = some (.iload 1, 71) := by decide +kernel
theorem c_206_71 : ax_code 206 71 = some (.invokestatic 208, 74) := by decide +kernel
theorem c_206_74 : ax_code 206 74 = some (.ifCond .eq 112, 77) := by decide +kernel
theorem c_206_77 : ax_code 206 77 = some (.aload 0, 78) := by decide +kernel
theorem c_206_78 : ax_code 206 78 = some (.aload 0, 79) := by decide +kernel
theorem c_206_79 : ax_code 206 79 = some (.getfield 717, 82) := by decide +kernel
theorem c_206_82 : ax_code 206 82 = some (.invokevirtual 207, 85) := by decide +kernel
theorem c_206_85 : ax_code 206 85 = some (.invokestatic 208, 88) := by decide +kernel
theorem c_206_88 : ax_code 206 88 = some (.ifCond .eq 104, 91) := by decide +kernel
theorem c_206_91 : ax_code 206 91 = some (.aload 0, 92) := by decide +kernel
theorem c_206_92 : ax_code 206 92 = some (.dup, 93) := by decide +kernel
theorem c_206_93 : ax_code 206 93 = some (.getfield 717, 96) := by decide +kernel
theorem c_206_96 : ax_code 206 96 = some (.iconst 1, 97) := by decide +kernel
theorem c_206_97 : ax_code 206 97 = some (.iadd, 98) := by decide +kernel
theorem c_206_98 : ax_code 206 98 = some (.putfield 717, 101) := by decide +kernel
theorem c_206_101 : ax_code 206 101 = some (.goto 77, 104) := by decide +kernel
theorem c_206_104 : ax_code 206 104 = some (.aload 0, 105) := by decide +kernel
theorem c_206_105 : ax_code 206 105 = some (.iconst 2, 106) := by decide +kernel
theorem c_206_106 : ax_code 206 106 = some (.putfield 718, 109) := by decide +kernel
theorem c_206_109 : ax_code 206 109 = some (.goto 206, 112) := by decide +kernel
theorem c_206_112 : ax_code 206 112 = some (.iload 1, 113) := by decide +kernel
theorem c_206_113 : ax_code 206 113 = some (.invokestatic 209, 116) := by decide +kernel
theorem c_206_116 : ax_code 206 116 = some (.ifCond .eq 171, 119) := by decide +kernel
theorem c_206_119 : ax_code 206 119 = some (.aload 0, 120) := by decide +kernel
theorem c_206_120 : ax_code 206 120 = some (.aload 0, 121) := by decide +kernel
theorem c_206_121 : ax_code 206 121 = some (.getfield 717, 124) := by decide +kernel
theorem c_206_124 : ax_code 206 124 = some (.invokevirtual 207, 127) := by decide +kernel
theorem c_206_127 : ax_code 206 127 = some (.invokestatic 209, 130) := by decide +kernel
theorem c_206_130 : ax_code 206 130 = some (.ifCond .eq 146, 133) := by decide +kernel
theorem c_206_133 : ax_code 206 133 = some (.aload 0, 134) := by decide +kernel
theorem c_206_134 : ax_code 206 134 = some (.dup, 135) := by decide +kernel
theorem c_206_135 : ax_code 206 135 = some (.getfield 717, 138) := by decide +kernel
theorem c_206_138 : ax_code 206 138 = some (.iconst 1, 139) := by decide +kernel
theorem c_206_139 : ax_code 206 139 = some (.iadd, 140) := by decide +kernel
theorem c_206_140 : ax_code 206 140 = some (.putfield 717, 143) := by decide +kernel
theorem c_206_143 : ax_code 206 143 = some (.goto 119, 146) := by decide +kernel
theorem c_206_146 : ax_code 206 146 = some (.aload 0, 147) := by decide +kernel
theorem c_206_147 : ax_code 206 147 = some (.aload 0, 148) := by decide +kernel
theorem c_206_148 : ax_code 206 148 = some (.getfield 717, 151) := by decide +kernel
theorem c_206_151 : ax_code 206 151 = some (.aload 0, 152) := by decide +kernel
theorem c_206_152 : ax_code 206 152 = some (.getfield 719, 155) := by decide +kernel
theorem c_206_155 : ax_code 206 155 = some (.isub, 156) := by decide +kernel
theorem c_206_156 : ax_code 206 156 = some (.iconst 4, 157) := by decide +kernel
theorem c_206_157 : ax_code 206 157 = some (.if_icmp .le 164, 160) := by decide +kernel
theorem c_206_160 : ax_code 206 160 = some (.iconst 0, 161) := by decide +kernel
theorem c_206_161 : ax_code 206 161 = some (.goto 165, 164) := by decide +kernel
theorem c_206_164 : ax_code 206 164 = some (.iconst 3, 165) := by decide +kernel
theorem c_206_165 : ax_code 206 165 = some (.putfield 718, 168) := by decide +kernel
theorem c_206_168 : ax_code 206 168 = some (.goto 206, 171) := by decide +kernel
theorem c_206_171 : ax_code 206 171 = some (.aload 0, 172) := by decide +kernel
theorem c_206_172 : ax_code 206 172 = some (.dup, 173) := by decide +kernel
theorem c_206_173 : ax_code 206 173 = some (.getfield 717, 176) := by decide +kernel
theorem c_206_176 : ax_code 206 176 = some (.iconst 1, 177) := by decide +kernel
theorem c_206_177 : ax_code 206 177 = some (.iadd, 178) := by decide +kernel
theorem c_206_178 : ax_code 206 178 = some (.putfield 717, 181) := by decide +kernel
theorem c_206_181 : ax_code 206 181 = some (.aload 0, 182) := by decide +kernel
theorem c_206_182 : ax_code 206 182 = some (.iload 1, 183) := by decide +kernel
theorem c_206_183 : ax_code 206 183 = some (.iconst 59, 185) := by decide +kernel
theorem c_206_185 : ax_code 206 185 = some (.if_icmp .ne 192, 188) := by decide +kernel
theorem c_206_188 : ax_code 206 188 = some (.iconst 4, 189) := by decide +kernel
theorem c_206_189 : ax_code 206 189 = some (.goto 203, 192) := by decide +kernel
theorem c_206_192 : ax_code 206 192 = some (.iload 1, 193) := by decide +kernel
theorem c_206_193 : ax_code 206 193 = some (.iconst 63, 195) := by decide +kernel
theorem c_206_195 : ax_code 206 195 = some (.if_icmp .ne 202, 198) := by decide +kernel
theorem c_206_198 : ax_code 206 198 = some (.iconst 5, 199) := by decide +kernel
theorem c_206_199 : ax_code 206 199 = some (.goto 203, 202) := by decide +kernel
theorem c_206_202 : ax_code 206 202 = some (.iconst 0, 203) := by decide +kernel
theorem c_206_203 : ax_code 206 203 = some (.putfield 718, 206) := by decide +kernel
theorem c_206_206 : ax_code 206 206 = some (.aload 0, 207) := by decide +kernel
theorem c_206_207 : ax_code 206 207 = some (.aload 0, 208) := by decide +kernel
theorem c_206_208 : ax_code 206 208 = some (.getfield 717, 211) := by decide +kernel
theorem c_206_211 : ax_code 206 211 = some (.putfield 720, 214) := by decide +kernel
theorem c_206_214 : ax_code 206 214 = some (.return_, 215) := by decide +kernel
theorem c_207_0 : ax_code 207 0 = some (.iload 1, 1) := by decide +kernel
theorem c_207_1 : ax_code 207 1 = some (.aload 0, 2) := by decide +kernel
theorem c_207_2 : ax_code 207 2 = some (.getfield 716, 5) := by decide +kernel
theorem c_207_5 : ax_code 207 5 = some (.if_icmp .ge 17, 8) := by decide +kernel
theorem c_207_8 : ax_code 207 8 = some (.aload 0, 9) := by decide +kernel
theorem c_207_9 : ax_code 207 9 = some (.getfield 713, 12) := by decide +kernel
theorem c_207_12 : ax_code 207 12 = some (.iload 1, 13) := by decide +kernel
theorem c_207_13 : ax_code 207 13 = some (.iaload, 14) := by decide +kernel
theorem c_207_14 : ax_code 207 14 = some (.goto 19, 17) := by decide +kernel
theorem c_207_17 : ax_code 207 17 = some (.iconst (-1000000), 19) := by decide +kernel
theorem c_207_19 : ax_code 207 19 = some (.ireturn, 20) := by decide +kernel
theorem c_208_0 : ax_code 208 0 = some (.iload 0, 1) := by decide +kernel
theorem c_208_1 : ax_code 208 1 = some (.iconst 97, 3) := by decide +kernel
theorem c_208_3 : ax_code 208 3 = some (.if_icmp .lt 16, 6) := by decide +kernel
theorem c_208_6 : ax_code 208 6 = some (.iload 0, 7) := by decide +kernel
theorem c_208_7 : ax_code 208 7 = some (.iconst 122, 9) := by decide +kernel
theorem c_208_9 : ax_code 208 9 = some (.if_icmp .gt 16, 12) := by decide +kernel
theorem c_208_12 : ax_code 208 12 = some (.iconst 1, 13) := by decide +kernel
theorem c_208_13 : ax_code 208 13 = some (.goto 17, 16) := by decide +kernel
theorem c_208_16 : ax_code 208 16 = some (.iconst 0, 17) := by decide +kernel
theorem c_208_17 : ax_code 208 17 = some (.ireturn, 18) := by decide +kernel
theorem c_209_0 : ax_code 209 0 = some (.iload 0, 1) := by decide +kernel
theorem c_209_1 : ax_code 209 1 = some (.iconst 48, 3) := by decide +kernel
theorem c_209_3 : ax_code 209 3 = some (.if_icmp .lt 16, 6) := by decide +kernel
theorem c_209_6 : ax_code 209 6 = some (.iload 0, 7) := by decide +kernel
theorem c_209_7 : ax_code 209 7 = some (.iconst 57, 9) := by decide +kernel
theorem c_209_9 : ax_code 209 9 = some (.if_icmp .gt 16, 12) := by decide +kernel
theorem c_209_12 : ax_code 209 12 = some (.iconst 1, 13) := by decide +kernel
theorem c_209_13 : ax_code 209 13 = some (.goto 17, 16) := by decide +kernel
theorem c_209_16 : ax_code 209 16 = some (.iconst 0, 17) := by decide +kernel
theorem c_209_17 : ax_code 209 17 = some (.ireturn, 18) := by decide +kernel
theorem c_210_0 : ax_code 210 0 = some (.lconst 0, 1) := by decide +kernel
theorem c_210_1 : ax_code 210 1 = some (.lstore 1, 2) := by decide +kernel
theorem c_210_2 : ax_code 210 2 = some (.aload 0, 3) := by decide +kernel
theorem c_210_3 : ax_code 210 3 = some (.getfield 719, 6) := by decide +kernel
theorem c_210_6 : ax_code 210 6 = some (.istore 3, 7) := by decide +kernel
theorem c_210_7 : ax_code 210 7 = some (.iload 3, 8) := by decide +kernel
theorem c_210_8 : ax_code 210 8 = some (.aload 0, 9) := by decide +kernel
theorem c_210_9 : ax_code 210 9 = some (.getfield 720, 12) := by decide +kernel
theorem c_210_12 : ax_code 210 12 = some (.if_icmp .ge 56, 15) := by decide +kernel
theorem c_210_15 : ax_code 210 15 = some (.aload 0, 16) := by decide +kernel
theorem c_210_16 : ax_code 210 16 = some (.getfield 718, 19) := by decide +kernel
theorem c_210_19 : ax_code 210 19 = some (.iconst 2, 20) := by decide +kernel
theorem c_210_20 : ax_code 210 20 = some (.if_icmp .ne 56, 23) := by decide +kernel
theorem c_210_23 : ax_code 210 23 = some (.aload 0, 24) := by decide +kernel
theorem c_210_24 : ax_code 210 24 = some (.getfield 720, 27) := by decide +kernel
theorem c_210_27 : ax_code 210 27 = some (.aload 0, 28) := by decide +kernel
theorem c_210_28 : ax_code 210 28 = some (.getfield 719, 31) := by decide +kernel
theorem c_210_31 : ax_code 210 31 = some (.isub, 32) := by decide +kernel
theorem c_210_32 : ax_code 210 32 = some (.iconst 8, 34) := by decide +kernel
theorem c_210_34 : ax_code 210 34 = some (.if_icmp .ge 56, 37) := by decide +kernel
theorem c_210_37 : ax_code 210 37 = some (.lload 1, 38) := by decide +kernel
theorem c_210_38 : ax_code 210 38 = some (.iconst 8, 40) := by decide +kernel
theorem c_210_40 : ax_code 210 40 = some (.lshl, 41) := by decide +kernel
theorem c_210_41 : ax_code 210 41 = some (.aload 0, 42) := by decide +kernel
theorem c_210_42 : ax_code 210 42 = some (.getfield 713, 45) := by decide +kernel
theorem c_210_45 : ax_code 210 45 = some (.iload 3, 46) := by decide +kernel
theorem c_210_46 : ax_code 210 46 = some (.iaload, 47) := by decide +kernel
theorem c_210_47 : ax_code 210 47 = some (.i2l, 48) := by decide +kernel
theorem c_210_48 : ax_code 210 48 = some (.lor, 49) := by decide +kernel
theorem c_210_49 : ax_code 210 49 = some (.lstore 1, 50) := by decide +kernel
theorem c_210_50 : ax_code 210 50 = some (.iinc 3 (1), 53) := by decide +kernel
theorem c_210_53 : ax_code 210 53 = some (.goto 7, 56) := by decide +kernel
theorem c_210_56 : ax_code 210 56 = some (.aload 0, 57) := by decide +kernel
theorem c_210_57 : ax_code 210 57 = some (.getfield 721, 60) := by decide +kernel
theorem c_210_60 : ax_code 210 60 = some (.ifCond .ne 67, 63) := by decide +kernel
theorem c_210_63 : ax_code 210 63 = some (.lload 1, 64) := by decide +kernel
theorem c_210_64 : ax_code 210 64 = some (.goto 68, 67) := by decide +kernel
theorem c_210_67 : ax_code 210 67 = some (.lconst 0, 68) := by decide +kernel
theorem c_210_68 : ax_code 210 68 = some (.lreturn, 69) := by decide +kernel
theorem c_211_0 : ax_code 211 0 = some (.aload 0, 1) := by decide +kernel
theorem c_211_1 : ax_code 211 1 = some (.getfield 710, 4) := by decide +kernel
theorem c_211_4 : ax_code 211 4 = some (.iconst 0, 5) := by decide +kernel
theorem c_211_5 : ax_code 211 5 = some (.iaload, 6) := by decide +kernel
theorem c_211_6 : ax_code 211 6 = some (.iconst 16, 8) := by decide +kernel
theorem c_211_8 : ax_code 211 8 = some (.if_icmp .ne 16, 11) := by decide +kernel
theorem c_211_11 : ax_code 211 11 = some (.aload 0, 12) := by decide +kernel
theorem c_211_12 : ax_code 211 12 = some (.iconst 3, 13) := by decide +kernel
theorem c_211_13 : ax_code 211 13 = some (.invokevirtual 212, 16) := by decide +kernel
theorem c_211_16 : ax_code 211 16 = some (.aload 0, 17) := by decide +kernel
theorem c_211_17 : ax_code 211 17 = some (.iconst 1, 18) := by decide +kernel
theorem c_211_18 : ax_code 211 18 = some (.invokevirtual 213, 21) := by decide +kernel
theorem c_211_21 : ax_code 211 21 = some (.iconst 2, 22) := by decide +kernel
theorem c_211_22 : ax_code 211 22 = some (.iconst 4, 23) := by decide +kernel
theorem c_211_23 : ax_code 211 23 = some (.aload 0, 24) := by decide +kernel
theorem c_211_24 : ax_code 211 24 = some (.getfield 710, 27) := by decide +kernel
theorem c_211_27 : ax_code 211 27 = some (.iconst 0, 28) := by decide +kernel
theorem c_211_28 : ax_code 211 28 = some (.iaload, 29) := by decide +kernel
theorem c_211_29 : ax_code 211 29 = some (.imul, 30) := by decide +kernel
theorem c_211_30 : ax_code 211 30 = some (.iadd, 31) := by decide +kernel
theorem c_211_31 : ax_code 211 31 = some (.istore 1, 32) := by decide +kernel
theorem c_211_32 : ax_code 211 32 = some (.aload 0, 33) := by decide +kernel
theorem c_211_33 : ax_code 211 33 = some (.iconst 0, 34) := by decide +kernel
theorem c_211_34 : ax_code 211 34 = some (.iconst 3, 35) := by decide +kernel
theorem c_211_35 : ax_code 211 35 = some (.invokevirtual 214, 38) := by decide +kernel
theorem c_211_38 : ax_code 211 38 = some (.istore 2, 39) := by decide +kernel
theorem c_211_39 : ax_code 211 39 = some (.aload 0, 40) := by decide +kernel
theorem c_211_40 : ax_code 211 40 = some (.iconst 0, 41) := by decide +kernel
theorem c_211_41 : ax_code 211 41 = some (.iconst 3, 42) := by decide +kernel
theorem c_211_42 : ax_code 211 42 = some (.invokevirtual 214, 45) := by decide +kernel
theorem c_211_45 : ax_code 211 45 = some (.istore 3, 46) := by decide +kernel
theorem c_211_46 : ax_code 211 46 = some (.aload 0, 47) := by decide +kernel
theorem c_211_47 : ax_code 211 47 = some (.iconst 1800, 50) := by decide +kernel
theorem c_211_50 : ax_code 211 50 = some (.iconst 2000, 53) := by decide +kernel
theorem c_211_53 : ax_code 211 53 = some (.invokevirtual 214, 56) := by decide +kernel
theorem c_211_56 : ax_code 211 56 = some (.istore 4, 58) := by decide +kernel
theorem c_211_58 : ax_code 211 58 = some (.aload 0, 59) := by decide +kernel
theorem c_211_59 : ax_code 211 59 = some (.iconst 1, 60) := by decide +kernel
theorem c_211_60 : ax_code 211 60 = some (.iconst 99, 62) := by decide +kernel
theorem c_211_62 : ax_code 211 62 = some (.invokevirtual 214, 65) := by decide +kernel
theorem c_211_65 : ax_code 211 65 = some (.istore 5, 67) := by decide +kernel
theorem c_211_67 : ax_code 211 67 = some (.aload 0, 68) := by decide +kernel
theorem c_211_68 : ax_code 211 68 = some (.invokevirtual 216, 71) := by decide +kernel
theorem c_211_71 : ax_code 211 71 = some (.aload 0, 72) := by decide +kernel
theorem c_211_72 : ax_code 211 72 = some (.getfield 721, 75) := by decide +kernel
theorem c_211_75 : ax_code 211 75 = some (.ifCond .ne 124, 78) := by decide +kernel
theorem c_211_78 : ax_code 211 78 = some (.aload 0, 79) := by decide +kernel
theorem c_211_79 : ax_code 211 79 = some (.getfield 710, 82) := by decide +kernel
theorem c_211_82 : ax_code 211 82 = some (.iload 1, 83) := by decide +kernel
theorem c_211_83 : ax_code 211 83 = some (.iload 2, 84) := by decide +kernel
theorem c_211_84 : ax_code 211 84 = some (.iastore, 85) := by decide +kernel
theorem c_211_85 : ax_code 211 85 = some (.aload 0, 86) := by decide +kernel
theorem c_211_86 : ax_code 211 86 = some (.getfield 710, 89) := by decide +kernel
theorem c_211_89 : ax_code 211 89 = some (.iload 1, 90) := by decide +kernel
theorem c_211_90 : ax_code 211 90 = some (.iconst 1, 91) := by decide +kernel
theorem c_211_91 : ax_code 211 91 = some (.iadd, 92) := by decide +kernel
theorem c_211_92 : ax_code 211 92 = some (.iload 3, 93) := by decide +kernel
theorem c_211_93 : ax_code 211 93 = some (.iastore, 94) := by decide +kernel
theorem c_211_94 : ax_code 211 94 = some (.aload 0, 95) := by decide +kernel
theorem c_211_95 : ax_code 211 95 = some (.getfield 710, 98) := by decide +kernel
theorem c_211_98 : ax_code 211 98 = some (.iload 1, 99) := by decide +kernel
theorem c_211_99 : ax_code 211 99 = some (.iconst 2, 100) := by decide +kernel
theorem c_211_100 : ax_code 211 100 = some (.iadd, 101) := by decide +kernel
theorem c_211_101 : ax_code 211 101 = some (.iload 4, 103) := by decide +kernel
theorem c_211_103 : ax_code 211 103 = some (.iastore, 104) := by decide +kernel
theorem c_211_104 : ax_code 211 104 = some (.aload 0, 105) := by decide +kernel
theorem c_211_105 : ax_code 211 105 = some (.getfield 710, 108) := by decide +kernel
theorem c_211_108 : ax_code 211 108 = some (.iload 1, 109) := by decide +kernel
theorem c_211_109 : ax_code 211 109 = some (.iconst 3, 110) := by decide +kernel
theorem c_211_110 : ax_code 211 110 = some (.iadd, 111) := by decide +kernel
theorem c_211_111 : ax_code 211 111 = some (.iload 5, 113) := by decide +kernel
theorem c_211_113 : ax_code 211 113 = some (.iastore, 114) := by decide +kernel
theorem c_211_114 : ax_code 211 114 = some (.aload 0, 115) := by decide +kernel
theorem c_211_115 : ax_code 211 115 = some (.getfield 710, 118) := by decide +kernel
theorem c_211_118 : ax_code 211 118 = some (.iconst 0, 119) := by decide +kernel
theorem c_211_119 : ax_code 211 119 = some (.dup2, 120) := by decide +kernel
theorem c_211_120 : ax_code 211 120 = some (.iaload, 121) := by decide +kernel
theorem c_211_121 : ax_code 211 121 = some (.iconst 1, 122) := by decide +kernel
theorem c_211_122 : ax_code 211 122 = some (.iadd, 123) := by decide +kernel
theorem c_211_123 : ax_code 211 123 = some (.iastore, 124) := by decide +kernel
theorem c_211_124 : ax_code 211 124 = some (.return_, 125) := by decide +kernel
theorem c_212_0 : ax_code 212 0 = some (.aload 0, 1) := by decide +kernel
theorem c_212_1 : ax_code 212 1 = some (.getfield 721, 4) := by decide +kernel
theorem c_212_4 : ax_code 212 4 = some (.ifCond .ne 20, 7) := by decide +kernel
theorem c_212_7 : ax_code 212 7 = some (.aload 0, 8) := by decide +kernel
theorem c_212_8 : ax_code 212 8 = some (.iload 1, 9) := by decide +kernel
theorem c_212_9 : ax_code 212 9 = some (.putfield 721, 12) := by decide +kernel
theorem c_212_12 : ax_code 212 12 = some (.aload 0, 13) := by decide +kernel
theorem c_212_13 : ax_code 212 13 = some (.aload 0, 14) := by decide +kernel
theorem c_212_14 : ax_code 212 14 = some (.getfield 719, 17) := by decide +kernel
theorem c_212_17 : ax_code 212 17 = some (.putfield 722, 20) := by decide +kernel
theorem c_212_20 : ax_code 212 20 = some (.return_, 21) := by decide +kernel
theorem c_213_0 : ax_code 213 0 = some (.iload 1, 1) := by decide +kernel
theorem c_213_1 : ax_code 213 1 = some (.ifCond .ne 9, 4) := by decide +kernel
theorem c_213_4 : ax_code 213 4 = some (.aload 0, 5) := by decide +kernel
theorem c_213_5 : ax_code 213 5 = some (.iconst 1, 6) := by decide +kernel
theorem c_213_6 : ax_code 213 6 = some (.invokevirtual 212, 9) := by decide +kernel
theorem c_213_9 : ax_code 213 9 = some (.aload 0, 10) := by decide +kernel
theorem c_213_10 : ax_code 213 10 = some (.getfield 721, 13) := by decide +kernel
theorem c_213_13 : ax_code 213 13 = some (.ifCond .ne 20, 16) := by decide +kernel
theorem c_213_16 : ax_code 213 16 = some (.aload 0, 17) := by decide +kernel
theorem c_213_17 : ax_code 213 17 = some (.invokevirtual 206, 20) := by decide +kernel
theorem c_213_20 : ax_code 213 20 = some (.return_, 21) := by decide +kernel
theorem c_214_0 : ax_code 214 0 = some (.aload 0, 1) := by decide +kernel
theorem c_214_1 : ax_code 214 1 = some (.getfield 721, 4) := by decide +kernel
theorem c_214_4 : ax_code 214 4 = some (.ifCond .le 9, 7) := by decide +kernel
theorem c_214_7 : ax_code 214 7 = some (.iconst 0, 8) := by decide +kernel
theorem c_214_8 : ax_code 214 8 = some (.ireturn, 9) := by decide +kernel
theorem c_214_9 : ax_code 214 9 = some (.aload 0, 10) := by decide +kernel
theorem c_214_10 : ax_code 214 10 = some (.invokevirtual 215, 13) := by decide +kernel
theorem c_214_13 : ax_code 214 13 = some (.istore 3, 14) := by decide +kernel
theorem c_214_14 : ax_code 214 14 = some (.aload 0, 15) := by decide +kernel
theorem c_214_15 : ax_code 214 15 = some (.getfield 718, 18) := by decide +kernel
theorem c_214_18 : ax_code 214 18 = some (.iconst 3, 19) := by decide +kernel
theorem c_214_19 : ax_code 214 19 = some (.if_icmp .ne 39, 22) := by decide +kernel
theorem c_214_22 : ax_code 214 22 = some (.iload 3, 23) := by decide +kernel
theorem c_214_23 : ax_code 214 23 = some (.i2l, 24) := by decide +kernel
theorem c_214_24 : ax_code 214 24 = some (.iload 1, 25) := by decide +kernel
theorem c_214_25 : ax_code 214 25 = some (.i2l, 26) := by decide +kernel
theorem c_214_26 : ax_code 214 26 = some (.iload 2, 27) := by decide +kernel
theorem c_214_27 : ax_code 214 27 = some (.i2l, 28) := by decide +kernel
theorem c_214_28 : ax_code 214 28 = some (.invokestatic 198, 31) := by decide +kernel
theorem c_214_31 : ax_code 214 31 = some (.ifCond .ne 39, 34) := by decide +kernel
theorem c_214_34 : ax_code 214 34 = some (.aload 0, 35) := by decide +kernel
theorem c_214_35 : ax_code 214 35 = some (.iconst 2, 36) := by decide +kernel
theorem c_214_36 : ax_code 214 36 = some (.invokevirtual 212, 39) := by decide +kernel
theorem c_214_39 : ax_code 214 39 = some (.aload 0, 40) := by decide +kernel
theorem c_214_40 : ax_code 214 40 = some (.aload 0, 41) := by decide +kernel
theorem c_214_41 : ax_code 214 41 = some (.getfield 718, 44) := by decide +kernel
theorem c_214_44 : ax_code 214 44 = some (.iconst 3, 45) := by decide +kernel
theorem c_214_45 : ax_code 214 45 = some (.if_icmp .ne 52, 48) := by decide +kernel
theorem c_214_48 : ax_code 214 48 = some (.iconst 1, 49) := by decide +kernel
theorem c_214_49 : ax_code 214 49 = some (.goto 53, 52) := by decide +kernel
theorem c_214_52 : ax_code 214 52 = some (.iconst 0, 53) := by decide +kernel
theorem c_214_53 : ax_code 214 53 = some (.invokevirtual 213, 56) := by decide +kernel
theorem c_214_56 : ax_code 214 56 = some (.iload 3, 57) := by decide +kernel
theorem c_214_57 : ax_code 214 57 = some (.ireturn, 58) := by decide +kernel
theorem c_215_0 : ax_code 215 0 = some (.iconst 0, 1) := by decide +kernel
theorem c_215_1 : ax_code 215 1 = some (.istore 1, 2) := by decide +kernel
theorem c_215_2 : ax_code 215 2 = some (.aload 0, 3) := by decide +kernel
theorem c_215_3 : ax_code 215 3 = some (.getfield 719, 6) := by decide +kernel
theorem c_215_6 : ax_code 215 6 = some (.istore 2, 7) := by decide +kernel
theorem c_215_7 : ax_code 215 7 = some (.iload 2, 8) := by decide +kernel
theorem c_215_8 : ax_code 215 8 = some (.aload 0, 9) := by decide +kernel
theorem c_215_9 : ax_code 215 9 = some (.getfield 720, 12) := by decide +kernel
theorem c_215_12 : ax_code 215 12 = some (.if_icmp .ge 44, 15) := by decide +kernel
theorem c_215_15 : ax_code 215 15 = some (.aload 0, 16) := by decide +kernel
theorem c_215_16 : ax_code 215 16 = some (.getfield 718, 19) := by decide +kernel
theorem c_215_19 : ax_code 215 19 = some (.iconst 3, 20) := by decide +kernel
theorem c_215_20 : ax_code 215 20 = some (.if_icmp .ne 44, 23) := by decide +kernel
theorem c_215_23 : ax_code 215 23 = some (.iconst 10, 25) := by decide +kernel
theorem c_215_25 : ax_code 215 25 = some (.iload 1, 26) := by decide +kernel
theorem c_215_26 : ax_code 215 26 = some (.imul, 27) := by decide +kernel
theorem c_215_27 : ax_code 215 27 = some (.aload 0, 28) := by decide +kernel
theorem c_215_28 : ax_code 215 28 = some (.getfield 713, 31) := by decide +kernel
theorem c_215_31 : ax_code 215 31 = some (.iload 2, 32) := by decide +kernel
theorem c_215_32 : ax_code 215 32 = some (.iaload, 33) := by decide +kernel
theorem c_215_33 : ax_code 215 33 = some (.iadd, 34) := by decide +kernel
theorem c_215_34 : ax_code 215 34 = some (.iconst 48, 36) := by decide +kernel
theorem c_215_36 : ax_code 215 36 = some (.isub, 37) := by decide +kernel
theorem c_215_37 : ax_code 215 37 = some (.istore 1, 38) := by decide +kernel
theorem c_215_38 : ax_code 215 38 = some (.iinc 2 (1), 41) := by decide +kernel
theorem c_215_41 : ax_code 215 41 = some (.goto 7, 44) := by decide +kernel
theorem c_215_44 : ax_code 215 44 = some (.iload 1, 45) := by decide +kernel
theorem c_215_45 : ax_code 215 45 = some (.ireturn, 46) := by decide +kernel
theorem c_216_0 : ax_code 216 0 = some (.aload 0, 1) := by decide +kernel
theorem c_216_1 : ax_code 216 1 = some (.getfield 721, 4) := by decide +kernel
theorem c_216_4 : ax_code 216 4 = some (.ifCond .ne 24, 7) := by decide +kernel
theorem c_216_7 : ax_code 216 7 = some (.aload 0, 8) := by decide +kernel
theorem c_216_8 : ax_code 216 8 = some (.aload 0, 9) := by decide +kernel
theorem c_216_9 : ax_code 216 9 = some (.getfield 718, 12) := by decide +kernel
theorem c_216_12 : ax_code 216 12 = some (.iconst 4, 13) := by decide +kernel
theorem c_216_13 : ax_code 216 13 = some (.if_icmp .ne 20, 16) := by decide +kernel
theorem c_216_16 : ax_code 216 16 = some (.iconst 1, 17) := by decide +kernel
theorem c_216_17 : ax_code 216 17 = some (.goto 21, 20) := by decide +kernel
theorem c_216_20 : ax_code 216 20 = some (.iconst 0, 21) := by decide +kernel
theorem c_216_21 : ax_code 216 21 = some (.invokevirtual 213, 24) := by decide +kernel
theorem c_216_24 : ax_code 216 24 = some (.return_, 25) := by decide +kernel
theorem c_217_0 : ax_code 217 0 = some (.aload 0, 1) := by decide +kernel
theorem c_217_1 : ax_code 217 1 = some (.getfield 710, 4) := by decide +kernel
theorem c_217_4 : ax_code 217 4 = some (.iconst 1, 5) := by decide +kernel
theorem c_217_5 : ax_code 217 5 = some (.iaload, 6) := by decide +kernel
theorem c_217_6 : ax_code 217 6 = some (.iconst 8, 8) := by decide +kernel
theorem c_217_8 : ax_code 217 8 = some (.if_icmp .ne 16, 11) := by decide +kernel
theorem c_217_11 : ax_code 217 11 = some (.aload 0, 12) := by decide +kernel
theorem c_217_12 : ax_code 217 12 = some (.iconst 3, 13) := by decide +kernel
theorem c_217_13 : ax_code 217 13 = some (.invokevirtual 212, 16) := by decide +kernel
theorem c_217_16 : ax_code 217 16 = some (.aload 0, 17) := by decide +kernel
theorem c_217_17 : ax_code 217 17 = some (.iconst 1, 18) := by decide +kernel
theorem c_217_18 : ax_code 217 18 = some (.invokevirtual 213, 21) := by decide +kernel
theorem c_217_21 : ax_code 217 21 = some (.iconst 66, 23) := by decide +kernel
theorem c_217_23 : ax_code 217 23 = some (.iconst 3, 24) := by decide +kernel
theorem c_217_24 : ax_code 217 24 = some (.aload 0, 25) := by decide +kernel
theorem c_217_25 : ax_code 217 25 = some (.getfield 710, 28) := by decide +kernel
theorem c_217_28 : ax_code 217 28 = some (.iconst 1, 29) := by decide +kernel
theorem c_217_29 : ax_code 217 29 = some (.iaload, 30) := by decide +kernel
theorem c_217_30 : ax_code 217 30 = some (.imul, 31) := by decide +kernel
theorem c_217_31 : ax_code 217 31 = some (.iadd, 32) := by decide +kernel
theorem c_217_32 : ax_code 217 32 = some (.istore 1, 33) := by decide +kernel
theorem c_217_33 : ax_code 217 33 = some (.aload 0, 34) := by decide +kernel
theorem c_217_34 : ax_code 217 34 = some (.iconst 0, 35) := by decide +kernel
theorem c_217_35 : ax_code 217 35 = some (.iconst 7, 37) := by decide +kernel
theorem c_217_37 : ax_code 217 37 = some (.invokevirtual 214, 40) := by decide +kernel
theorem c_217_40 : ax_code 217 40 = some (.istore 2, 41) := by decide +kernel
theorem c_217_41 : ax_code 217 41 = some (.aload 0, 42) := by decide +kernel
theorem c_217_42 : ax_code 217 42 = some (.iconst 1800, 45) := by decide +kernel
theorem c_217_45 : ax_code 217 45 = some (.iconst 2000, 48) := by decide +kernel
theorem c_217_48 : ax_code 217 48 = some (.invokevirtual 214, 51) := by decide +kernel
theorem c_217_51 : ax_code 217 51 = some (.istore 3, 52) := by decide +kernel
theorem c_217_52 : ax_code 217 52 = some (.aload 0, 53) := by decide +kernel
theorem c_217_53 : ax_code 217 53 = some (.aload 0, 54) := by decide +kernel
theorem c_217_54 : ax_code 217 54 = some (.getfield 721, 57) := by decide +kernel
theorem c_217_57 : ax_code 217 57 = some (.ifCond .ne 64, 60) := by decide +kernel
theorem c_217_60 : ax_code 217 60 = some (.iload 3, 61) := by decide +kernel
theorem c_217_61 : ax_code 217 61 = some (.goto 65, 64) := by decide +kernel
theorem c_217_64 : ax_code 217 64 = some (.iconst 0, 65) := by decide +kernel
theorem c_217_65 : ax_code 217 65 = some (.iconst 2000, 68) := by decide +kernel
theorem c_217_68 : ax_code 217 68 = some (.invokevirtual 214, 71) := by decide +kernel
theorem c_217_71 : ax_code 217 71 = some (.istore 4, 73) := by decide +kernel
theorem c_217_73 : ax_code 217 73 = some (.aload 0, 74) := by decide +kernel
theorem c_217_74 : ax_code 217 74 = some (.invokevirtual 216, 77) := by decide +kernel
theorem c_217_77 : ax_code 217 77 = some (.aload 0, 78) := by decide +kernel
theorem c_217_78 : ax_code 217 78 = some (.getfield 721, 81) := by decide +kernel
theorem c_217_81 : ax_code 217 81 = some (.ifCond .ne 120, 84) := by decide +kernel
theorem c_217_84 : ax_code 217 84 = some (.aload 0, 85) := by decide +kernel
theorem c_217_85 : ax_code 217 85 = some (.getfield 710, 88) := by decide +kernel
theorem c_217_88 : ax_code 217 88 = some (.iload 1, 89) := by decide +kernel
theorem c_217_89 : ax_code 217 89 = some (.iload 2, 90) := by decide +kernel
theorem c_217_90 : ax_code 217 90 = some (.iastore, 91) := by decide +kernel
theorem c_217_91 : ax_code 217 91 = some (.aload 0, 92) := by decide +kernel
theorem c_217_92 : ax_code 217 92 = some (.getfield 710, 95) := by decide +kernel
theorem c_217_95 : ax_code 217 95 = some (.iload 1, 96) := by decide +kernel
theorem c_217_96 : ax_code 217 96 = some (.iconst 1, 97) := by decide +kernel
theorem c_217_97 : ax_code 217 97 = some (.iadd, 98) := by decide +kernel
theorem c_217_98 : ax_code 217 98 = some (.iload 3, 99) := by decide +kernel
theorem c_217_99 : ax_code 217 99 = some (.iastore, 100) := by decide +kernel
theorem c_217_100 : ax_code 217 100 = some (.aload 0, 101) := by decide +kernel
theorem c_217_101 : ax_code 217 101 = some (.getfield 710, 104) := by decide +kernel
theorem c_217_104 : ax_code 217 104 = some (.iload 1, 105) := by decide +kernel
theorem c_217_105 : ax_code 217 105 = some (.iconst 2, 106) := by decide +kernel
theorem c_217_106 : ax_code 217 106 = some (.iadd, 107) := by decide +kernel
theorem c_217_107 : ax_code 217 107 = some (.iload 4, 109) := by decide +kernel
theorem c_217_109 : ax_code 217 109 = some (.iastore, 110) := by decide +kernel
theorem c_217_110 : ax_code 217 110 = some (.aload 0, 111) := by decide +kernel
theorem c_217_111 : ax_code 217 111 = some (.getfield 710, 114) := by decide +kernel
theorem c_217_114 : ax_code 217 114 = some (.iconst 1, 115) := by decide +kernel
theorem c_217_115 : ax_code 217 115 = some (.dup2, 116) := by decide +kernel
theorem c_217_116 : ax_code 217 116 = some (.iaload, 117) := by decide +kernel
theorem c_217_117 : ax_code 217 117 = some (.iconst 1, 118) := by decide +kernel
theorem c_217_118 : ax_code 217 118 = some (.iadd, 119) := by decide +kernel
theorem c_217_119 : ax_code 217 119 = some (.iastore, 120) := by decide +kernel
theorem c_217_120 : ax_code 217 120 = some (.return_, 121) := by decide +kernel
theorem c_218_0 : ax_code 218 0 = some (.aload 0, 1) := by decide +kernel
theorem c_218_1 : ax_code 218 1 = some (.getfield 721, 4) := by decide +kernel
theorem c_218_4 : ax_code 218 4 = some (.ifCond .ne 20, 7) := by decide +kernel
theorem c_218_7 : ax_code 218 7 = some (.aload 0, 8) := by decide +kernel
theorem c_218_8 : ax_code 218 8 = some (.getfield 718, 11) := by decide +kernel
theorem c_218_11 : ax_code 218 11 = some (.iconst 1, 12) := by decide +kernel
theorem c_218_12 : ax_code 218 12 = some (.if_icmp .eq 20, 15) := by decide +kernel
theorem c_218_15 : ax_code 218 15 = some (.aload 0, 16) := by decide +kernel
theorem c_218_16 : ax_code 218 16 = some (.iconst 1, 17) := by decide +kernel
theorem c_218_17 : ax_code 218 17 = some (.invokevirtual 212, 20) := by decide +kernel
theorem c_218_20 : ax_code 218 20 = some (.aload 0, 21) := by decide +kernel
theorem c_218_21 : ax_code 218 21 = some (.getfield 721, 24) := by decide +kernel
theorem c_218_24 : ax_code 218 24 = some (.ifCond .le 45, 27) := by decide +kernel
theorem c_218_27 : ax_code 218 27 = some (.aload 0, 28) := by decide +kernel
theorem c_218_28 : ax_code 218 28 = some (.aload 0, 29) := by decide +kernel
theorem c_218_29 : ax_code 218 29 = some (.getfield 721, 32) := by decide +kernel
theorem c_218_32 : ax_code 218 32 = some (.putfield 715, 35) := by decide +kernel
theorem c_218_35 : ax_code 218 35 = some (.ldc2_w 3, 38) := by decide +kernel
theorem c_218_38 : ax_code 218 38 = some (.aload 0, 39) := by decide +kernel
theorem c_218_39 : ax_code 218 39 = some (.getfield 722, 42) := by decide +kernel
theorem c_218_42 : ax_code 218 42 = some (.i2l, 43) := by decide +kernel
theorem c_218_43 : ax_code 218 43 = some (.lsub, 44) := by decide +kernel
theorem c_218_44 : ax_code 218 44 = some (.lreturn, 45) := by decide +kernel
theorem c_218_45 : ax_code 218 45 = some (.lconst 0, 46) := by decide +kernel
theorem c_218_46 : ax_code 218 46 = some (.lreturn, 47) := by decide +kernel
theorem c_219_0 : ax_code 219 0 = some (.aload 0, 1) := by decide +kernel
theorem c_219_1 : ax_code 219 1 = some (.iconst 0, 2) := by decide +kernel
theorem c_219_2 : ax_code 219 2 = some (.putfield 704, 5) := by decide +kernel
theorem c_219_5 : ax_code 219 5 = some (.aload 0, 6) := by decide +kernel
theorem c_219_6 : ax_code 219 6 = some (.getfield 711, 9) := by decide +kernel
theorem c_219_9 : ax_code 219 9 = some (.ifCond .ne 16, 12) := by decide +kernel
theorem c_219_12 : ax_code 219 12 = some (.ldc2_w 4, 15) := by decide +kernel
theorem c_219_15 : ax_code 219 15 = some (.lreturn, 16) := by decide +kernel
theorem c_219_16 : ax_code 219 16 = some (.aload 0, 17) := by decide +kernel
theorem c_219_17 : ax_code 219 17 = some (.getfield 712, 20) := by decide +kernel
theorem c_219_20 : ax_code 219 20 = some (.iconst 0, 21) := by decide +kernel
theorem c_219_21 : ax_code 219 21 = some (.iaload, 22) := by decide +kernel
theorem c_219_22 : ax_code 219 22 = some (.iconst 12, 24) := by decide +kernel
theorem c_219_24 : ax_code 219 24 = some (.if_icmp .ne 31, 27) := by decide +kernel
theorem c_219_27 : ax_code 219 27 = some (.ldc2_w 2, 30) := by decide +kernel
theorem c_219_30 : ax_code 219 30 = some (.lreturn, 31) := by decide +kernel
theorem c_219_31 : ax_code 219 31 = some (.aload 0, 32) := by decide +kernel
theorem c_219_32 : ax_code 219 32 = some (.invokevirtual 205, 35) := by decide +kernel
theorem c_219_35 : ax_code 219 35 = some (.aload 0, 36) := by decide +kernel
theorem c_219_36 : ax_code 219 36 = some (.aload 0, 37) := by decide +kernel
theorem c_219_37 : ax_code 219 37 = some (.invokevirtual 210, 40) := by decide +kernel
theorem c_219_40 : ax_code 219 40 = some (.ldc2_w 14, 43) := by decide +kernel
theorem c_219_43 : ax_code 219 43 = some (.lcmp, 44) := by decide +kernel
theorem c_219_44 : ax_code 219 44 = some (.ifCond .ne 51, 47) := by decide +kernel
theorem c_219_47 : ax_code 219 47 = some (.iconst 1, 48) := by decide +kernel
theorem c_219_48 : ax_code 219 48 = some (.goto 52, 51) := by decide +kernel
theorem c_219_51 : ax_code 219 51 = some (.iconst 0, 52) := by decide +kernel
theorem c_219_52 : ax_code 219 52 = some (.invokevirtual 213, 55) := by decide +kernel
theorem c_219_55 : ax_code 219 55 = some (.aload 0, 56) := by decide +kernel
theorem c_219_56 : ax_code 219 56 = some (.iconst 0, 57) := by decide +kernel
theorem c_219_57 : ax_code 219 57 = some (.iconst 3, 58) := by decide +kernel
theorem c_219_58 : ax_code 219 58 = some (.invokevirtual 214, 61) := by decide +kernel
theorem c_219_61 : ax_code 219 61 = some (.istore 1, 62) := by decide +kernel
theorem c_219_62 : ax_code 219 62 = some (.aload 0, 63) := by decide +kernel
theorem c_219_63 : ax_code 219 63 = some (.iconst 1800, 66) := by decide +kernel
theorem c_219_66 : ax_code 219 66 = some (.iconst 2000, 69) := by decide +kernel
theorem c_219_69 : ax_code 219 69 = some (.invokevirtual 214, 72) := by decide +kernel
theorem c_219_72 : ax_code 219 72 = some (.istore 2, 73) := by decide +kernel
theorem c_219_73 : ax_code 219 73 = some (.aload 0, 74) := by decide +kernel
theorem c_219_74 : ax_code 219 74 = some (.invokevirtual 216, 77) := by decide +kernel
theorem c_219_77 : ax_code 219 77 = some (.aload 0, 78) := by decide +kernel
theorem c_219_78 : ax_code 219 78 = some (.iload 1, 79) := by decide +kernel
theorem c_219_79 : ax_code 219 79 = some (.iload 2, 80) := by decide +kernel
theorem c_219_80 : ax_code 219 80 = some (.iconst (-1), 81) := by decide +kernel
theorem c_219_81 : ax_code 219 81 = some (.invokevirtual 220, 84) := by decide +kernel
theorem c_219_84 : ax_code 219 84 = some (.aload 0, 85) := by decide +kernel
theorem c_219_85 : ax_code 219 85 = some (.iconst 0, 86) := by decide +kernel
theorem c_219_86 : ax_code 219 86 = some (.putfield 724, 89) := by decide +kernel
theorem c_219_89 : ax_code 219 89 = some (.aload 0, 90) := by decide +kernel
theorem c_219_90 : ax_code 219 90 = some (.getfield 721, 93) := by decide +kernel
theorem c_219_93 : ax_code 219 93 = some (.ifCond .ne 113, 96) := by decide +kernel
theorem c_219_96 : ax_code 219 96 = some (.aload 0, 97) := by decide +kernel
theorem c_219_97 : ax_code 219 97 = some (.getfield 718, 100) := by decide +kernel
theorem c_219_100 : ax_code 219 100 = some (.iconst 1, 101) := by decide +kernel
theorem c_219_101 : ax_code 219 101 = some (.if_icmp .eq 113, 104) := by decide +kernel
theorem c_219_104 : ax_code 219 104 = some (.aload 0, 105) := by decide +kernel
theorem c_219_105 : ax_code 219 105 = some (.iload 1, 106) := by decide +kernel
theorem c_219_106 : ax_code 219 106 = some (.iload 2, 107) := by decide +kernel
theorem c_219_107 : ax_code 219 107 = some (.invokevirtual 221, 110) := by decide +kernel
theorem c_219_110 : ax_code 219 110 = some (.goto 89, 113) := by decide +kernel
theorem c_219_113 : ax_code 219 113 = some (.aload 0, 114) := by decide +kernel
theorem c_219_114 : ax_code 219 114 = some (.invokevirtual 218, 117) := by decide +kernel
theorem c_219_117 : ax_code 219 117 = some (.lstore 3, 118) := by decide +kernel
theorem c_219_118 : ax_code 219 118 = some (.lload 3, 119) := by decide +kernel
theorem c_219_119 : ax_code 219 119 = some (.lconst 0, 120) := by decide +kernel
theorem c_219_120 : ax_code 219 120 = some (.lcmp, 121) := by decide +kernel
theorem c_219_121 : ax_code 219 121 = some (.ifCond .ge 128, 124) := by decide +kernel
theorem c_219_124 : ax_code 219 124 = some (.lload 3, 125) := by decide +kernel
theorem c_219_125 : ax_code 219 125 = some (.goto 133, 128) := by decide +kernel
theorem c_219_128 : ax_code 219 128 = some (.aload 0, 129) := by decide +kernel
theorem c_219_129 : ax_code 219 129 = some (.invokevirtual 226, 132) := by decide +kernel
theorem c_219_132 : ax_code 219 132 = some (.i2l, 133) := by decide +kernel
theorem c_219_133 : ax_code 219 133 = some (.lreturn, 134) := by decide +kernel
theorem c_220_0 : ax_code 220 0 = some (.iconst 0, 1) := by decide +kernel
theorem c_220_1 : ax_code 220 1 = some (.istore 4, 3) := by decide +kernel
theorem c_220_3 : ax_code 220 3 = some (.iload 4, 5) := by decide +kernel
theorem c_220_5 : ax_code 220 5 = some (.iconst 15, 7) := by decide +kernel
theorem c_220_7 : ax_code 220 7 = some (.if_icmp .ge 24, 10) := by decide +kernel
theorem c_220_10 : ax_code 220 10 = some (.aload 0, 11) := by decide +kernel
theorem c_220_11 : ax_code 220 11 = some (.getfield 723, 14) := by decide +kernel
theorem c_220_14 : ax_code 220 14 = some (.iload 4, 16) := by decide +kernel
theorem c_220_16 : ax_code 220 16 = some (.iconst 0, 17) := by decide +kernel
theorem c_220_17 : ax_code 220 17 = some (.iastore, 18) := by decide +kernel
theorem c_220_18 : ax_code 220 18 = some (.iinc 4 (1), 21) := by decide +kernel
theorem c_220_21 : ax_code 220 21 = some (.goto 3, 24) := by decide +kernel
theorem c_220_24 : ax_code 220 24 = some (.aload 0, 25) := by decide +kernel
theorem c_220_25 : ax_code 220 25 = some (.getfield 723, 28) := by decide +kernel
theorem c_220_28 : ax_code 220 28 = some (.iconst 0, 29) := by decide +kernel
theorem c_220_29 : ax_code 220 29 = some (.iload 1, 30) := by decide +kernel
theorem c_220_30 : ax_code 220 30 = some (.iastore, 31) := by decide +kernel
theorem c_220_31 : ax_code 220 31 = some (.aload 0, 32) := by decide +kernel
theorem c_220_32 : ax_code 220 32 = some (.getfield 723, 35) := by decide +kernel
theorem c_220_35 : ax_code 220 35 = some (.iconst 1, 36) := by decide +kernel
theorem c_220_36 : ax_code 220 36 = some (.iload 2, 37) := by decide +kernel
theorem c_220_37 : ax_code 220 37 = some (.iastore, 38) := by decide +kernel
theorem c_220_38 : ax_code 220 38 = some (.aload 0, 39) := by decide +kernel
theorem c_220_39 : ax_code 220 39 = some (.getfield 723, 42) := by decide +kernel
theorem c_220_42 : ax_code 220 42 = some (.iconst 2, 43) := by decide +kernel
theorem c_220_43 : ax_code 220 43 = some (.iload 3, 44) := by decide +kernel
theorem c_220_44 : ax_code 220 44 = some (.iastore, 45) := by decide +kernel
theorem c_220_45 : ax_code 220 45 = some (.return_, 46) := by decide +kernel
theorem c_221_0 : ax_code 221 0 = some (.aload 0, 1) := by decide +kernel
theorem c_221_1 : ax_code 221 1 = some (.invokevirtual 210, 4) := by decide +kernel
theorem c_221_4 : ax_code 221 4 = some (.lstore 3, 5) := by decide +kernel
theorem c_221_5 : ax_code 221 5 = some (.lload 3, 6) := by decide +kernel
theorem c_221_6 : ax_code 221 6 = some (.ldc2_w 15, 9) := by decide +kernel
theorem c_221_9 : ax_code 221 9 = some (.lcmp, 10) := by decide +kernel
theorem c_221_10 : ax_code 221 10 = some (.ifCond .ne 20, 13) := by decide +kernel
theorem c_221_13 : ax_code 221 13 = some (.aload 0, 14) := by decide +kernel
theorem c_221_14 : ax_code 221 14 = some (.iload 1, 15) := by decide +kernel
theorem c_221_15 : ax_code 221 15 = some (.iload 2, 16) := by decide +kernel
theorem c_221_16 : ax_code 221 16 = some (.invokevirtual 222, 19) := by decide +kernel
theorem c_221_19 : ax_code 221 19 = some (.return_, 20) := by decide +kernel
theorem c_221_20 : ax_code 221 20 = some (.lload 3, 21) := by decide +kernel
theorem c_221_21 : ax_code 221 21 = some (.ldc2_w 16, 24) := by decide +kernel
theorem c_221_24 : ax_code 221 24 = some (.lcmp, 25) := by decide +kernel
theorem c_221_25 : ax_code 221 25 = some (.ifCond .eq 42, 28) := by decide +kernel
theorem c_221_28 : ax_code 221 28 = some (.lload 3, 29) := by decide +kernel
theorem c_221_29 : ax_code 221 29 = some (.ldc2_w 17, 32) := by decide +kernel
theorem c_221_32 : ax_code 221 32 = some (.lcmp, 33) := by decide +kernel
theorem c_221_33 : ax_code 221 33 = some (.ifCond .eq 42, 36) := by decide +kernel
theorem c_221_36 : ax_code 221 36 = some (.aload 0, 37) := by decide +kernel
theorem c_221_37 : ax_code 221 37 = some (.iconst 1, 38) := by decide +kernel
theorem c_221_38 : ax_code 221 38 = some (.invokevirtual 212, 41) := by decide +kernel
theorem c_221_41 : ax_code 221 41 = some (.return_, 42) := by decide +kernel
theorem c_221_42 : ax_code 221 42 = some (.lload 3, 43) := by decide +kernel
theorem c_221_43 : ax_code 221 43 = some (.ldc2_w 16, 46) := by decide +kernel
theorem c_221_46 : ax_code 221 46 = some (.lcmp, 47) := by decide +kernel
theorem c_221_47 : ax_code 221 47 = some (.ifCond .ne 55, 50) := by decide +kernel
theorem c_221_50 : ax_code 221 50 = some (.iconst 8, 52) := by decide +kernel
theorem c_221_52 : ax_code 221 52 = some (.goto 57, 55) := by decide +kernel
theorem c_221_55 : ax_code 221 55 = some (.iconst 10, 57) := by decide +kernel
theorem c_221_57 : ax_code 221 57 = some (.istore 5, 59) := by decide +kernel
theorem c_221_59 : ax_code 221 59 = some (.aload 0, 60) := by decide +kernel
theorem c_221_60 : ax_code 221 60 = some (.getfield 724, 63) := by decide +kernel
theorem c_221_63 : ax_code 221 63 = some (.iload 5, 65) := by decide +kernel
theorem c_221_65 : ax_code 221 65 = some (.ishr, 66) := by decide +kernel
theorem c_221_66 : ax_code 221 66 = some (.iconst 1, 67) := by decide +kernel
theorem c_221_67 : ax_code 221 67 = some (.iand, 68) := by decide +kernel
theorem c_221_68 : ax_code 221 68 = some (.iconst 1, 69) := by decide +kernel
theorem c_221_69 : ax_code 221 69 = some (.if_icmp .ne 77, 72) := by decide +kernel
theorem c_221_72 : ax_code 221 72 = some (.aload 0, 73) := by decide +kernel
theorem c_221_73 : ax_code 221 73 = some (.iconst 4, 74) := by decide +kernel
theorem c_221_74 : ax_code 221 74 = some (.invokevirtual 212, 77) := by decide +kernel
theorem c_221_77 : ax_code 221 77 = some (.aload 0, 78) := by decide +kernel
theorem c_221_78 : ax_code 221 78 = some (.iconst 1, 79) := by decide +kernel
theorem c_221_79 : ax_code 221 79 = some (.invokevirtual 213, 82) := by decide +kernel
theorem c_221_82 : ax_code 221 82 = some (.aload 0, 83) := by decide +kernel
theorem c_221_83 : ax_code 221 83 = some (.dup, 84) := by decide +kernel
theorem c_221_84 : ax_code 221 84 = some (.getfield 724, 87) := by decide +kernel
theorem c_221_87 : ax_code 221 87 = some (.iconst 1, 88) := by decide +kernel
theorem c_221_88 : ax_code 221 88 = some (.iload 5, 90) := by decide +kernel
theorem c_221_90 : ax_code 221 90 = some (.ishl, 91) := by decide +kernel
theorem c_221_91 : ax_code 221 91 = some (.ior, 92) := by decide +kernel
theorem c_221_92 : ax_code 221 92 = some (.putfield 724, 95) := by decide +kernel
theorem c_221_95 : ax_code 221 95 = some (.lload 3, 96) := by decide +kernel
theorem c_221_96 : ax_code 221 96 = some (.ldc2_w 16, 99) := by decide +kernel
theorem c_221_99 : ax_code 221 99 = some (.lcmp, 100) := by decide +kernel
theorem c_221_100 : ax_code 221 100 = some (.ifCond .ne 113, 103) := by decide +kernel
theorem c_221_103 : ax_code 221 103 = some (.aload 0, 104) := by decide +kernel
theorem c_221_104 : ax_code 221 104 = some (.iconst 0, 105) := by decide +kernel
theorem c_221_105 : ax_code 221 105 = some (.iconst 9, 107) := by decide +kernel
theorem c_221_107 : ax_code 221 107 = some (.invokevirtual 223, 110) := by decide +kernel
theorem c_221_110 : ax_code 221 110 = some (.goto 114, 113) := by decide +kernel
theorem c_221_113 : ax_code 221 113 = some (.iconst 0, 114) := by decide +kernel
theorem c_221_114 : ax_code 221 114 = some (.istore 6, 116) := by decide +kernel
theorem c_221_116 : ax_code 221 116 = some (.aload 0, 117) := by decide +kernel
theorem c_221_117 : ax_code 221 117 = some (.iconst 1, 118) := by decide +kernel
theorem c_221_118 : ax_code 221 118 = some (.iconst 99, 120) := by decide +kernel
theorem c_221_120 : ax_code 221 120 = some (.invokevirtual 223, 123) := by decide +kernel
theorem c_221_123 : ax_code 221 123 = some (.istore 7, 125) := by decide +kernel
theorem c_221_125 : ax_code 221 125 = some (.aload 0, 126) := by decide +kernel
theorem c_221_126 : ax_code 221 126 = some (.invokevirtual 216, 129) := by decide +kernel
theorem c_221_129 : ax_code 221 129 = some (.aload 0, 130) := by decide +kernel
theorem c_221_130 : ax_code 221 130 = some (.getfield 721, 133) := by decide +kernel
theorem c_221_133 : ax_code 221 133 = some (.ifCond .ne 152, 136) := by decide +kernel
theorem c_221_136 : ax_code 221 136 = some (.lload 3, 137) := by decide +kernel
theorem c_221_137 : ax_code 221 137 = some (.ldc2_w 16, 140) := by decide +kernel
theorem c_221_140 : ax_code 221 140 = some (.lcmp, 141) := by decide +kernel
theorem c_221_141 : ax_code 221 141 = some (.ifCond .ne 152, 144) := by decide +kernel
theorem c_221_144 : ax_code 221 144 = some (.aload 0, 145) := by decide +kernel
theorem c_221_145 : ax_code 221 145 = some (.iconst 8, 147) := by decide +kernel
theorem c_221_147 : ax_code 221 147 = some (.iload 6, 149) := by decide +kernel
theorem c_221_149 : ax_code 221 149 = some (.invokevirtual 225, 152) := by decide +kernel
theorem c_221_152 : ax_code 221 152 = some (.aload 0, 153) := by decide +kernel
theorem c_221_153 : ax_code 221 153 = some (.getfield 721, 156) := by decide +kernel
theorem c_221_156 : ax_code 221 156 = some (.ifCond .ne 180, 159) := by decide +kernel
theorem c_221_159 : ax_code 221 159 = some (.aload 0, 160) := by decide +kernel
theorem c_221_160 : ax_code 221 160 = some (.lload 3, 161) := by decide +kernel
theorem c_221_161 : ax_code 221 161 = some (.ldc2_w 16, 164) := by decide +kernel
theorem c_221_164 : ax_code 221 164 = some (.lcmp, 165) := by decide +kernel
theorem c_221_165 : ax_code 221 165 = some (.ifCond .ne 173, 168) := by decide +kernel
theorem c_221_168 : ax_code 221 168 = some (.iconst 9, 170) := by decide +kernel
theorem c_221_170 : ax_code 221 170 = some (.goto 175, 173) := by decide +kernel
theorem c_221_173 : ax_code 221 173 = some (.iconst 10, 175) := by decide +kernel
theorem c_221_175 : ax_code 221 175 = some (.iload 7, 177) := by decide +kernel
theorem c_221_177 : ax_code 221 177 = some (.invokevirtual 225, 180) := by decide +kernel
theorem c_221_180 : ax_code 221 180 = some (.return_, 181) := by decide +kernel
theorem c_222_0 : ax_code 222 0 = some (.aload 0, 1) := by decide +kernel
theorem c_222_1 : ax_code 222 1 = some (.iconst 1, 2) := by decide +kernel
theorem c_222_2 : ax_code 222 2 = some (.invokevirtual 213, 5) := by decide +kernel
theorem c_222_5 : ax_code 222 5 = some (.aload 0, 6) := by decide +kernel
theorem c_222_6 : ax_code 222 6 = some (.getfield 721, 9) := by decide +kernel
theorem c_222_9 : ax_code 222 9 = some (.ifCond .ne 55, 12) := by decide +kernel
theorem c_222_12 : ax_code 222 12 = some (.aload 0, 13) := by decide +kernel
theorem c_222_13 : ax_code 222 13 = some (.getfield 718, 16) := by decide +kernel
theorem c_222_16 : ax_code 222 16 = some (.iconst 3, 17) := by decide +kernel
theorem c_222_17 : ax_code 222 17 = some (.if_icmp .ne 55, 20) := by decide +kernel
theorem c_222_20 : ax_code 222 20 = some (.aload 0, 21) := by decide +kernel
theorem c_222_21 : ax_code 222 21 = some (.invokevirtual 215, 24) := by decide +kernel
theorem c_222_24 : ax_code 222 24 = some (.i2l, 25) := by decide +kernel
theorem c_222_25 : ax_code 222 25 = some (.lconst 0, 26) := by decide +kernel
theorem c_222_26 : ax_code 222 26 = some (.ldc2_w 7, 29) := by decide +kernel
theorem c_222_29 : ax_code 222 29 = some (.invokestatic 198, 32) := by decide +kernel
theorem c_222_32 : ax_code 222 32 = some (.ifCond .eq 55, 35) := by decide +kernel
theorem c_222_35 : ax_code 222 35 = some (.aload 0, 36) := by decide +kernel
theorem c_222_36 : ax_code 222 36 = some (.getfield 724, 39) := by decide +kernel
theorem c_222_39 : ax_code 222 39 = some (.aload 0, 40) := by decide +kernel
theorem c_222_40 : ax_code 222 40 = some (.invokevirtual 215, 43) := by decide +kernel
theorem c_222_43 : ax_code 222 43 = some (.ishr, 44) := by decide +kernel
theorem c_222_44 : ax_code 222 44 = some (.iconst 1, 45) := by decide +kernel
theorem c_222_45 : ax_code 222 45 = some (.iand, 46) := by decide +kernel
theorem c_222_46 : ax_code 222 46 = some (.iconst 1, 47) := by decide +kernel
theorem c_222_47 : ax_code 222 47 = some (.if_icmp .ne 55, 50) := by decide +kernel
theorem c_222_50 : ax_code 222 50 = some (.aload 0, 51) := by decide +kernel
theorem c_222_51 : ax_code 222 51 = some (.iconst 4, 52) := by decide +kernel
theorem c_222_52 : ax_code 222 52 = some (.invokevirtual 212, 55) := by decide +kernel
theorem c_222_55 : ax_code 222 55 = some (.aload 0, 56) := by decide +kernel
theorem c_222_56 : ax_code 222 56 = some (.iconst 0, 57) := by decide +kernel
theorem c_222_57 : ax_code 222 57 = some (.iconst 7, 59) := by decide +kernel
theorem c_222_59 : ax_code 222 59 = some (.invokevirtual 214, 62) := by decide +kernel
theorem c_222_62 : ax_code 222 62 = some (.istore 3, 63) := by decide +kernel
theorem c_222_63 : ax_code 222 63 = some (.aload 0, 64) := by decide +kernel
theorem c_222_64 : ax_code 222 64 = some (.iconst 1, 65) := by decide +kernel
theorem c_222_65 : ax_code 222 65 = some (.iconst 99, 67) := by decide +kernel
theorem c_222_67 : ax_code 222 67 = some (.invokevirtual 223, 70) := by decide +kernel
theorem c_222_70 : ax_code 222 70 = some (.istore 4, 72) := by decide +kernel
theorem c_222_72 : ax_code 222 72 = some (.aload 0, 73) := by decide +kernel
theorem c_222_73 : ax_code 222 73 = some (.iconst 0, 74) := by decide +kernel
theorem c_222_74 : ax_code 222 74 = some (.iconst 3, 75) := by decide +kernel
theorem c_222_75 : ax_code 222 75 = some (.invokevirtual 214, 78) := by decide +kernel
theorem c_222_78 : ax_code 222 78 = some (.istore 5, 80) := by decide +kernel
theorem c_222_80 : ax_code 222 80 = some (.aload 0, 81) := by decide +kernel
theorem c_222_81 : ax_code 222 81 = some (.invokevirtual 216, 84) := by decide +kernel
theorem c_222_84 : ax_code 222 84 = some (.aload 0, 85) := by decide +kernel
theorem c_222_85 : ax_code 222 85 = some (.getfield 721, 88) := by decide +kernel
theorem c_222_88 : ax_code 222 88 = some (.ifCond .ne 128, 91) := by decide +kernel
theorem c_222_91 : ax_code 222 91 = some (.aload 0, 92) := by decide +kernel
theorem c_222_92 : ax_code 222 92 = some (.dup, 93) := by decide +kernel
theorem c_222_93 : ax_code 222 93 = some (.getfield 724, 96) := by decide +kernel
theorem c_222_96 : ax_code 222 96 = some (.iconst 1, 97) := by decide +kernel
theorem c_222_97 : ax_code 222 97 = some (.iload 3, 98) := by decide +kernel
theorem c_222_98 : ax_code 222 98 = some (.ishl, 99) := by decide +kernel
theorem c_222_99 : ax_code 222 99 = some (.ior, 100) := by decide +kernel
theorem c_222_100 : ax_code 222 100 = some (.putfield 724, 103) := by decide +kernel
theorem c_222_103 : ax_code 222 103 = some (.aload 0, 104) := by decide +kernel
theorem c_222_104 : ax_code 222 104 = some (.iload 3, 105) := by decide +kernel
theorem c_222_105 : ax_code 222 105 = some (.iload 4, 107) := by decide +kernel
theorem c_222_107 : ax_code 222 107 = some (.ifCond .ge 114, 110) := by decide +kernel
theorem c_222_110 : ax_code 222 110 = some (.iconst (-1), 111) := by decide +kernel
theorem c_222_111 : ax_code 222 111 = some (.goto 125, 114) := by decide +kernel
theorem c_222_114 : ax_code 222 114 = some (.iload 4, 116) := by decide +kernel
theorem c_222_116 : ax_code 222 116 = some (.aload 0, 117) := by decide +kernel
theorem c_222_117 : ax_code 222 117 = some (.iload 5, 119) := by decide +kernel
theorem c_222_119 : ax_code 222 119 = some (.iload 1, 120) := by decide +kernel
theorem c_222_120 : ax_code 222 120 = some (.iload 2, 121) := by decide +kernel
theorem c_222_121 : ax_code 222 121 = some (.invokevirtual 224, 124) := by decide +kernel
theorem c_222_124 : ax_code 222 124 = some (.imul, 125) := by decide +kernel
theorem c_222_125 : ax_code 222 125 = some (.invokevirtual 225, 128) := by decide +kernel
theorem c_222_128 : ax_code 222 128 = some (.return_, 129) := by decide +kernel
theorem c_223_0 : ax_code 223 0 = some (.aload 0, 1) := by decide +kernel
theorem c_223_1 : ax_code 223 1 = some (.getfield 721, 4) := by decide +kernel
theorem c_223_4 : ax_code 223 4 = some (.ifCond .ne 21, 7) := by decide +kernel
theorem c_223_7 : ax_code 223 7 = some (.aload 0, 8) := by decide +kernel
theorem c_223_8 : ax_code 223 8 = some (.getfield 718, 11) := by decide +kernel
theorem c_223_11 : ax_code 223 11 = some (.iconst 5, 12) := by decide +kernel
theorem c_223_12 : ax_code 223 12 = some (.if_icmp .ne 21, 15) := by decide +kernel
theorem c_223_15 : ax_code 223 15 = some (.aload 0, 16) := by decide +kernel
theorem c_223_16 : ax_code 223 16 = some (.invokevirtual 206, 19) := by decide +kernel
theorem c_223_19 : ax_code 223 19 = some (.iconst (-1), 20) := by decide +kernel
theorem c_223_20 : ax_code 223 20 = some (.ireturn, 21) := by decide +kernel
theorem c_223_21 : ax_code 223 21 = some (.aload 0, 22) := by decide +kernel
theorem c_223_22 : ax_code 223 22 = some (.iload 1, 23) := by decide +kernel
theorem c_223_23 : ax_code 223 23 = some (.iload 2, 24) := by decide +kernel
theorem c_223_24 : ax_code 223 24 = some (.invokevirtual 214, 27) := by decide +kernel
theorem c_223_27 : ax_code 223 27 = some (.ireturn, 28) := by decide +kernel
theorem c_224_0 : ax_code 224 0 = some (.iconst 0, 1) := by decide +kernel
theorem c_224_1 : ax_code 224 1 = some (.istore 4, 3) := by decide +kernel
theorem c_224_3 : ax_code 224 3 = some (.iconst 1, 4) := by decide +kernel
theorem c_224_4 : ax_code 224 4 = some (.istore 5, 6) := by decide +kernel
theorem c_224_6 : ax_code 224 6 = some (.iconst 0, 7) := by decide +kernel
theorem c_224_7 : ax_code 224 7 = some (.istore 6, 9) := by decide +kernel
theorem c_224_9 : ax_code 224 9 = some (.iload 6, 11) := by decide +kernel
theorem c_224_11 : ax_code 224 11 = some (.aload 0, 12) := by decide +kernel
theorem c_224_12 : ax_code 224 12 = some (.getfield 709, 15) := by decide +kernel
theorem c_224_15 : ax_code 224 15 = some (.iconst 0, 16) := by decide +kernel
theorem c_224_16 : ax_code 224 16 = some (.iaload, 17) := by decide +kernel
theorem c_224_17 : ax_code 224 17 = some (.if_icmp .ge 107, 20) := by decide +kernel
theorem c_224_20 : ax_code 224 20 = some (.iconst 2, 21) := by decide +kernel
theorem c_224_21 : ax_code 224 21 = some (.iconst 4, 22) := by decide +kernel
theorem c_224_22 : ax_code 224 22 = some (.iload 6, 24) := by decide +kernel
theorem c_224_24 : ax_code 224 24 = some (.imul, 25) := by decide +kernel
theorem c_224_25 : ax_code 224 25 = some (.iadd, 26) := by decide +kernel
theorem c_224_26 : ax_code 224 26 = some (.istore 7, 28) := by decide +kernel
theorem c_224_28 : ax_code 224 28 = some (.aload 0, 29) := by decide +kernel
theorem c_224_29 : ax_code 224 29 = some (.getfield 709, 32) := by decide +kernel
theorem c_224_32 : ax_code 224 32 = some (.iload 7, 34) := by decide +kernel
theorem c_224_34 : ax_code 224 34 = some (.iaload, 35) := by decide +kernel
theorem c_224_35 : ax_code 224 35 = some (.iload 1, 36) := by decide +kernel
theorem c_224_36 : ax_code 224 36 = some (.if_icmp .ne 101, 39) := by decide +kernel
theorem c_224_39 : ax_code 224 39 = some (.aload 0, 40) := by decide +kernel
theorem c_224_40 : ax_code 224 40 = some (.getfield 709, 43) := by decide +kernel
theorem c_224_43 : ax_code 224 43 = some (.iload 7, 45) := by decide +kernel
theorem c_224_45 : ax_code 224 45 = some (.iconst 1, 46) := by decide +kernel
theorem c_224_46 : ax_code 224 46 = some (.iadd, 47) := by decide +kernel
theorem c_224_47 : ax_code 224 47 = some (.iaload, 48) := by decide +kernel
theorem c_224_48 : ax_code 224 48 = some (.iload 2, 49) := by decide +kernel
theorem c_224_49 : ax_code 224 49 = some (.if_icmp .ne 101, 52) := by decide +kernel
theorem c_224_52 : ax_code 224 52 = some (.aload 0, 53) := by decide +kernel
theorem c_224_53 : ax_code 224 53 = some (.getfield 709, 56) := by decide +kernel
theorem c_224_56 : ax_code 224 56 = some (.iload 7, 58) := by decide +kernel
theorem c_224_58 : ax_code 224 58 = some (.iconst 2, 59) := by decide +kernel
theorem c_224_59 : ax_code 224 59 = some (.iadd, 60) := by decide +kernel
theorem c_224_60 : ax_code 224 60 = some (.iaload, 61) := by decide +kernel
theorem c_224_61 : ax_code 224 61 = some (.iload 3, 62) := by decide +kernel
theorem c_224_62 : ax_code 224 62 = some (.if_icmp .gt 101, 65) := by decide +kernel
theorem c_224_65 : ax_code 224 65 = some (.aload 0, 66) := by decide +kernel
theorem c_224_66 : ax_code 224 66 = some (.getfield 709, 69) := by decide +kernel
theorem c_224_69 : ax_code 224 69 = some (.iload 7, 71) := by decide +kernel
theorem c_224_71 : ax_code 224 71 = some (.iconst 2, 72) := by decide +kernel
theorem c_224_72 : ax_code 224 72 = some (.iadd, 73) := by decide +kernel
theorem c_224_73 : ax_code 224 73 = some (.iaload, 74) := by decide +kernel
theorem c_224_74 : ax_code 224 74 = some (.iload 4, 76) := by decide +kernel
theorem c_224_76 : ax_code 224 76 = some (.if_icmp .lt 101, 79) := by decide +kernel
theorem c_224_79 : ax_code 224 79 = some (.aload 0, 80) := by decide +kernel
theorem c_224_80 : ax_code 224 80 = some (.getfield 709, 83) := by decide +kernel
theorem c_224_83 : ax_code 224 83 = some (.iload 7, 85) := by decide +kernel
theorem c_224_85 : ax_code 224 85 = some (.iconst 2, 86) := by decide +kernel
theorem c_224_86 : ax_code 224 86 = some (.iadd, 87) := by decide +kernel
theorem c_224_87 : ax_code 224 87 = some (.iaload, 88) := by decide +kernel
theorem c_224_88 : ax_code 224 88 = some (.istore 4, 90) := by decide +kernel
theorem c_224_90 : ax_code 224 90 = some (.aload 0, 91) := by decide +kernel
theorem c_224_91 : ax_code 224 91 = some (.getfield 709, 94) := by decide +kernel
theorem c_224_94 : ax_code 224 94 = some (.iload 7, 96) := by decide +kernel
theorem c_224_96 : ax_code 224 96 = some (.iconst 3, 97) := by decide +kernel
theorem c_224_97 : ax_code 224 97 = some (.iadd, 98) := by decide +kernel
theorem c_224_98 : ax_code 224 98 = some (.iaload, 99) := by decide +kernel
theorem c_224_99 : ax_code 224 99 = some (.istore 5, 101) := by decide +kernel
theorem c_224_101 : ax_code 224 101 = some (.iinc 6 (1), 104) := by decide +kernel
theorem c_224_104 : ax_code 224 104 = some (.goto 9, 107) := by decide +kernel
theorem c_224_107 : ax_code 224 107 = some (.iload 5, 109) := by decide +kernel
theorem c_224_109 : ax_code 224 109 = some (.ireturn, 110) := by decide +kernel
theorem c_225_0 : ax_code 225 0 = some (.aload 0, 1) := by decide +kernel
theorem c_225_1 : ax_code 225 1 = some (.getfield 723, 4) := by decide +kernel
theorem c_225_4 : ax_code 225 4 = some (.iconst 4, 5) := by decide +kernel
theorem c_225_5 : ax_code 225 5 = some (.iload 1, 6) := by decide +kernel
theorem c_225_6 : ax_code 225 6 = some (.iadd, 7) := by decide +kernel
theorem c_225_7 : ax_code 225 7 = some (.iload 2, 8) := by decide +kernel
theorem c_225_8 : ax_code 225 8 = some (.ifCond .ge 15, 11) := by decide +kernel
theorem c_225_11 : ax_code 225 11 = some (.iconst 0, 12) := by decide +kernel
theorem c_225_12 : ax_code 225 12 = some (.goto 16, 15) := by decide +kernel
theorem c_225_15 : ax_code 225 15 = some (.iload 2, 16) := by decide +kernel
theorem c_225_16 : ax_code 225 16 = some (.iastore, 17) := by decide +kernel
theorem c_225_17 : ax_code 225 17 = some (.aload 0, 18) := by decide +kernel
theorem c_225_18 : ax_code 225 18 = some (.getfield 723, 21) := by decide +kernel
theorem c_225_21 : ax_code 225 21 = some (.iconst 3, 22) := by decide +kernel
theorem c_225_22 : ax_code 225 22 = some (.dup2, 23) := by decide +kernel
theorem c_225_23 : ax_code 225 23 = some (.iaload, 24) := by decide +kernel
theorem c_225_24 : ax_code 225 24 = some (.iload 2, 25) := by decide +kernel
theorem c_225_25 : ax_code 225 25 = some (.ifCond .ge 34, 28) := by decide +kernel
theorem c_225_28 : ax_code 225 28 = some (.iconst 1, 29) := by decide +kernel
theorem c_225_29 : ax_code 225 29 = some (.iload 1, 30) := by decide +kernel
theorem c_225_30 : ax_code 225 30 = some (.ishl, 31) := by decide +kernel
theorem c_225_31 : ax_code 225 31 = some (.goto 35, 34) := by decide +kernel
theorem c_225_34 : ax_code 225 34 = some (.iconst 0, 35) := by decide +kernel
theorem c_225_35 : ax_code 225 35 = some (.ior, 36) := by decide +kernel
theorem c_225_36 : ax_code 225 36 = some (.iastore, 37) := by decide +kernel
theorem c_225_37 : ax_code 225 37 = some (.return_, 38) := by decide +kernel
theorem c_226_0 : ax_code 226 0 = some (.aload 0, 1) := by decide +kernel
theorem c_226_1 : ax_code 226 1 = some (.getfield 712, 4) := by decide +kernel
theorem c_226_4 : ax_code 226 4 = some (.iconst 0, 5) := by decide +kernel
theorem c_226_5 : ax_code 226 5 = some (.iaload, 6) := by decide +kernel
theorem c_226_6 : ax_code 226 6 = some (.istore 1, 7) := by decide +kernel
theorem c_226_7 : ax_code 226 7 = some (.iconst 0, 8) := by decide +kernel
theorem c_226_8 : ax_code 226 8 = some (.istore 2, 9) := by decide +kernel
theorem c_226_9 : ax_code 226 9 = some (.iload 2, 10) := by decide +kernel
theorem c_226_10 : ax_code 226 10 = some (.iconst 15, 12) := by decide +kernel
theorem c_226_12 : ax_code 226 12 = some (.if_icmp .ge 40, 15) := by decide +kernel
theorem c_226_15 : ax_code 226 15 = some (.aload 0, 16) := by decide +kernel
theorem c_226_16 : ax_code 226 16 = some (.getfield 712, 19) := by decide +kernel
theorem c_226_19 : ax_code 226 19 = some (.iconst 1, 20) := by decide +kernel
theorem c_226_20 : ax_code 226 20 = some (.iconst 15, 22) := by decide +kernel
theorem c_226_22 : ax_code 226 22 = some (.iload 1, 23) := by decide +kernel
theorem c_226_23 : ax_code 226 23 = some (.imul, 24) := by decide +kernel
theorem c_226_24 : ax_code 226 24 = some (.iadd, 25) := by decide +kernel
theorem c_226_25 : ax_code 226 25 = some (.iload 2, 26) := by decide +kernel
theorem c_226_26 : ax_code 226 26 = some (.iadd, 27) := by decide +kernel
theorem c_226_27 : ax_code 226 27 = some (.aload 0, 28) := by decide +kernel
theorem c_226_28 : ax_code 226 28 = some (.getfield 723, 31) := by decide +kernel
theorem c_226_31 : ax_code 226 31 = some (.iload 2, 32) := by decide +kernel
theorem c_226_32 : ax_code 226 32 = some (.iaload, 33) := by decide +kernel
theorem c_226_33 : ax_code 226 33 = some (.iastore, 34) := by decide +kernel
theorem c_226_34 : ax_code 226 34 = some (.iinc 2 (1), 37) := by decide +kernel
theorem c_226_37 : ax_code 226 37 = some (.goto 9, 40) := by decide +kernel
theorem c_226_40 : ax_code 226 40 = some (.aload 0, 41) := by decide +kernel
theorem c_226_41 : ax_code 226 41 = some (.getfield 712, 44) := by decide +kernel
theorem c_226_44 : ax_code 226 44 = some (.iconst 0, 45) := by decide +kernel
theorem c_226_45 : ax_code 226 45 = some (.dup2, 46) := by decide +kernel
theorem c_226_46 : ax_code 226 46 = some (.iaload, 47) := by decide +kernel
theorem c_226_47 : ax_code 226 47 = some (.iconst 1, 48) := by decide +kernel
theorem c_226_48 : ax_code 226 48 = some (.iadd, 49) := by decide +kernel
theorem c_226_49 : ax_code 226 49 = some (.iastore, 50) := by decide +kernel
theorem c_226_50 : ax_code 226 50 = some (.iload 1, 51) := by decide +kernel
theorem c_226_51 : ax_code 226 51 = some (.ireturn, 52) := by decide +kernel
theorem c_227_0 : ax_code 227 0 = some (.aload 0, 1) := by decide +kernel
theorem c_227_1 : ax_code 227 1 = some (.iconst 0, 2) := by decide +kernel
theorem c_227_2 : ax_code 227 2 = some (.putfield 704, 5) := by decide +kernel
theorem c_227_5 : ax_code 227 5 = some (.aload 0, 6) := by decide +kernel
theorem c_227_6 : ax_code 227 6 = some (.getfield 715, 9) := by decide +kernel
theorem c_227_9 : ax_code 227 9 = some (.ireturn, 10) := by decide +kernel
theorem c_228_0 : ax_code 228 0 = some (.aload 0, 1) := by decide +kernel
theorem c_228_1 : ax_code 228 1 = some (.iconst 0, 2) := by decide +kernel
theorem c_228_2 : ax_code 228 2 = some (.putfield 704, 5) := by decide +kernel
theorem c_228_5 : ax_code 228 5 = some (.iload 1, 6) := by decide +kernel
theorem c_228_6 : ax_code 228 6 = some (.invokestatic 229, 9) := by decide +kernel
theorem c_228_9 : ax_code 228 9 = some (.ifCond .eq 53, 12) := by decide +kernel
theorem c_228_12 : ax_code 228 12 = some (.iload 2, 13) := by decide +kernel
theorem c_228_13 : ax_code 228 13 = some (.invokestatic 230, 16) := by decide +kernel
theorem c_228_16 : ax_code 228 16 = some (.ifCond .eq 53, 19) := by decide +kernel
theorem c_228_19 : ax_code 228 19 = some (.iload 3, 20) := by decide +kernel
theorem c_228_20 : ax_code 228 20 = some (.invokestatic 197, 23) := by decide +kernel
theorem c_228_23 : ax_code 228 23 = some (.ifCond .eq 53, 26) := by decide +kernel
theorem c_228_26 : ax_code 228 26 = some (.iload 5, 28) := by decide +kernel
theorem c_228_28 : ax_code 228 28 = some (.iconst (-1000000), 30) := by decide +kernel
theorem c_228_30 : ax_code 228 30 = some (.if_icmp .eq 57, 33) := by decide +kernel
theorem c_228_33 : ax_code 228 33 = some (.aload 0, 34) := by decide +kernel
theorem c_228_34 : ax_code 228 34 = some (.iload 5, 36) := by decide +kernel
theorem c_228_36 : ax_code 228 36 = some (.invokevirtual 231, 39) := by decide +kernel
theorem c_228_39 : ax_code 228 39 = some (.ifCond .eq 53, 42) := by decide +kernel
theorem c_228_42 : ax_code 228 42 = some (.aload 0, 43) := by decide +kernel
theorem c_228_43 : ax_code 228 43 = some (.iload 5, 45) := by decide +kernel
theorem c_228_45 : ax_code 228 45 = some (.iconst 2, 46) := by decide +kernel
theorem c_228_46 : ax_code 228 46 = some (.invokevirtual 232, 49) := by decide +kernel
theorem c_228_49 : ax_code 228 49 = some (.iload 2, 50) := by decide +kernel
theorem c_228_50 : ax_code 228 50 = some (.if_icmp .le 57, 53) := by decide +kernel
theorem c_228_53 : ax_code 228 53 = some (.ldc2_w 0, 56) := by decide +kernel
theorem c_228_56 : ax_code 228 56 = some (.lreturn, 57) := by decide +kernel
theorem c_228_57 : ax_code 228 57 = some (.aload 0, 58) := by decide +kernel
theorem c_228_58 : ax_code 228 58 = some (.getfield 711, 61) := by decide +kernel
theorem c_228_61 : ax_code 228 61 = some (.ifCond .ne 68, 64) := by decide +kernel
theorem c_228_64 : ax_code 228 64 = some (.ldc2_w 4, 67) := by decide +kernel
theorem c_228_67 : ax_code 228 67 = some (.lreturn, 68) := by decide +kernel
theorem c_228_68 : ax_code 228 68 = some (.aload 0, 69) := by decide +kernel
theorem c_228_69 : ax_code 228 69 = some (.getfield 712, 72) := by decide +kernel
theorem c_228_72 : ax_code 228 72 = some (.iconst 0, 73) := by decide +kernel
theorem c_228_73 : ax_code 228 73 = some (.iaload, 74) := by decide +kernel
theorem c_228_74 : ax_code 228 74 = some (.iconst 12, 76) := by decide +kernel
theorem c_228_76 : ax_code 228 76 = some (.if_icmp .ne 83, 79) := by decide +kernel
theorem c_228_79 : ax_code 228 79 = some (.ldc2_w 2, 82) := by decide +kernel
theorem c_228_82 : ax_code 228 82 = some (.lreturn, 83) := by decide +kernel
theorem c_228_83 : ax_code 228 83 = some (.aload 0, 84) := by decide +kernel
theorem c_228_84 : ax_code 228 84 = some (.getfield 706, 87) := by decide +kernel
theorem c_228_87 : ax_code 228 87 = some (.iload 3, 88) := by decide +kernel
theorem c_228_88 : ax_code 228 88 = some (.iaload, 89) := by decide +kernel
theorem c_228_89 : ax_code 228 89 = some (.ifCond .ge 98, 92) := by decide +kernel
theorem c_228_92 : ax_code 228 92 = some (.aload 0, 93) := by decide +kernel
theorem c_228_93 : ax_code 228 93 = some (.iconst 1, 94) := by decide +kernel
theorem c_228_94 : ax_code 228 94 = some (.invokevirtual 199, 97) := by decide +kernel
theorem c_228_97 : ax_code 228 97 = some (.lreturn, 98) := by decide +kernel
theorem c_228_98 : ax_code 228 98 = some (.iload 4, 100) := by decide +kernel
theorem c_228_100 : ax_code 228 100 = some (.ifCond .lt 121, 103) := by decide +kernel
theorem c_228_103 : ax_code 228 103 = some (.iload 4, 105) := by decide +kernel
theorem c_228_105 : ax_code 228 105 = some (.i2l, 106) := by decide +kernel
theorem c_228_106 : ax_code 228 106 = some (.ldc2_w 21, 109) := by decide +kernel
theorem c_228_109 : ax_code 228 109 = some (.ladd, 110) := by decide +kernel
theorem c_228_110 : ax_code 228 110 = some (.aload 0, 111) := by decide +kernel
theorem c_228_111 : ax_code 228 111 = some (.getfield 707, 114) := by decide +kernel
theorem c_228_114 : ax_code 228 114 = some (.iload 3, 115) := by decide +kernel
theorem c_228_115 : ax_code 228 115 = some (.iaload, 116) := by decide +kernel
theorem c_228_116 : ax_code 228 116 = some (.i2l, 117) := by decide +kernel
theorem c_228_117 : ax_code 228 117 = some (.lcmp, 118) := by decide +kernel
theorem c_228_118 : ax_code 228 118 = some (.ifCond .le 127, 121) := by decide +kernel
theorem c_228_121 : ax_code 228 121 = some (.aload 0, 122) := by decide +kernel
theorem c_228_122 : ax_code 228 122 = some (.iconst 2, 123) := by decide +kernel
theorem c_228_123 : ax_code 228 123 = some (.invokevirtual 199, 126) := by decide +kernel
theorem c_228_126 : ax_code 228 126 = some (.lreturn, 127) := by decide +kernel
theorem c_228_127 : ax_code 228 127 = some (.aload 0, 128) := by decide +kernel
theorem c_228_128 : ax_code 228 128 = some (.iload 1, 129) := by decide +kernel
theorem c_228_129 : ax_code 228 129 = some (.iload 2, 130) := by decide +kernel
theorem c_228_130 : ax_code 228 130 = some (.iload 5, 132) := by decide +kernel
theorem c_228_132 : ax_code 228 132 = some (.iconst (-1000000), 134) := by decide +kernel
theorem c_228_134 : ax_code 228 134 = some (.if_icmp .ne 141, 137) := by decide +kernel
theorem c_228_137 : ax_code 228 137 = some (.iconst (-1), 138) := by decide +kernel
theorem c_228_138 : ax_code 228 138 = some (.goto 143, 141) := by decide +kernel
theorem c_228_141 : ax_code 228 141 = some (.iload 5, 143) := by decide +kernel
theorem c_228_143 : ax_code 228 143 = some (.invokevirtual 220, 146) := by decide +kernel
theorem c_228_146 : ax_code 228 146 = some (.iconst 0, 147) := by decide +kernel
theorem c_228_147 : ax_code 228 147 = some (.istore 6, 149) := by decide +kernel
theorem c_228_149 : ax_code 228 149 = some (.iload 6, 151) := by decide +kernel
theorem c_228_151 : ax_code 228 151 = some (.iconst 11, 153) := by decide +kernel
theorem c_228_153 : ax_code 228 153 = some (.if_icmp .ge 232, 156) := by decide +kernel
theorem c_228_156 : ax_code 228 156 = some (.aload 0, 157) := by decide +kernel
theorem c_228_157 : ax_code 228 157 = some (.getfield 708, 160) := by decide +kernel
theorem c_228_160 : ax_code 228 160 = some (.iconst 40, 162) := by decide +kernel
theorem c_228_162 : ax_code 228 162 = some (.iload 3, 163) := by decide +kernel
theorem c_228_163 : ax_code 228 163 = some (.imul, 164) := by decide +kernel
theorem c_228_164 : ax_code 228 164 = some (.iload 4, 166) := by decide +kernel
theorem c_228_166 : ax_code 228 166 = some (.iadd, 167) := by decide +kernel
theorem c_228_167 : ax_code 228 167 = some (.iload 6, 169) := by decide +kernel
theorem c_228_169 : ax_code 228 169 = some (.iadd, 170) := by decide +kernel
theorem c_228_170 : ax_code 228 170 = some (.iaload, 171) := by decide +kernel
theorem c_228_171 : ax_code 228 171 = some (.istore 7, 173) := by decide +kernel
theorem c_228_173 : ax_code 228 173 = some (.iload 7, 175) := by decide +kernel
theorem c_228_175 : ax_code 228 175 = some (.i2l, 176) := by decide +kernel
theorem c_228_176 : ax_code 228 176 = some (.ldc2_w 6, 179) := by decide +kernel
theorem c_228_179 : ax_code 228 179 = some (.iload 6, 181) := by decide +kernel
theorem c_228_181 : ax_code 228 181 = some (.iconst 8, 183) := by decide +kernel
theorem c_228_183 : ax_code 228 183 = some (.if_icmp .ge 192, 186) := by decide +kernel
theorem c_228_186 : ax_code 228 186 = some (.ldc2_w 22, 189) := by decide +kernel
theorem c_228_189 : ax_code 228 189 = some (.goto 208, 192) := by decide +kernel
theorem c_228_192 : ax_code 228 192 = some (.iload 6, 194) := by decide +kernel
theorem c_228_194 : ax_code 228 194 = some (.iconst 8, 196) := by decide +kernel
theorem c_228_196 : ax_code 228 196 = some (.if_icmp .ne 205, 199) := by decide +kernel
theorem c_228_199 : ax_code 228 199 = some (.ldc2_w 23, 202) := by decide +kernel
theorem c_228_202 : ax_code 228 202 = some (.goto 208, 205) := by decide +kernel
theorem c_228_205 : ax_code 228 205 = some (.ldc2_w 24, 208) := by decide +kernel
theorem c_228_208 : ax_code 228 208 = some (.invokestatic 198, 211) := by decide +kernel
theorem c_228_211 : ax_code 228 211 = some (.ifCond .ne 218, 214) := by decide +kernel
theorem c_228_214 : ax_code 228 214 = some (.ldc2_w 0, 217) := by decide +kernel
theorem c_228_217 : ax_code 228 217 = some (.lreturn, 218) := by decide +kernel
theorem c_228_218 : ax_code 228 218 = some (.aload 0, 219) := by decide +kernel
theorem c_228_219 : ax_code 228 219 = some (.iload 6, 221) := by decide +kernel
theorem c_228_221 : ax_code 228 221 = some (.iload 7, 223) := by decide +kernel
theorem c_228_223 : ax_code 228 223 = some (.invokevirtual 225, 226) := by decide +kernel
theorem c_228_226 : ax_code 228 226 = some (.iinc 6 (1), 229) := by decide +kernel
theorem c_228_229 : ax_code 228 229 = some (.goto 149, 232) := by decide +kernel
theorem c_228_232 : ax_code 228 232 = some (.aload 0, 233) := by decide +kernel
theorem c_228_233 : ax_code 228 233 = some (.iconst 0, 234) := by decide +kernel
theorem c_228_234 : ax_code 228 234 = some (.putfield 705, 237) := by decide +kernel
theorem c_228_237 : ax_code 228 237 = some (.aload 0, 238) := by decide +kernel
theorem c_228_238 : ax_code 228 238 = some (.invokevirtual 226, 241) := by decide +kernel
theorem c_228_241 : ax_code 228 241 = some (.i2l, 242) := by decide +kernel
theorem c_228_242 : ax_code 228 242 = some (.lreturn, 243) := by decide +kernel
theorem c_229_0 : ax_code 229 0 = some (.iload 0, 1) := by decide +kernel
theorem c_229_1 : ax_code 229 1 = some (.i2l, 2) := by decide +kernel
theorem c_229_2 : ax_code 229 2 = some (.lconst 0, 3) := by decide +kernel
theorem c_229_3 : ax_code 229 3 = some (.ldc2_w 18, 6) := by decide +kernel
theorem c_229_6 : ax_code 229 6 = some (.invokestatic 198, 9) := by decide +kernel
theorem c_229_9 : ax_code 229 9 = some (.ireturn, 10) := by decide +kernel
theorem c_230_0 : ax_code 230 0 = some (.iload 0, 1) := by decide +kernel
theorem c_230_1 : ax_code 230 1 = some (.i2l, 2) := by decide +kernel
theorem c_230_2 : ax_code 230 2 = some (.ldc2_w 19, 5) := by decide +kernel
theorem c_230_5 : ax_code 230 5 = some (.ldc2_w 20, 8) := by decide +kernel
theorem c_230_8 : ax_code 230 8 = some (.invokestatic 198, 11) := by decide +kernel
theorem c_230_11 : ax_code 230 11 = some (.ireturn, 12) := by decide +kernel
theorem c_231_0 : ax_code 231 0 = some (.iload 1, 1) := by decide +kernel
theorem c_231_1 : ax_code 231 1 = some (.i2l, 2) := by decide +kernel
theorem c_231_2 : ax_code 231 2 = some (.lconst 0, 3) := by decide +kernel
theorem c_231_3 : ax_code 231 3 = some (.aload 0, 4) := by decide +kernel
theorem c_231_4 : ax_code 231 4 = some (.getfield 712, 7) := by decide +kernel
theorem c_231_7 : ax_code 231 7 = some (.iconst 0, 8) := by decide +kernel
theorem c_231_8 : ax_code 231 8 = some (.iaload, 9) := by decide +kernel
theorem c_231_9 : ax_code 231 9 = some (.iconst 1, 10) := by decide +kernel
theorem c_231_10 : ax_code 231 10 = some (.isub, 11) := by decide +kernel
theorem c_231_11 : ax_code 231 11 = some (.i2l, 12) := by decide +kernel
theorem c_231_12 : ax_code 231 12 = some (.invokestatic 198, 15) := by decide +kernel
theorem c_231_15 : ax_code 231 15 = some (.ireturn, 16) := by decide +kernel
theorem c_232_0 : ax_code 232 0 = some (.aload 0, 1) := by decide +kernel
theorem c_232_1 : ax_code 232 1 = some (.getfield 712, 4) := by decide +kernel
theorem c_232_4 : ax_code 232 4 = some (.iconst 15, 6) := by decide +kernel
theorem c_232_6 : ax_code 232 6 = some (.iload 1, 7) := by decide +kernel
theorem c_232_7 : ax_code 232 7 = some (.imul, 8) := by decide +kernel
theorem c_232_8 : ax_code 232 8 = some (.iload 2, 9) := by decide +kernel
theorem c_232_9 : ax_code 232 9 = some (.iadd, 10) := by decide +kernel
theorem c_232_10 : ax_code 232 10 = some (.iaload, 11) := by decide +kernel
theorem c_232_11 : ax_code 232 11 = some (.ireturn, 12) := by decide +kernel
theorem c_233_0 : ax_code 233 0 = some (.aload 0, 1) := by decide +kernel
theorem c_233_1 : ax_code 233 1 = some (.iconst 0, 2) := by decide +kernel
theorem c_233_2 : ax_code 233 2 = some (.putfield 704, 5) := by decide +kernel
theorem c_233_5 : ax_code 233 5 = some (.aload 0, 6) := by decide +kernel
theorem c_233_6 : ax_code 233 6 = some (.iload 1, 7) := by decide +kernel
theorem c_233_7 : ax_code 233 7 = some (.invokevirtual 231, 10) := by decide +kernel
theorem c_233_10 : ax_code 233 10 = some (.ifCond .eq 89, 13) := by decide +kernel
theorem c_233_13 : ax_code 233 13 = some (.iload 2, 14) := by decide +kernel
theorem c_233_14 : ax_code 233 14 = some (.invokestatic 229, 17) := by decide +kernel
theorem c_233_17 : ax_code 233 17 = some (.ifCond .eq 89, 20) := by decide +kernel
theorem c_233_20 : ax_code 233 20 = some (.iload 3, 21) := by decide +kernel
theorem c_233_21 : ax_code 233 21 = some (.invokestatic 230, 24) := by decide +kernel
theorem c_233_24 : ax_code 233 24 = some (.ifCond .eq 89, 27) := by decide +kernel
theorem c_233_27 : ax_code 233 27 = some (.iload 3, 28) := by decide +kernel
theorem c_233_28 : ax_code 233 28 = some (.aload 0, 29) := by decide +kernel
theorem c_233_29 : ax_code 233 29 = some (.iload 1, 30) := by decide +kernel
theorem c_233_30 : ax_code 233 30 = some (.iconst 2, 31) := by decide +kernel
theorem c_233_31 : ax_code 233 31 = some (.invokevirtual 232, 34) := by decide +kernel
theorem c_233_34 : ax_code 233 34 = some (.if_icmp .lt 89, 37) := by decide +kernel
theorem c_233_37 : ax_code 233 37 = some (.iload 4, 39) := by decide +kernel
theorem c_233_39 : ax_code 233 39 = some (.i2l, 40) := by decide +kernel
theorem c_233_40 : ax_code 233 40 = some (.lconst 0, 41) := by decide +kernel
theorem c_233_41 : ax_code 233 41 = some (.ldc2_w 25, 44) := by decide +kernel
theorem c_233_44 : ax_code 233 44 = some (.invokestatic 198, 47) := by decide +kernel
theorem c_233_47 : ax_code 233 47 = some (.ifCond .eq 89, 50) := by decide +kernel
theorem c_233_50 : ax_code 233 50 = some (.iload 5, 52) := by decide +kernel
theorem c_233_52 : ax_code 233 52 = some (.i2l, 53) := by decide +kernel
theorem c_233_53 : ax_code 233 53 = some (.lconst 0, 54) := by decide +kernel
theorem c_233_54 : ax_code 233 54 = some (.ldc2_w 7, 57) := by decide +kernel
theorem c_233_57 : ax_code 233 57 = some (.invokestatic 198, 60) := by decide +kernel
theorem c_233_60 : ax_code 233 60 = some (.ifCond .eq 89, 63) := by decide +kernel
theorem c_233_63 : ax_code 233 63 = some (.iload 6, 65) := by decide +kernel
theorem c_233_65 : ax_code 233 65 = some (.i2l, 66) := by decide +kernel
theorem c_233_66 : ax_code 233 66 = some (.lconst 0, 67) := by decide +kernel
theorem c_233_67 : ax_code 233 67 = some (.ldc2_w 7, 70) := by decide +kernel
theorem c_233_70 : ax_code 233 70 = some (.invokestatic 198, 73) := by decide +kernel
theorem c_233_73 : ax_code 233 73 = some (.ifCond .eq 89, 76) := by decide +kernel
theorem c_233_76 : ax_code 233 76 = some (.iload 4, 78) := by decide +kernel
theorem c_233_78 : ax_code 233 78 = some (.iconst 4, 79) := by decide +kernel
theorem c_233_79 : ax_code 233 79 = some (.if_icmp .ne 93, 82) := by decide +kernel
theorem c_233_82 : ax_code 233 82 = some (.iload 5, 84) := by decide +kernel
theorem c_233_84 : ax_code 233 84 = some (.iload 6, 86) := by decide +kernel
theorem c_233_86 : ax_code 233 86 = some (.if_icmp .ne 93, 89) := by decide +kernel
theorem c_233_89 : ax_code 233 89 = some (.ldc2_w 0, 92) := by decide +kernel
theorem c_233_92 : ax_code 233 92 = some (.lreturn, 93) := by decide +kernel
theorem c_233_93 : ax_code 233 93 = some (.aload 0, 94) := by decide +kernel
theorem c_233_94 : ax_code 233 94 = some (.iload 2, 95) := by decide +kernel
theorem c_233_95 : ax_code 233 95 = some (.iload 3, 96) := by decide +kernel
theorem c_233_96 : ax_code 233 96 = some (.iload 1, 97) := by decide +kernel
theorem c_233_97 : ax_code 233 97 = some (.invokevirtual 220, 100) := by decide +kernel
theorem c_233_100 : ax_code 233 100 = some (.iconst 0, 101) := by decide +kernel
theorem c_233_101 : ax_code 233 101 = some (.istore 7, 103) := by decide +kernel
theorem c_233_103 : ax_code 233 103 = some (.iload 7, 105) := by decide +kernel
theorem c_233_105 : ax_code 233 105 = some (.iconst 11, 107) := by decide +kernel
theorem c_233_107 : ax_code 233 107 = some (.if_icmp .ge 143, 110) := by decide +kernel
theorem c_233_110 : ax_code 233 110 = some (.aload 0, 111) := by decide +kernel
theorem c_233_111 : ax_code 233 111 = some (.iload 7, 113) := by decide +kernel
theorem c_233_113 : ax_code 233 113 = some (.aload 0, 114) := by decide +kernel
theorem c_233_114 : ax_code 233 114 = some (.iload 1, 115) := by decide +kernel
theorem c_233_115 : ax_code 233 115 = some (.iload 7, 117) := by decide +kernel
theorem c_233_117 : ax_code 233 117 = some (.invokevirtual 234, 120) := by decide +kernel
theorem c_233_120 : ax_code 233 120 = some (.ifCond .eq 133, 123) := by decide +kernel
theorem c_233_123 : ax_code 233 123 = some (.aload 0, 124) := by decide +kernel
theorem c_233_124 : ax_code 233 124 = some (.iload 1, 125) := by decide +kernel
theorem c_233_125 : ax_code 233 125 = some (.iload 7, 127) := by decide +kernel
theorem c_233_127 : ax_code 233 127 = some (.invokevirtual 235, 130) := by decide +kernel
theorem c_233_130 : ax_code 233 130 = some (.goto 134, 133) := by decide +kernel
theorem c_233_133 : ax_code 233 133 = some (.iconst (-1), 134) := by decide +kernel
theorem c_233_134 : ax_code 233 134 = some (.invokevirtual 225, 137) := by decide +kernel
theorem c_233_137 : ax_code 233 137 = some (.iinc 7 (1), 140) := by decide +kernel
theorem c_233_140 : ax_code 233 140 = some (.goto 103, 143) := by decide +kernel
theorem c_233_143 : ax_code 233 143 = some (.iconst 4, 144) := by decide +kernel
theorem c_233_144 : ax_code 233 144 = some (.iload 5, 146) := by decide +kernel
theorem c_233_146 : ax_code 233 146 = some (.iadd, 147) := by decide +kernel
theorem c_233_147 : ax_code 233 147 = some (.istore 7, 149) := by decide +kernel
theorem c_233_149 : ax_code 233 149 = some (.iload 4, 151) := by decide +kernel
theorem c_233_151 : ax_code 233 151 = some (.tableswitch 421 (1) (6) #[188, 214, 228, 242, 347, 387], 188) := by decide +kernel
theorem c_233_188 : ax_code 233 188 = some (.aload 0, 189) := by decide +kernel
theorem c_233_189 : ax_code 233 189 = some (.getfield 723, 192) := by decide +kernel
theorem c_233_192 : ax_code 233 192 = some (.iload 7, 194) := by decide +kernel
theorem c_233_194 : ax_code 233 194 = some (.iconst 0, 195) := by decide +kernel
theorem c_233_195 : ax_code 233 195 = some (.iastore, 196) := by decide +kernel
theorem c_233_196 : ax_code 233 196 = some (.aload 0, 197) := by decide +kernel
theorem c_233_197 : ax_code 233 197 = some (.getfield 723, 200) := by decide +kernel
theorem c_233_200 : ax_code 233 200 = some (.iconst 3, 201) := by decide +kernel
theorem c_233_201 : ax_code 233 201 = some (.dup2, 202) := by decide +kernel
theorem c_233_202 : ax_code 233 202 = some (.iaload, 203) := by decide +kernel
theorem c_233_203 : ax_code 233 203 = some (.iconst 1, 204) := by decide +kernel
theorem c_233_204 : ax_code 233 204 = some (.iload 5, 206) := by decide +kernel
theorem c_233_206 : ax_code 233 206 = some (.ishl, 207) := by decide +kernel
theorem c_233_207 : ax_code 233 207 = some (.iconst (-1), 208) := by decide +kernel
theorem c_233_208 : ax_code 233 208 = some (.ixor, 209) := by decide +kernel
theorem c_233_209 : ax_code 233 209 = some (.iand, 210) := by decide +kernel
theorem c_233_210 : ax_code 233 210 = some (.iastore, 211) := by decide +kernel
theorem c_233_211 : ax_code 233 211 = some (.goto 421, 214) := by decide +kernel
theorem c_233_214 : ax_code 233 214 = some (.aload 0, 215) := by decide +kernel
theorem c_233_215 : ax_code 233 215 = some (.getfield 723, 218) := by decide +kernel
theorem c_233_218 : ax_code 233 218 = some (.iload 7, 220) := by decide +kernel
theorem c_233_220 : ax_code 233 220 = some (.dup2, 221) := by decide +kernel
theorem c_233_221 : ax_code 233 221 = some (.iaload, 222) := by decide +kernel
theorem c_233_222 : ax_code 233 222 = some (.iconst 2, 223) := by decide +kernel
theorem c_233_223 : ax_code 233 223 = some (.imul, 224) := by decide +kernel
theorem c_233_224 : ax_code 233 224 = some (.iastore, 225) := by decide +kernel
theorem c_233_225 : ax_code 233 225 = some (.goto 421, 228) := by decide +kernel
theorem c_233_228 : ax_code 233 228 = some (.aload 0, 229) := by decide +kernel
theorem c_233_229 : ax_code 233 229 = some (.getfield 723, 232) := by decide +kernel
theorem c_233_232 : ax_code 233 232 = some (.iload 7, 234) := by decide +kernel
theorem c_233_234 : ax_code 233 234 = some (.dup2, 235) := by decide +kernel
theorem c_233_235 : ax_code 233 235 = some (.iaload, 236) := by decide +kernel
theorem c_233_236 : ax_code 233 236 = some (.iconst 2, 237) := by decide +kernel
theorem c_233_237 : ax_code 233 237 = some (.idiv, 238) := by decide +kernel
theorem c_233_238 : ax_code 233 238 = some (.iastore, 239) := by decide +kernel
theorem c_233_239 : ax_code 233 239 = some (.goto 421, 242) := by decide +kernel
theorem c_233_242 : ax_code 233 242 = some (.aload 0, 243) := by decide +kernel
theorem c_233_243 : ax_code 233 243 = some (.getfield 723, 246) := by decide +kernel
theorem c_233_246 : ax_code 233 246 = some (.iconst 4, 247) := by decide +kernel
theorem c_233_247 : ax_code 233 247 = some (.iload 6, 249) := by decide +kernel
theorem c_233_249 : ax_code 233 249 = some (.iadd, 250) := by decide +kernel
theorem c_233_250 : ax_code 233 250 = some (.dup2, 251) := by decide +kernel
theorem c_233_251 : ax_code 233 251 = some (.iaload, 252) := by decide +kernel
theorem c_233_252 : ax_code 233 252 = some (.aload 0, 253) := by decide +kernel
theorem c_233_253 : ax_code 233 253 = some (.getfield 723, 256) := by decide +kernel
theorem c_233_256 : ax_code 233 256 = some (.iload 7, 258) := by decide +kernel
theorem c_233_258 : ax_code 233 258 = some (.iaload, 259) := by decide +kernel
theorem c_233_259 : ax_code 233 259 = some (.iadd, 260) := by decide +kernel
theorem c_233_260 : ax_code 233 260 = some (.iastore, 261) := by decide +kernel
theorem c_233_261 : ax_code 233 261 = some (.aload 0, 262) := by decide +kernel
theorem c_233_262 : ax_code 233 262 = some (.getfield 723, 265) := by decide +kernel
theorem c_233_265 : ax_code 233 265 = some (.iload 7, 267) := by decide +kernel
theorem c_233_267 : ax_code 233 267 = some (.iconst 0, 268) := by decide +kernel
theorem c_233_268 : ax_code 233 268 = some (.iastore, 269) := by decide +kernel
theorem c_233_269 : ax_code 233 269 = some (.aload 0, 270) := by decide +kernel
theorem c_233_270 : ax_code 233 270 = some (.getfield 723, 273) := by decide +kernel
theorem c_233_273 : ax_code 233 273 = some (.iconst 3, 274) := by decide +kernel
theorem c_233_274 : ax_code 233 274 = some (.dup2, 275) := by decide +kernel
theorem c_233_275 : ax_code 233 275 = some (.iaload, 276) := by decide +kernel
theorem c_233_276 : ax_code 233 276 = some (.aload 0, 277) := by decide +kernel
theorem c_233_277 : ax_code 233 277 = some (.getfield 723, 280) := by decide +kernel
theorem c_233_280 : ax_code 233 280 = some (.iconst 3, 281) := by decide +kernel
theorem c_233_281 : ax_code 233 281 = some (.iaload, 282) := by decide +kernel
theorem c_233_282 : ax_code 233 282 = some (.iload 5, 284) := by decide +kernel
theorem c_233_284 : ax_code 233 284 = some (.ishr, 285) := by decide +kernel
theorem c_233_285 : ax_code 233 285 = some (.iconst 1, 286) := by decide +kernel
theorem c_233_286 : ax_code 233 286 = some (.iand, 287) := by decide +kernel
theorem c_233_287 : ax_code 233 287 = some (.iload 6, 289) := by decide +kernel
theorem c_233_289 : ax_code 233 289 = some (.ishl, 290) := by decide +kernel
theorem c_233_290 : ax_code 233 290 = some (.ior, 291) := by decide +kernel
theorem c_233_291 : ax_code 233 291 = some (.iastore, 292) := by decide +kernel
theorem c_233_292 : ax_code 233 292 = some (.aload 0, 293) := by decide +kernel
theorem c_233_293 : ax_code 233 293 = some (.getfield 723, 296) := by decide +kernel
theorem c_233_296 : ax_code 233 296 = some (.iconst 3, 297) := by decide +kernel
theorem c_233_297 : ax_code 233 297 = some (.dup2, 298) := by decide +kernel
theorem c_233_298 : ax_code 233 298 = some (.iaload, 299) := by decide +kernel
theorem c_233_299 : ax_code 233 299 = some (.iconst 1, 300) := by decide +kernel
theorem c_233_300 : ax_code 233 300 = some (.iload 5, 302) := by decide +kernel
theorem c_233_302 : ax_code 233 302 = some (.ishl, 303) := by decide +kernel
theorem c_233_303 : ax_code 233 303 = some (.iconst (-1), 304) := by decide +kernel
theorem c_233_304 : ax_code 233 304 = some (.ixor, 305) := by decide +kernel
theorem c_233_305 : ax_code 233 305 = some (.iand, 306) := by decide +kernel
theorem c_233_306 : ax_code 233 306 = some (.iastore, 307) := by decide +kernel
theorem c_233_307 : ax_code 233 307 = some (.aload 0, 308) := by decide +kernel
theorem c_233_308 : ax_code 233 308 = some (.getfield 723, 311) := by decide +kernel
theorem c_233_311 : ax_code 233 311 = some (.iconst 4, 312) := by decide +kernel
theorem c_233_312 : ax_code 233 312 = some (.iload 6, 314) := by decide +kernel
theorem c_233_314 : ax_code 233 314 = some (.iadd, 315) := by decide +kernel
theorem c_233_315 : ax_code 233 315 = some (.aload 0, 316) := by decide +kernel
theorem c_233_316 : ax_code 233 316 = some (.getfield 723, 319) := by decide +kernel
theorem c_233_319 : ax_code 233 319 = some (.iconst 3, 320) := by decide +kernel
theorem c_233_320 : ax_code 233 320 = some (.iaload, 321) := by decide +kernel
theorem c_233_321 : ax_code 233 321 = some (.iload 6, 323) := by decide +kernel
theorem c_233_323 : ax_code 233 323 = some (.ishr, 324) := by decide +kernel
theorem c_233_324 : ax_code 233 324 = some (.iconst 1, 325) := by decide +kernel
theorem c_233_325 : ax_code 233 325 = some (.iand, 326) := by decide +kernel
theorem c_233_326 : ax_code 233 326 = some (.iconst 1, 327) := by decide +kernel
theorem c_233_327 : ax_code 233 327 = some (.if_icmp .ne 334, 330) := by decide +kernel
theorem c_233_330 : ax_code 233 330 = some (.iconst 0, 331) := by decide +kernel
theorem c_233_331 : ax_code 233 331 = some (.goto 343, 334) := by decide +kernel
theorem c_233_334 : ax_code 233 334 = some (.aload 0, 335) := by decide +kernel
theorem c_233_335 : ax_code 233 335 = some (.getfield 723, 338) := by decide +kernel
theorem c_233_338 : ax_code 233 338 = some (.iconst 4, 339) := by decide +kernel
theorem c_233_339 : ax_code 233 339 = some (.iload 6, 341) := by decide +kernel
theorem c_233_341 : ax_code 233 341 = some (.iadd, 342) := by decide +kernel
theorem c_233_342 : ax_code 233 342 = some (.iaload, 343) := by decide +kernel
theorem c_233_343 : ax_code 233 343 = some (.iastore, 344) := by decide +kernel
theorem c_233_344 : ax_code 233 344 = some (.goto 421, 347) := by decide +kernel
theorem c_233_347 : ax_code 233 347 = some (.aload 0, 348) := by decide +kernel
theorem c_233_348 : ax_code 233 348 = some (.getfield 723, 351) := by decide +kernel
theorem c_233_351 : ax_code 233 351 = some (.iconst 12, 353) := by decide +kernel
theorem c_233_353 : ax_code 233 353 = some (.dup2, 354) := by decide +kernel
theorem c_233_354 : ax_code 233 354 = some (.iaload, 355) := by decide +kernel
theorem c_233_355 : ax_code 233 355 = some (.aload 0, 356) := by decide +kernel
theorem c_233_356 : ax_code 233 356 = some (.getfield 723, 359) := by decide +kernel
theorem c_233_359 : ax_code 233 359 = some (.iconst 12, 361) := by decide +kernel
theorem c_233_361 : ax_code 233 361 = some (.iaload, 362) := by decide +kernel
theorem c_233_362 : ax_code 233 362 = some (.iconst 9, 364) := by decide +kernel
theorem c_233_364 : ax_code 233 364 = some (.if_icmp .ge 381, 367) := by decide +kernel
theorem c_233_367 : ax_code 233 367 = some (.aload 0, 368) := by decide +kernel
theorem c_233_368 : ax_code 233 368 = some (.iload 1, 369) := by decide +kernel
theorem c_233_369 : ax_code 233 369 = some (.iconst 8, 371) := by decide +kernel
theorem c_233_371 : ax_code 233 371 = some (.invokevirtual 234, 374) := by decide +kernel
theorem c_233_374 : ax_code 233 374 = some (.ifCond .eq 381, 377) := by decide +kernel
theorem c_233_377 : ax_code 233 377 = some (.iconst 1, 378) := by decide +kernel
theorem c_233_378 : ax_code 233 378 = some (.goto 382, 381) := by decide +kernel
theorem c_233_381 : ax_code 233 381 = some (.iconst 0, 382) := by decide +kernel
theorem c_233_382 : ax_code 233 382 = some (.iadd, 383) := by decide +kernel
theorem c_233_383 : ax_code 233 383 = some (.iastore, 384) := by decide +kernel
theorem c_233_384 : ax_code 233 384 = some (.goto 421, 387) := by decide +kernel
theorem c_233_387 : ax_code 233 387 = some (.aload 0, 388) := by decide +kernel
theorem c_233_388 : ax_code 233 388 = some (.getfield 723, 391) := by decide +kernel
theorem c_233_391 : ax_code 233 391 = some (.iconst 13, 393) := by decide +kernel
theorem c_233_393 : ax_code 233 393 = some (.aload 0, 394) := by decide +kernel
theorem c_233_394 : ax_code 233 394 = some (.getfield 723, 397) := by decide +kernel
theorem c_233_397 : ax_code 233 397 = some (.iconst 13, 399) := by decide +kernel
theorem c_233_399 : ax_code 233 399 = some (.iaload, 400) := by decide +kernel
theorem c_233_400 : ax_code 233 400 = some (.iconst 5, 401) := by decide +kernel
theorem c_233_401 : ax_code 233 401 = some (.if_icmp .ge 408, 404) := by decide +kernel
theorem c_233_404 : ax_code 233 404 = some (.iconst 0, 405) := by decide +kernel
theorem c_233_405 : ax_code 233 405 = some (.goto 417, 408) := by decide +kernel
theorem c_233_408 : ax_code 233 408 = some (.aload 0, 409) := by decide +kernel
theorem c_233_409 : ax_code 233 409 = some (.getfield 723, 412) := by decide +kernel
theorem c_233_412 : ax_code 233 412 = some (.iconst 13, 414) := by decide +kernel
theorem c_233_414 : ax_code 233 414 = some (.iaload, 415) := by decide +kernel
theorem c_233_415 : ax_code 233 415 = some (.iconst 5, 416) := by decide +kernel
theorem c_233_416 : ax_code 233 416 = some (.isub, 417) := by decide +kernel
theorem c_233_417 : ax_code 233 417 = some (.iastore, 418) := by decide +kernel
theorem c_233_418 : ax_code 233 418 = some (.goto 421, 421) := by decide +kernel
theorem c_233_421 : ax_code 233 421 = some (.aload 0, 422) := by decide +kernel
theorem c_233_422 : ax_code 233 422 = some (.getfield 723, 425) := by decide +kernel
theorem c_233_425 : ax_code 233 425 = some (.iload 7, 427) := by decide +kernel
theorem c_233_427 : ax_code 233 427 = some (.iaload, 428) := by decide +kernel
theorem c_233_428 : ax_code 233 428 = some (.iconst 9999, 431) := by decide +kernel
theorem c_233_431 : ax_code 233 431 = some (.if_icmp .gt 449, 434) := by decide +kernel
theorem c_233_434 : ax_code 233 434 = some (.aload 0, 435) := by decide +kernel
theorem c_233_435 : ax_code 233 435 = some (.getfield 723, 438) := by decide +kernel
theorem c_233_438 : ax_code 233 438 = some (.iconst 4, 439) := by decide +kernel
theorem c_233_439 : ax_code 233 439 = some (.iload 6, 441) := by decide +kernel
theorem c_233_441 : ax_code 233 441 = some (.iadd, 442) := by decide +kernel
theorem c_233_442 : ax_code 233 442 = some (.iaload, 443) := by decide +kernel
theorem c_233_443 : ax_code 233 443 = some (.iconst 9999, 446) := by decide +kernel
theorem c_233_446 : ax_code 233 446 = some (.if_icmp .le 453, 449) := by decide +kernel
theorem c_233_449 : ax_code 233 449 = some (.ldc2_w 4, 452) := by decide +kernel
theorem c_233_452 : ax_code 233 452 = some (.lreturn, 453) := by decide +kernel
theorem c_233_453 : ax_code 233 453 = some (.aload 0, 454) := by decide +kernel
theorem c_233_454 : ax_code 233 454 = some (.getfield 712, 457) := by decide +kernel
theorem c_233_457 : ax_code 233 457 = some (.iconst 0, 458) := by decide +kernel
theorem c_233_458 : ax_code 233 458 = some (.iaload, 459) := by decide +kernel
theorem c_233_459 : ax_code 233 459 = some (.iconst 12, 461) := by decide +kernel
theorem c_233_461 : ax_code 233 461 = some (.if_icmp .ne 470, 464) := by decide +kernel
theorem c_233_464 : ax_code 233 464 = some (.ldc2_w 2, 467) := by decide +kernel
theorem c_233_467 : ax_code 233 467 = some (.goto 475, 470) := by decide +kernel
theorem c_233_470 : ax_code 233 470 = some (.aload 0, 471) := by decide +kernel
theorem c_233_471 : ax_code 233 471 = some (.invokevirtual 226, 474) := by decide +kernel
theorem c_233_474 : ax_code 233 474 = some (.i2l, 475) := by decide +kernel
theorem c_233_475 : ax_code 233 475 = some (.lreturn, 476) := by decide +kernel
theorem c_234_0 : ax_code 234 0 = some (.aload 0, 1) := by decide +kernel
theorem c_234_1 : ax_code 234 1 = some (.iload 1, 2) := by decide +kernel
theorem c_234_2 : ax_code 234 2 = some (.iconst 4, 3) := by decide +kernel
theorem c_234_3 : ax_code 234 3 = some (.invokevirtual 232, 6) := by decide +kernel
theorem c_234_6 : ax_code 234 6 = some (.iload 2, 7) := by decide +kernel
theorem c_234_7 : ax_code 234 7 = some (.ishr, 8) := by decide +kernel
theorem c_234_8 : ax_code 234 8 = some (.iconst 1, 9) := by decide +kernel
theorem c_234_9 : ax_code 234 9 = some (.iand, 10) := by decide +kernel
theorem c_234_10 : ax_code 234 10 = some (.ifCond .ne 17, 13) := by decide +kernel
theorem c_234_13 : ax_code 234 13 = some (.iconst 1, 14) := by decide +kernel
theorem c_234_14 : ax_code 234 14 = some (.goto 18, 17) := by decide +kernel
theorem c_234_17 : ax_code 234 17 = some (.iconst 0, 18) := by decide +kernel
theorem c_234_18 : ax_code 234 18 = some (.ireturn, 19) := by decide +kernel
theorem c_235_0 : ax_code 235 0 = some (.aload 0, 1) := by decide +kernel
theorem c_235_1 : ax_code 235 1 = some (.getfield 712, 4) := by decide +kernel
theorem c_235_4 : ax_code 235 4 = some (.iconst 15, 6) := by decide +kernel
theorem c_235_6 : ax_code 235 6 = some (.iload 1, 7) := by decide +kernel
theorem c_235_7 : ax_code 235 7 = some (.imul, 8) := by decide +kernel
theorem c_235_8 : ax_code 235 8 = some (.iconst 5, 9) := by decide +kernel
theorem c_235_9 : ax_code 235 9 = some (.iadd, 10) := by decide +kernel
theorem c_235_10 : ax_code 235 10 = some (.iload 2, 11) := by decide +kernel
theorem c_235_11 : ax_code 235 11 = some (.iadd, 12) := by decide +kernel
theorem c_235_12 : ax_code 235 12 = some (.iaload, 13) := by decide +kernel
theorem c_235_13 : ax_code 235 13 = some (.ireturn, 14) := by decide +kernel
theorem c_236_0 : ax_code 236 0 = some (.aload 0, 1) := by decide +kernel
theorem c_236_1 : ax_code 236 1 = some (.iconst 0, 2) := by decide +kernel
theorem c_236_2 : ax_code 236 2 = some (.putfield 704, 5) := by decide +kernel
theorem c_236_5 : ax_code 236 5 = some (.aload 0, 6) := by decide +kernel
theorem c_236_6 : ax_code 236 6 = some (.iload 1, 7) := by decide +kernel
theorem c_236_7 : ax_code 236 7 = some (.invokevirtual 231, 10) := by decide +kernel
theorem c_236_10 : ax_code 236 10 = some (.ifCond .eq 20, 13) := by decide +kernel
theorem c_236_13 : ax_code 236 13 = some (.iload 2, 14) := by decide +kernel
theorem c_236_14 : ax_code 236 14 = some (.invokestatic 237, 17) := by decide +kernel
theorem c_236_17 : ax_code 236 17 = some (.ifCond .ne 26, 20) := by decide +kernel
theorem c_236_20 : ax_code 236 20 = some (.ldc2_w 0, 23) := by decide +kernel
theorem c_236_23 : ax_code 236 23 = some (.goto 48, 26) := by decide +kernel
theorem c_236_26 : ax_code 236 26 = some (.aload 0, 27) := by decide +kernel
theorem c_236_27 : ax_code 236 27 = some (.iload 1, 28) := by decide +kernel
theorem c_236_28 : ax_code 236 28 = some (.iload 2, 29) := by decide +kernel
theorem c_236_29 : ax_code 236 29 = some (.invokevirtual 234, 32) := by decide +kernel
theorem c_236_32 : ax_code 236 32 = some (.ifCond .eq 45, 35) := by decide +kernel
theorem c_236_35 : ax_code 236 35 = some (.aload 0, 36) := by decide +kernel
theorem c_236_36 : ax_code 236 36 = some (.iload 1, 37) := by decide +kernel
theorem c_236_37 : ax_code 236 37 = some (.iload 2, 38) := by decide +kernel
theorem c_236_38 : ax_code 236 38 = some (.invokevirtual 235, 41) := by decide +kernel
theorem c_236_41 : ax_code 236 41 = some (.i2l, 42) := by decide +kernel
theorem c_236_42 : ax_code 236 42 = some (.goto 48, 45) := by decide +kernel
theorem c_236_45 : ax_code 236 45 = some (.ldc2_w 5, 48) := by decide +kernel
theorem c_236_48 : ax_code 236 48 = some (.lreturn, 49) := by decide +kernel
