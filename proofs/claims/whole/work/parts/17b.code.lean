/-! instructions, made plain -/
theorem c_79_0 : ax_code 79 0 = some (.aload 0, 1) := by decide +kernel
theorem c_79_1 : ax_code 79 1 = some (.getfield 384, 4) := by decide +kernel
theorem c_79_4 : ax_code 79 4 = some (.ireturn, 5) := by decide +kernel
theorem c_80_0 : ax_code 80 0 = some (.aload 0, 1) := by decide +kernel
theorem c_80_1 : ax_code 80 1 = some (.getfield 385, 4) := by decide +kernel
theorem c_80_4 : ax_code 80 4 = some (.ireturn, 5) := by decide +kernel
theorem c_81_0 : ax_code 81 0 = some (.iload 1, 1) := by decide +kernel
theorem c_81_1 : ax_code 81 1 = some (.invokestatic 82, 4) := by decide +kernel
theorem c_81_4 : ax_code 81 4 = some (.ifCond .eq 16, 7) := by decide +kernel
theorem c_81_7 : ax_code 81 7 = some (.aload 0, 8) := by decide +kernel
theorem c_81_8 : ax_code 81 8 = some (.getfield 386, 11) := by decide +kernel
theorem c_81_11 : ax_code 81 11 = some (.iload 1, 12) := by decide +kernel
theorem c_81_12 : ax_code 81 12 = some (.iaload, 13) := by decide +kernel
theorem c_81_13 : ax_code 81 13 = some (.goto 18, 16) := by decide +kernel
theorem c_81_16 : ax_code 81 16 = some (.iconst (-1000000), 18) := by decide +kernel
theorem c_81_18 : ax_code 81 18 = some (.ireturn, 19) := by decide +kernel
theorem c_82_0 : ax_code 82 0 = some (.iload 0, 1) := by decide +kernel
theorem c_82_1 : ax_code 82 1 = some (.ifCond .lt 14, 4) := by decide +kernel
theorem c_82_4 : ax_code 82 4 = some (.iload 0, 5) := by decide +kernel
theorem c_82_5 : ax_code 82 5 = some (.iconst 11, 7) := by decide +kernel
theorem c_82_7 : ax_code 82 7 = some (.if_icmp .ge 14, 10) := by decide +kernel
theorem c_82_10 : ax_code 82 10 = some (.iconst 1, 11) := by decide +kernel
theorem c_82_11 : ax_code 82 11 = some (.goto 15, 14) := by decide +kernel
theorem c_82_14 : ax_code 82 14 = some (.iconst 0, 15) := by decide +kernel
theorem c_82_15 : ax_code 82 15 = some (.ireturn, 16) := by decide +kernel
theorem c_83_0 : ax_code 83 0 = some (.aload 0, 1) := by decide +kernel
theorem c_83_1 : ax_code 83 1 = some (.iload 1, 2) := by decide +kernel
theorem c_83_2 : ax_code 83 2 = some (.invokevirtual 84, 5) := by decide +kernel
theorem c_83_5 : ax_code 83 5 = some (.ifCond .eq 27, 8) := by decide +kernel
theorem c_83_8 : ax_code 83 8 = some (.iload 2, 9) := by decide +kernel
theorem c_83_9 : ax_code 83 9 = some (.invokestatic 82, 12) := by decide +kernel
theorem c_83_12 : ax_code 83 12 = some (.ifCond .eq 27, 15) := by decide +kernel
theorem c_83_15 : ax_code 83 15 = some (.aload 0, 16) := by decide +kernel
theorem c_83_16 : ax_code 83 16 = some (.getfield 68, 19) := by decide +kernel
theorem c_83_19 : ax_code 83 19 = some (.iload 1, 20) := by decide +kernel
theorem c_83_20 : ax_code 83 20 = some (.iconst 11, 22) := by decide +kernel
theorem c_83_22 : ax_code 83 22 = some (.imul, 23) := by decide +kernel
theorem c_83_23 : ax_code 83 23 = some (.iload 2, 24) := by decide +kernel
theorem c_83_24 : ax_code 83 24 = some (.iadd, 25) := by decide +kernel
theorem c_83_25 : ax_code 83 25 = some (.iload 3, 26) := by decide +kernel
theorem c_83_26 : ax_code 83 26 = some (.iastore, 27) := by decide +kernel
theorem c_83_27 : ax_code 83 27 = some (.return_, 28) := by decide +kernel
theorem c_84_0 : ax_code 84 0 = some (.iload 1, 1) := by decide +kernel
theorem c_84_1 : ax_code 84 1 = some (.ifCond .lt 22, 4) := by decide +kernel
theorem c_84_4 : ax_code 84 4 = some (.iload 1, 5) := by decide +kernel
theorem c_84_5 : ax_code 84 5 = some (.aload 0, 6) := by decide +kernel
theorem c_84_6 : ax_code 84 6 = some (.getfield 64, 9) := by decide +kernel
theorem c_84_9 : ax_code 84 9 = some (.if_icmp .ge 22, 12) := by decide +kernel
theorem c_84_12 : ax_code 84 12 = some (.iload 1, 13) := by decide +kernel
theorem c_84_13 : ax_code 84 13 = some (.iconst 12, 15) := by decide +kernel
theorem c_84_15 : ax_code 84 15 = some (.if_icmp .ge 22, 18) := by decide +kernel
theorem c_84_18 : ax_code 84 18 = some (.iconst 1, 19) := by decide +kernel
theorem c_84_19 : ax_code 84 19 = some (.goto 23, 22) := by decide +kernel
theorem c_84_22 : ax_code 84 22 = some (.iconst 0, 23) := by decide +kernel
theorem c_84_23 : ax_code 84 23 = some (.ireturn, 24) := by decide +kernel
theorem c_85_0 : ax_code 85 0 = some (.aload 0, 1) := by decide +kernel
theorem c_85_1 : ax_code 85 1 = some (.getfield 641, 4) := by decide +kernel
theorem c_85_4 : ax_code 85 4 = some (.invokevirtual 86, 7) := by decide +kernel
theorem c_85_7 : ax_code 85 7 = some (.ireturn, 8) := by decide +kernel
theorem c_86_0 : ax_code 86 0 = some (.aload 0, 1) := by decide +kernel
theorem c_86_1 : ax_code 86 1 = some (.getfield 578, 4) := by decide +kernel
theorem c_86_4 : ax_code 86 4 = some (.ireturn, 5) := by decide +kernel
theorem c_87_0 : ax_code 87 0 = some (.iload 1, 1) := by decide +kernel
theorem c_87_1 : ax_code 87 1 = some (.invokestatic 88, 4) := by decide +kernel
theorem c_87_4 : ax_code 87 4 = some (.ifCond .eq 37, 7) := by decide +kernel
theorem c_87_7 : ax_code 87 7 = some (.iload 2, 8) := by decide +kernel
theorem c_87_8 : ax_code 87 8 = some (.invokestatic 89, 11) := by decide +kernel
theorem c_87_11 : ax_code 87 11 = some (.ifCond .eq 37, 14) := by decide +kernel
theorem c_87_14 : ax_code 87 14 = some (.iload 3, 15) := by decide +kernel
theorem c_87_15 : ax_code 87 15 = some (.invokestatic 13, 18) := by decide +kernel
theorem c_87_18 : ax_code 87 18 = some (.ifCond .eq 37, 21) := by decide +kernel
theorem c_87_21 : ax_code 87 21 = some (.aload 0, 22) := by decide +kernel
theorem c_87_22 : ax_code 87 22 = some (.getfield 642, 25) := by decide +kernel
theorem c_87_25 : ax_code 87 25 = some (.getfield 257, 28) := by decide +kernel
theorem c_87_28 : ax_code 87 28 = some (.iload 5, 30) := by decide +kernel
theorem c_87_30 : ax_code 87 30 = some (.iload 2, 31) := by decide +kernel
theorem c_87_31 : ax_code 87 31 = some (.invokevirtual 90, 34) := by decide +kernel
theorem c_87_34 : ax_code 87 34 = some (.ifCond .ne 41, 37) := by decide +kernel
theorem c_87_37 : ax_code 87 37 = some (.ldc2_w 0, 40) := by decide +kernel
theorem c_87_40 : ax_code 87 40 = some (.lreturn, 41) := by decide +kernel
theorem c_87_41 : ax_code 87 41 = some (.aload 0, 42) := by decide +kernel
theorem c_87_42 : ax_code 87 42 = some (.getfield 642, 45) := by decide +kernel
theorem c_87_45 : ax_code 87 45 = some (.getfield 256, 48) := by decide +kernel
theorem c_87_48 : ax_code 87 48 = some (.invokevirtual 67, 51) := by decide +kernel
theorem c_87_51 : ax_code 87 51 = some (.ifCond .ne 58, 54) := by decide +kernel
theorem c_87_54 : ax_code 87 54 = some (.ldc2_w 4, 57) := by decide +kernel
theorem c_87_57 : ax_code 87 57 = some (.lreturn, 58) := by decide +kernel
theorem c_87_58 : ax_code 87 58 = some (.aload 0, 59) := by decide +kernel
theorem c_87_59 : ax_code 87 59 = some (.getfield 642, 62) := by decide +kernel
theorem c_87_62 : ax_code 87 62 = some (.getfield 257, 65) := by decide +kernel
theorem c_87_65 : ax_code 87 65 = some (.invokevirtual 68, 68) := by decide +kernel
theorem c_87_68 : ax_code 87 68 = some (.ifCond .eq 75, 71) := by decide +kernel
theorem c_87_71 : ax_code 87 71 = some (.ldc2_w 2, 74) := by decide +kernel
theorem c_87_74 : ax_code 87 74 = some (.lreturn, 75) := by decide +kernel
theorem c_87_75 : ax_code 87 75 = some (.aload 0, 76) := by decide +kernel
theorem c_87_76 : ax_code 87 76 = some (.getfield 640, 79) := by decide +kernel
theorem c_87_79 : ax_code 87 79 = some (.iload 3, 80) := by decide +kernel
theorem c_87_80 : ax_code 87 80 = some (.invokevirtual 18, 83) := by decide +kernel
theorem c_87_83 : ax_code 87 83 = some (.ifCond .eq 92, 86) := by decide +kernel
theorem c_87_86 : ax_code 87 86 = some (.aload 0, 87) := by decide +kernel
theorem c_87_87 : ax_code 87 87 = some (.iconst 1, 88) := by decide +kernel
theorem c_87_88 : ax_code 87 88 = some (.invokevirtual 14, 91) := by decide +kernel
theorem c_87_91 : ax_code 87 91 = some (.lreturn, 92) := by decide +kernel
theorem c_87_92 : ax_code 87 92 = some (.aload 0, 93) := by decide +kernel
theorem c_87_93 : ax_code 87 93 = some (.getfield 640, 96) := by decide +kernel
theorem c_87_96 : ax_code 87 96 = some (.iload 3, 97) := by decide +kernel
theorem c_87_97 : ax_code 87 97 = some (.iload 4, 99) := by decide +kernel
theorem c_87_99 : ax_code 87 99 = some (.iconst 11, 101) := by decide +kernel
theorem c_87_101 : ax_code 87 101 = some (.invokevirtual 20, 104) := by decide +kernel
theorem c_87_104 : ax_code 87 104 = some (.ifCond .ne 113, 107) := by decide +kernel
theorem c_87_107 : ax_code 87 107 = some (.aload 0, 108) := by decide +kernel
theorem c_87_108 : ax_code 87 108 = some (.iconst 2, 109) := by decide +kernel
theorem c_87_109 : ax_code 87 109 = some (.invokevirtual 14, 112) := by decide +kernel
theorem c_87_112 : ax_code 87 112 = some (.lreturn, 113) := by decide +kernel
theorem c_87_113 : ax_code 87 113 = some (.aload 0, 114) := by decide +kernel
theorem c_87_114 : ax_code 87 114 = some (.getfield 646, 117) := by decide +kernel
theorem c_87_117 : ax_code 87 117 = some (.iload 1, 118) := by decide +kernel
theorem c_87_118 : ax_code 87 118 = some (.iload 2, 119) := by decide +kernel
theorem c_87_119 : ax_code 87 119 = some (.invokevirtual 70, 122) := by decide +kernel
theorem c_87_122 : ax_code 87 122 = some (.aload 0, 123) := by decide +kernel
theorem c_87_123 : ax_code 87 123 = some (.getfield 646, 126) := by decide +kernel
theorem c_87_126 : ax_code 87 126 = some (.aload 0, 127) := by decide +kernel
theorem c_87_127 : ax_code 87 127 = some (.getfield 640, 130) := by decide +kernel
theorem c_87_130 : ax_code 87 130 = some (.iload 3, 131) := by decide +kernel
theorem c_87_131 : ax_code 87 131 = some (.iload 4, 133) := by decide +kernel
theorem c_87_133 : ax_code 87 133 = some (.invokevirtual 92, 136) := by decide +kernel
theorem c_87_136 : ax_code 87 136 = some (.ifCond .ne 143, 139) := by decide +kernel
theorem c_87_139 : ax_code 87 139 = some (.ldc2_w 0, 142) := by decide +kernel
theorem c_87_142 : ax_code 87 142 = some (.lreturn, 143) := by decide +kernel
theorem c_87_143 : ax_code 87 143 = some (.aload 0, 144) := by decide +kernel
theorem c_87_144 : ax_code 87 144 = some (.aload 0, 145) := by decide +kernel
theorem c_87_145 : ax_code 87 145 = some (.getfield 642, 148) := by decide +kernel
theorem c_87_148 : ax_code 87 148 = some (.getfield 257, 151) := by decide +kernel
theorem c_87_151 : ax_code 87 151 = some (.aload 0, 152) := by decide +kernel
theorem c_87_152 : ax_code 87 152 = some (.getfield 646, 155) := by decide +kernel
theorem c_87_155 : ax_code 87 155 = some (.iload 5, 157) := by decide +kernel
theorem c_87_157 : ax_code 87 157 = some (.invokevirtual 78, 160) := by decide +kernel
theorem c_87_160 : ax_code 87 160 = some (.i2l, 161) := by decide +kernel
theorem c_87_161 : ax_code 87 161 = some (.invokevirtual 16, 164) := by decide +kernel
theorem c_87_164 : ax_code 87 164 = some (.lreturn, 165) := by decide +kernel
theorem c_88_0 : ax_code 88 0 = some (.iload 0, 1) := by decide +kernel
theorem c_88_1 : ax_code 88 1 = some (.ifCond .lt 13, 4) := by decide +kernel
theorem c_88_4 : ax_code 88 4 = some (.iload 0, 5) := by decide +kernel
theorem c_88_5 : ax_code 88 5 = some (.iconst 4, 6) := by decide +kernel
theorem c_88_6 : ax_code 88 6 = some (.if_icmp .ge 13, 9) := by decide +kernel
theorem c_88_9 : ax_code 88 9 = some (.iconst 1, 10) := by decide +kernel
theorem c_88_10 : ax_code 88 10 = some (.goto 14, 13) := by decide +kernel
theorem c_88_13 : ax_code 88 13 = some (.iconst 0, 14) := by decide +kernel
theorem c_88_14 : ax_code 88 14 = some (.ireturn, 15) := by decide +kernel
theorem c_89_0 : ax_code 89 0 = some (.iload 0, 1) := by decide +kernel
theorem c_89_1 : ax_code 89 1 = some (.iconst 1800, 4) := by decide +kernel
theorem c_89_4 : ax_code 89 4 = some (.if_icmp .lt 18, 7) := by decide +kernel
theorem c_89_7 : ax_code 89 7 = some (.iload 0, 8) := by decide +kernel
theorem c_89_8 : ax_code 89 8 = some (.iconst 2000, 11) := by decide +kernel
theorem c_89_11 : ax_code 89 11 = some (.if_icmp .gt 18, 14) := by decide +kernel
theorem c_89_14 : ax_code 89 14 = some (.iconst 1, 15) := by decide +kernel
theorem c_89_15 : ax_code 89 15 = some (.goto 19, 18) := by decide +kernel
theorem c_89_18 : ax_code 89 18 = some (.iconst 0, 19) := by decide +kernel
theorem c_89_19 : ax_code 89 19 = some (.ireturn, 20) := by decide +kernel
theorem c_90_0 : ax_code 90 0 = some (.iload 1, 1) := by decide +kernel
theorem c_90_1 : ax_code 90 1 = some (.iconst (-1000000), 3) := by decide +kernel
theorem c_90_3 : ax_code 90 3 = some (.if_icmp .eq 23, 6) := by decide +kernel
theorem c_90_6 : ax_code 90 6 = some (.aload 0, 7) := by decide +kernel
theorem c_90_7 : ax_code 90 7 = some (.iload 1, 8) := by decide +kernel
theorem c_90_8 : ax_code 90 8 = some (.invokevirtual 84, 11) := by decide +kernel
theorem c_90_11 : ax_code 90 11 = some (.ifCond .eq 27, 14) := by decide +kernel
theorem c_90_14 : ax_code 90 14 = some (.aload 0, 15) := by decide +kernel
theorem c_90_15 : ax_code 90 15 = some (.iload 1, 16) := by decide +kernel
theorem c_90_16 : ax_code 90 16 = some (.invokevirtual 91, 19) := by decide +kernel
theorem c_90_19 : ax_code 90 19 = some (.iload 2, 20) := by decide +kernel
theorem c_90_20 : ax_code 90 20 = some (.if_icmp .gt 27, 23) := by decide +kernel
theorem c_90_23 : ax_code 90 23 = some (.iconst 1, 24) := by decide +kernel
theorem c_90_24 : ax_code 90 24 = some (.goto 28, 27) := by decide +kernel
theorem c_90_27 : ax_code 90 27 = some (.iconst 0, 28) := by decide +kernel
theorem c_90_28 : ax_code 90 28 = some (.ireturn, 29) := by decide +kernel
theorem c_91_0 : ax_code 91 0 = some (.aload 0, 1) := by decide +kernel
theorem c_91_1 : ax_code 91 1 = some (.iload 1, 2) := by decide +kernel
theorem c_91_2 : ax_code 91 2 = some (.invokevirtual 84, 5) := by decide +kernel
theorem c_91_5 : ax_code 91 5 = some (.ifCond .eq 17, 8) := by decide +kernel
theorem c_91_8 : ax_code 91 8 = some (.aload 0, 9) := by decide +kernel
theorem c_91_9 : ax_code 91 9 = some (.getfield 66, 12) := by decide +kernel
theorem c_91_12 : ax_code 91 12 = some (.iload 1, 13) := by decide +kernel
theorem c_91_13 : ax_code 91 13 = some (.iaload, 14) := by decide +kernel
theorem c_91_14 : ax_code 91 14 = some (.goto 19, 17) := by decide +kernel
theorem c_91_17 : ax_code 91 17 = some (.iconst (-1000000), 19) := by decide +kernel
theorem c_91_19 : ax_code 91 19 = some (.ireturn, 20) := by decide +kernel
theorem c_92_0 : ax_code 92 0 = some (.iconst 0, 1) := by decide +kernel
theorem c_92_1 : ax_code 92 1 = some (.istore 4, 3) := by decide +kernel
theorem c_92_3 : ax_code 92 3 = some (.iload 4, 5) := by decide +kernel
theorem c_92_5 : ax_code 92 5 = some (.iconst 11, 7) := by decide +kernel
theorem c_92_7 : ax_code 92 7 = some (.if_icmp .ge 65, 10) := by decide +kernel
theorem c_92_10 : ax_code 92 10 = some (.aload 1, 11) := by decide +kernel
theorem c_92_11 : ax_code 92 11 = some (.iload 2, 12) := by decide +kernel
theorem c_92_12 : ax_code 92 12 = some (.iload 3, 13) := by decide +kernel
theorem c_92_13 : ax_code 92 13 = some (.iload 4, 15) := by decide +kernel
theorem c_92_15 : ax_code 92 15 = some (.iadd, 16) := by decide +kernel
theorem c_92_16 : ax_code 92 16 = some (.invokevirtual 93, 19) := by decide +kernel
theorem c_92_19 : ax_code 92 19 = some (.istore 5, 21) := by decide +kernel
theorem c_92_21 : ax_code 92 21 = some (.iload 5, 23) := by decide +kernel
theorem c_92_23 : ax_code 92 23 = some (.iconst (-1), 24) := by decide +kernel
theorem c_92_24 : ax_code 92 24 = some (.if_icmp .lt 37, 27) := by decide +kernel
theorem c_92_27 : ax_code 92 27 = some (.iload 5, 29) := by decide +kernel
theorem c_92_29 : ax_code 92 29 = some (.iload 4, 31) := by decide +kernel
theorem c_92_31 : ax_code 92 31 = some (.invokestatic 94, 34) := by decide +kernel
theorem c_92_34 : ax_code 92 34 = some (.if_icmp .le 39, 37) := by decide +kernel
theorem c_92_37 : ax_code 92 37 = some (.iconst 0, 38) := by decide +kernel
theorem c_92_38 : ax_code 92 38 = some (.ireturn, 39) := by decide +kernel
theorem c_92_39 : ax_code 92 39 = some (.aload 0, 40) := by decide +kernel
theorem c_92_40 : ax_code 92 40 = some (.getfield 386, 43) := by decide +kernel
theorem c_92_43 : ax_code 92 43 = some (.iload 4, 45) := by decide +kernel
theorem c_92_45 : ax_code 92 45 = some (.iload 5, 47) := by decide +kernel
theorem c_92_47 : ax_code 92 47 = some (.iconst (-1), 48) := by decide +kernel
theorem c_92_48 : ax_code 92 48 = some (.if_icmp .ne 56, 51) := by decide +kernel
theorem c_92_51 : ax_code 92 51 = some (.iconst (-1000000), 53) := by decide +kernel
theorem c_92_53 : ax_code 92 53 = some (.goto 58, 56) := by decide +kernel
theorem c_92_56 : ax_code 92 56 = some (.iload 5, 58) := by decide +kernel
theorem c_92_58 : ax_code 92 58 = some (.iastore, 59) := by decide +kernel
theorem c_92_59 : ax_code 92 59 = some (.iinc 4 (1), 62) := by decide +kernel
theorem c_92_62 : ax_code 92 62 = some (.goto 3, 65) := by decide +kernel
theorem c_92_65 : ax_code 92 65 = some (.iconst 1, 66) := by decide +kernel
theorem c_92_66 : ax_code 92 66 = some (.ireturn, 67) := by decide +kernel
theorem c_93_0 : ax_code 93 0 = some (.aload 0, 1) := by decide +kernel
theorem c_93_1 : ax_code 93 1 = some (.iload 1, 2) := by decide +kernel
theorem c_93_2 : ax_code 93 2 = some (.iload 2, 3) := by decide +kernel
theorem c_93_3 : ax_code 93 3 = some (.iconst 1, 4) := by decide +kernel
theorem c_93_4 : ax_code 93 4 = some (.invokevirtual 20, 7) := by decide +kernel
theorem c_93_7 : ax_code 93 7 = some (.ifCond .eq 24, 10) := by decide +kernel
theorem c_93_10 : ax_code 93 10 = some (.aload 0, 11) := by decide +kernel
theorem c_93_11 : ax_code 93 11 = some (.getfield 450, 14) := by decide +kernel
theorem c_93_14 : ax_code 93 14 = some (.iload 1, 15) := by decide +kernel
theorem c_93_15 : ax_code 93 15 = some (.iconst 40, 17) := by decide +kernel
theorem c_93_17 : ax_code 93 17 = some (.imul, 18) := by decide +kernel
theorem c_93_18 : ax_code 93 18 = some (.iload 2, 19) := by decide +kernel
theorem c_93_19 : ax_code 93 19 = some (.iadd, 20) := by decide +kernel
theorem c_93_20 : ax_code 93 20 = some (.iaload, 21) := by decide +kernel
theorem c_93_21 : ax_code 93 21 = some (.goto 25, 24) := by decide +kernel
theorem c_93_24 : ax_code 93 24 = some (.iconst 0, 25) := by decide +kernel
theorem c_93_25 : ax_code 93 25 = some (.ireturn, 26) := by decide +kernel
theorem c_94_0 : ax_code 94 0 = some (.iload 0, 1) := by decide +kernel
theorem c_94_1 : ax_code 94 1 = some (.iconst 8, 3) := by decide +kernel
theorem c_94_3 : ax_code 94 3 = some (.if_icmp .ge 10, 6) := by decide +kernel
theorem c_94_6 : ax_code 94 6 = some (.iconst 9999, 9) := by decide +kernel
theorem c_94_9 : ax_code 94 9 = some (.ireturn, 10) := by decide +kernel
theorem c_94_10 : ax_code 94 10 = some (.iload 0, 11) := by decide +kernel
theorem c_94_11 : ax_code 94 11 = some (.iconst 8, 13) := by decide +kernel
theorem c_94_13 : ax_code 94 13 = some (.if_icmp .ne 21, 16) := by decide +kernel
theorem c_94_16 : ax_code 94 16 = some (.iconst 9, 18) := by decide +kernel
theorem c_94_18 : ax_code 94 18 = some (.goto 23, 21) := by decide +kernel
theorem c_94_21 : ax_code 94 21 = some (.iconst 99, 23) := by decide +kernel
theorem c_94_23 : ax_code 94 23 = some (.ireturn, 24) := by decide +kernel
theorem c_95_0 : ax_code 95 0 = some (.aload 0, 1) := by decide +kernel
theorem c_95_1 : ax_code 95 1 = some (.getfield 642, 4) := by decide +kernel
theorem c_95_4 : ax_code 95 4 = some (.getfield 257, 7) := by decide +kernel
theorem c_95_7 : ax_code 95 7 = some (.iload 1, 8) := by decide +kernel
theorem c_95_8 : ax_code 95 8 = some (.invokevirtual 84, 11) := by decide +kernel
theorem c_95_11 : ax_code 95 11 = some (.ifCond .eq 43, 14) := by decide +kernel
theorem c_95_14 : ax_code 95 14 = some (.iload 2, 15) := by decide +kernel
theorem c_95_15 : ax_code 95 15 = some (.invokestatic 88, 18) := by decide +kernel
theorem c_95_18 : ax_code 95 18 = some (.ifCond .eq 43, 21) := by decide +kernel
theorem c_95_21 : ax_code 95 21 = some (.iload 3, 22) := by decide +kernel
theorem c_95_22 : ax_code 95 22 = some (.invokestatic 89, 25) := by decide +kernel
theorem c_95_25 : ax_code 95 25 = some (.ifCond .eq 43, 28) := by decide +kernel
theorem c_95_28 : ax_code 95 28 = some (.iload 3, 29) := by decide +kernel
theorem c_95_29 : ax_code 95 29 = some (.aload 0, 30) := by decide +kernel
theorem c_95_30 : ax_code 95 30 = some (.getfield 642, 33) := by decide +kernel
theorem c_95_33 : ax_code 95 33 = some (.getfield 257, 36) := by decide +kernel
theorem c_95_36 : ax_code 95 36 = some (.iload 1, 37) := by decide +kernel
theorem c_95_37 : ax_code 95 37 = some (.invokevirtual 91, 40) := by decide +kernel
theorem c_95_40 : ax_code 95 40 = some (.if_icmp .ge 47, 43) := by decide +kernel
theorem c_95_43 : ax_code 95 43 = some (.ldc2_w 0, 46) := by decide +kernel
theorem c_95_46 : ax_code 95 46 = some (.lreturn, 47) := by decide +kernel
theorem c_95_47 : ax_code 95 47 = some (.iload 4, 49) := by decide +kernel
theorem c_95_49 : ax_code 95 49 = some (.ifCond .lt 88, 52) := by decide +kernel
theorem c_95_52 : ax_code 95 52 = some (.iload 4, 54) := by decide +kernel
theorem c_95_54 : ax_code 95 54 = some (.iconst 6, 56) := by decide +kernel
theorem c_95_56 : ax_code 95 56 = some (.if_icmp .gt 88, 59) := by decide +kernel
theorem c_95_59 : ax_code 95 59 = some (.iload 5, 61) := by decide +kernel
theorem c_95_61 : ax_code 95 61 = some (.invokestatic 74, 64) := by decide +kernel
theorem c_95_64 : ax_code 95 64 = some (.ifCond .eq 88, 67) := by decide +kernel
theorem c_95_67 : ax_code 95 67 = some (.iload 6, 69) := by decide +kernel
theorem c_95_69 : ax_code 95 69 = some (.invokestatic 74, 72) := by decide +kernel
theorem c_95_72 : ax_code 95 72 = some (.ifCond .eq 88, 75) := by decide +kernel
theorem c_95_75 : ax_code 95 75 = some (.iload 4, 77) := by decide +kernel
theorem c_95_77 : ax_code 95 77 = some (.iconst 4, 78) := by decide +kernel
theorem c_95_78 : ax_code 95 78 = some (.if_icmp .ne 92, 81) := by decide +kernel
theorem c_95_81 : ax_code 95 81 = some (.iload 5, 83) := by decide +kernel
theorem c_95_83 : ax_code 95 83 = some (.iload 6, 85) := by decide +kernel
theorem c_95_85 : ax_code 95 85 = some (.if_icmp .ne 92, 88) := by decide +kernel
theorem c_95_88 : ax_code 95 88 = some (.ldc2_w 0, 91) := by decide +kernel
theorem c_95_91 : ax_code 95 91 = some (.lreturn, 92) := by decide +kernel
theorem c_95_92 : ax_code 95 92 = some (.aload 0, 93) := by decide +kernel
theorem c_95_93 : ax_code 95 93 = some (.getfield 646, 96) := by decide +kernel
theorem c_95_96 : ax_code 95 96 = some (.iload 2, 97) := by decide +kernel
theorem c_95_97 : ax_code 95 97 = some (.iload 3, 98) := by decide +kernel
theorem c_95_98 : ax_code 95 98 = some (.invokevirtual 70, 101) := by decide +kernel
theorem c_95_101 : ax_code 95 101 = some (.aload 0, 102) := by decide +kernel
theorem c_95_102 : ax_code 95 102 = some (.getfield 646, 105) := by decide +kernel
theorem c_95_105 : ax_code 95 105 = some (.aload 0, 106) := by decide +kernel
theorem c_95_106 : ax_code 95 106 = some (.getfield 642, 109) := by decide +kernel
theorem c_95_109 : ax_code 95 109 = some (.getfield 257, 112) := by decide +kernel
theorem c_95_112 : ax_code 95 112 = some (.iload 1, 113) := by decide +kernel
theorem c_95_113 : ax_code 95 113 = some (.invokevirtual 96, 116) := by decide +kernel
theorem c_95_116 : ax_code 95 116 = some (.aload 0, 117) := by decide +kernel
theorem c_95_117 : ax_code 95 117 = some (.getfield 646, 120) := by decide +kernel
theorem c_95_120 : ax_code 95 120 = some (.iload 4, 122) := by decide +kernel
theorem c_95_122 : ax_code 95 122 = some (.iload 5, 124) := by decide +kernel
theorem c_95_124 : ax_code 95 124 = some (.iload 6, 126) := by decide +kernel
theorem c_95_126 : ax_code 95 126 = some (.invokevirtual 98, 129) := by decide +kernel
theorem c_95_129 : ax_code 95 129 = some (.ifCond .ne 136, 132) := by decide +kernel
theorem c_95_132 : ax_code 95 132 = some (.ldc2_w 4, 135) := by decide +kernel
theorem c_95_135 : ax_code 95 135 = some (.lreturn, 136) := by decide +kernel
theorem c_95_136 : ax_code 95 136 = some (.aload 0, 137) := by decide +kernel
theorem c_95_137 : ax_code 95 137 = some (.getfield 642, 140) := by decide +kernel
theorem c_95_140 : ax_code 95 140 = some (.getfield 257, 143) := by decide +kernel
theorem c_95_143 : ax_code 95 143 = some (.invokevirtual 68, 146) := by decide +kernel
theorem c_95_146 : ax_code 95 146 = some (.ifCond .eq 153, 149) := by decide +kernel
theorem c_95_149 : ax_code 95 149 = some (.ldc2_w 2, 152) := by decide +kernel
theorem c_95_152 : ax_code 95 152 = some (.lreturn, 153) := by decide +kernel
theorem c_95_153 : ax_code 95 153 = some (.aload 0, 154) := by decide +kernel
theorem c_95_154 : ax_code 95 154 = some (.getfield 642, 157) := by decide +kernel
theorem c_95_157 : ax_code 95 157 = some (.getfield 257, 160) := by decide +kernel
theorem c_95_160 : ax_code 95 160 = some (.aload 0, 161) := by decide +kernel
theorem c_95_161 : ax_code 95 161 = some (.getfield 646, 164) := by decide +kernel
theorem c_95_164 : ax_code 95 164 = some (.iload 1, 165) := by decide +kernel
theorem c_95_165 : ax_code 95 165 = some (.invokevirtual 78, 168) := by decide +kernel
theorem c_95_168 : ax_code 95 168 = some (.i2l, 169) := by decide +kernel
theorem c_95_169 : ax_code 95 169 = some (.lreturn, 170) := by decide +kernel
theorem c_96_0 : ax_code 96 0 = some (.iconst 0, 1) := by decide +kernel
theorem c_96_1 : ax_code 96 1 = some (.istore 3, 2) := by decide +kernel
theorem c_96_2 : ax_code 96 2 = some (.iload 3, 3) := by decide +kernel
theorem c_96_3 : ax_code 96 3 = some (.iconst 11, 5) := by decide +kernel
theorem c_96_5 : ax_code 96 5 = some (.if_icmp .ge 26, 8) := by decide +kernel
theorem c_96_8 : ax_code 96 8 = some (.aload 0, 9) := by decide +kernel
theorem c_96_9 : ax_code 96 9 = some (.getfield 386, 12) := by decide +kernel
theorem c_96_12 : ax_code 96 12 = some (.iload 3, 13) := by decide +kernel
theorem c_96_13 : ax_code 96 13 = some (.aload 1, 14) := by decide +kernel
theorem c_96_14 : ax_code 96 14 = some (.iload 2, 15) := by decide +kernel
theorem c_96_15 : ax_code 96 15 = some (.iload 3, 16) := by decide +kernel
theorem c_96_16 : ax_code 96 16 = some (.invokevirtual 97, 19) := by decide +kernel
theorem c_96_19 : ax_code 96 19 = some (.iastore, 20) := by decide +kernel
theorem c_96_20 : ax_code 96 20 = some (.iinc 3 (1), 23) := by decide +kernel
theorem c_96_23 : ax_code 96 23 = some (.goto 2, 26) := by decide +kernel
theorem c_96_26 : ax_code 96 26 = some (.return_, 27) := by decide +kernel
theorem c_97_0 : ax_code 97 0 = some (.aload 0, 1) := by decide +kernel
theorem c_97_1 : ax_code 97 1 = some (.iload 1, 2) := by decide +kernel
theorem c_97_2 : ax_code 97 2 = some (.invokevirtual 84, 5) := by decide +kernel
theorem c_97_5 : ax_code 97 5 = some (.ifCond .eq 29, 8) := by decide +kernel
theorem c_97_8 : ax_code 97 8 = some (.iload 2, 9) := by decide +kernel
theorem c_97_9 : ax_code 97 9 = some (.invokestatic 82, 12) := by decide +kernel
theorem c_97_12 : ax_code 97 12 = some (.ifCond .eq 29, 15) := by decide +kernel
theorem c_97_15 : ax_code 97 15 = some (.aload 0, 16) := by decide +kernel
theorem c_97_16 : ax_code 97 16 = some (.getfield 68, 19) := by decide +kernel
theorem c_97_19 : ax_code 97 19 = some (.iload 1, 20) := by decide +kernel
theorem c_97_20 : ax_code 97 20 = some (.iconst 11, 22) := by decide +kernel
theorem c_97_22 : ax_code 97 22 = some (.imul, 23) := by decide +kernel
theorem c_97_23 : ax_code 97 23 = some (.iload 2, 24) := by decide +kernel
theorem c_97_24 : ax_code 97 24 = some (.iadd, 25) := by decide +kernel
theorem c_97_25 : ax_code 97 25 = some (.iaload, 26) := by decide +kernel
theorem c_97_26 : ax_code 97 26 = some (.goto 31, 29) := by decide +kernel
theorem c_97_29 : ax_code 97 29 = some (.iconst (-1000000), 31) := by decide +kernel
theorem c_97_31 : ax_code 97 31 = some (.ireturn, 32) := by decide +kernel
theorem c_98_0 : ax_code 98 0 = some (.iload 2, 1) := by decide +kernel
theorem c_98_1 : ax_code 98 1 = some (.invokestatic 74, 4) := by decide +kernel
theorem c_98_4 : ax_code 98 4 = some (.ifCond .eq 14, 7) := by decide +kernel
theorem c_98_7 : ax_code 98 7 = some (.iload 3, 8) := by decide +kernel
theorem c_98_8 : ax_code 98 8 = some (.invokestatic 74, 11) := by decide +kernel
theorem c_98_11 : ax_code 98 11 = some (.ifCond .ne 16, 14) := by decide +kernel
theorem c_98_14 : ax_code 98 14 = some (.iconst 0, 15) := by decide +kernel
theorem c_98_15 : ax_code 98 15 = some (.ireturn, 16) := by decide +kernel
theorem c_98_16 : ax_code 98 16 = some (.iload 1, 17) := by decide +kernel
theorem c_98_17 : ax_code 98 17 = some (.tableswitch 269 (1) (6) #[56, 66, 99, 132, 188, 229], 56) := by decide +kernel
theorem c_98_56 : ax_code 98 56 = some (.aload 0, 57) := by decide +kernel
theorem c_98_57 : ax_code 98 57 = some (.getfield 386, 60) := by decide +kernel
theorem c_98_60 : ax_code 98 60 = some (.iload 2, 61) := by decide +kernel
theorem c_98_61 : ax_code 98 61 = some (.iconst 0, 62) := by decide +kernel
theorem c_98_62 : ax_code 98 62 = some (.iastore, 63) := by decide +kernel
theorem c_98_63 : ax_code 98 63 = some (.goto 269, 66) := by decide +kernel
theorem c_98_66 : ax_code 98 66 = some (.aload 0, 67) := by decide +kernel
theorem c_98_67 : ax_code 98 67 = some (.getfield 386, 70) := by decide +kernel
theorem c_98_70 : ax_code 98 70 = some (.iload 2, 71) := by decide +kernel
theorem c_98_71 : ax_code 98 71 = some (.aload 0, 72) := by decide +kernel
theorem c_98_72 : ax_code 98 72 = some (.getfield 386, 75) := by decide +kernel
theorem c_98_75 : ax_code 98 75 = some (.iload 2, 76) := by decide +kernel
theorem c_98_76 : ax_code 98 76 = some (.iaload, 77) := by decide +kernel
theorem c_98_77 : ax_code 98 77 = some (.iconst (-1000000), 79) := by decide +kernel
theorem c_98_79 : ax_code 98 79 = some (.if_icmp .ne 87, 82) := by decide +kernel
theorem c_98_82 : ax_code 98 82 = some (.iconst (-1000000), 84) := by decide +kernel
theorem c_98_84 : ax_code 98 84 = some (.goto 95, 87) := by decide +kernel
theorem c_98_87 : ax_code 98 87 = some (.aload 0, 88) := by decide +kernel
theorem c_98_88 : ax_code 98 88 = some (.getfield 386, 91) := by decide +kernel
theorem c_98_91 : ax_code 98 91 = some (.iload 2, 92) := by decide +kernel
theorem c_98_92 : ax_code 98 92 = some (.iaload, 93) := by decide +kernel
theorem c_98_93 : ax_code 98 93 = some (.iconst 2, 94) := by decide +kernel
theorem c_98_94 : ax_code 98 94 = some (.imul, 95) := by decide +kernel
theorem c_98_95 : ax_code 98 95 = some (.iastore, 96) := by decide +kernel
theorem c_98_96 : ax_code 98 96 = some (.goto 269, 99) := by decide +kernel
theorem c_98_99 : ax_code 98 99 = some (.aload 0, 100) := by decide +kernel
theorem c_98_100 : ax_code 98 100 = some (.getfield 386, 103) := by decide +kernel
theorem c_98_103 : ax_code 98 103 = some (.iload 2, 104) := by decide +kernel
theorem c_98_104 : ax_code 98 104 = some (.aload 0, 105) := by decide +kernel
theorem c_98_105 : ax_code 98 105 = some (.getfield 386, 108) := by decide +kernel
theorem c_98_108 : ax_code 98 108 = some (.iload 2, 109) := by decide +kernel
theorem c_98_109 : ax_code 98 109 = some (.iaload, 110) := by decide +kernel
theorem c_98_110 : ax_code 98 110 = some (.iconst (-1000000), 112) := by decide +kernel
theorem c_98_112 : ax_code 98 112 = some (.if_icmp .ne 120, 115) := by decide +kernel
theorem c_98_115 : ax_code 98 115 = some (.iconst (-1000000), 117) := by decide +kernel
theorem c_98_117 : ax_code 98 117 = some (.goto 128, 120) := by decide +kernel
theorem c_98_120 : ax_code 98 120 = some (.aload 0, 121) := by decide +kernel
theorem c_98_121 : ax_code 98 121 = some (.getfield 386, 124) := by decide +kernel
theorem c_98_124 : ax_code 98 124 = some (.iload 2, 125) := by decide +kernel
theorem c_98_125 : ax_code 98 125 = some (.iaload, 126) := by decide +kernel
theorem c_98_126 : ax_code 98 126 = some (.iconst 2, 127) := by decide +kernel
theorem c_98_127 : ax_code 98 127 = some (.idiv, 128) := by decide +kernel
theorem c_98_128 : ax_code 98 128 = some (.iastore, 129) := by decide +kernel
theorem c_98_129 : ax_code 98 129 = some (.goto 269, 132) := by decide +kernel
theorem c_98_132 : ax_code 98 132 = some (.aload 0, 133) := by decide +kernel
theorem c_98_133 : ax_code 98 133 = some (.getfield 386, 136) := by decide +kernel
theorem c_98_136 : ax_code 98 136 = some (.iload 3, 137) := by decide +kernel
theorem c_98_137 : ax_code 98 137 = some (.aload 0, 138) := by decide +kernel
theorem c_98_138 : ax_code 98 138 = some (.getfield 386, 141) := by decide +kernel
theorem c_98_141 : ax_code 98 141 = some (.iload 2, 142) := by decide +kernel
theorem c_98_142 : ax_code 98 142 = some (.iaload, 143) := by decide +kernel
theorem c_98_143 : ax_code 98 143 = some (.iconst (-1000000), 145) := by decide +kernel
theorem c_98_145 : ax_code 98 145 = some (.if_icmp .eq 159, 148) := by decide +kernel
theorem c_98_148 : ax_code 98 148 = some (.aload 0, 149) := by decide +kernel
theorem c_98_149 : ax_code 98 149 = some (.getfield 386, 152) := by decide +kernel
theorem c_98_152 : ax_code 98 152 = some (.iload 3, 153) := by decide +kernel
theorem c_98_153 : ax_code 98 153 = some (.iaload, 154) := by decide +kernel
theorem c_98_154 : ax_code 98 154 = some (.iconst (-1000000), 156) := by decide +kernel
theorem c_98_156 : ax_code 98 156 = some (.if_icmp .ne 164, 159) := by decide +kernel
theorem c_98_159 : ax_code 98 159 = some (.iconst (-1000000), 161) := by decide +kernel
theorem c_98_161 : ax_code 98 161 = some (.goto 177, 164) := by decide +kernel
theorem c_98_164 : ax_code 98 164 = some (.aload 0, 165) := by decide +kernel
theorem c_98_165 : ax_code 98 165 = some (.getfield 386, 168) := by decide +kernel
theorem c_98_168 : ax_code 98 168 = some (.iload 2, 169) := by decide +kernel
theorem c_98_169 : ax_code 98 169 = some (.iaload, 170) := by decide +kernel
theorem c_98_170 : ax_code 98 170 = some (.aload 0, 171) := by decide +kernel
theorem c_98_171 : ax_code 98 171 = some (.getfield 386, 174) := by decide +kernel
theorem c_98_174 : ax_code 98 174 = some (.iload 3, 175) := by decide +kernel
theorem c_98_175 : ax_code 98 175 = some (.iaload, 176) := by decide +kernel
theorem c_98_176 : ax_code 98 176 = some (.iadd, 177) := by decide +kernel
theorem c_98_177 : ax_code 98 177 = some (.iastore, 178) := by decide +kernel
theorem c_98_178 : ax_code 98 178 = some (.aload 0, 179) := by decide +kernel
theorem c_98_179 : ax_code 98 179 = some (.getfield 386, 182) := by decide +kernel
theorem c_98_182 : ax_code 98 182 = some (.iload 2, 183) := by decide +kernel
theorem c_98_183 : ax_code 98 183 = some (.iconst 0, 184) := by decide +kernel
theorem c_98_184 : ax_code 98 184 = some (.iastore, 185) := by decide +kernel
theorem c_98_185 : ax_code 98 185 = some (.goto 269, 188) := by decide +kernel
theorem c_98_188 : ax_code 98 188 = some (.aload 0, 189) := by decide +kernel
theorem c_98_189 : ax_code 98 189 = some (.getfield 386, 192) := by decide +kernel
theorem c_98_192 : ax_code 98 192 = some (.iconst 8, 194) := by decide +kernel
theorem c_98_194 : ax_code 98 194 = some (.aload 0, 195) := by decide +kernel
theorem c_98_195 : ax_code 98 195 = some (.getfield 386, 198) := by decide +kernel
theorem c_98_198 : ax_code 98 198 = some (.iconst 8, 200) := by decide +kernel
theorem c_98_200 : ax_code 98 200 = some (.iaload, 201) := by decide +kernel
theorem c_98_201 : ax_code 98 201 = some (.iconst (-1000000), 203) := by decide +kernel
theorem c_98_203 : ax_code 98 203 = some (.if_icmp .ne 211, 206) := by decide +kernel
theorem c_98_206 : ax_code 98 206 = some (.iconst (-1000000), 208) := by decide +kernel
theorem c_98_208 : ax_code 98 208 = some (.goto 225, 211) := by decide +kernel
theorem c_98_211 : ax_code 98 211 = some (.aload 0, 212) := by decide +kernel
theorem c_98_212 : ax_code 98 212 = some (.getfield 386, 215) := by decide +kernel
theorem c_98_215 : ax_code 98 215 = some (.iconst 8, 217) := by decide +kernel
theorem c_98_217 : ax_code 98 217 = some (.iaload, 218) := by decide +kernel
theorem c_98_218 : ax_code 98 218 = some (.iconst 1, 219) := by decide +kernel
theorem c_98_219 : ax_code 98 219 = some (.iadd, 220) := by decide +kernel
theorem c_98_220 : ax_code 98 220 = some (.iconst 9, 222) := by decide +kernel
theorem c_98_222 : ax_code 98 222 = some (.invokedynamic 1, 225) := by decide +kernel
theorem c_98_225 : ax_code 98 225 = some (.iastore, 226) := by decide +kernel
theorem c_98_226 : ax_code 98 226 = some (.goto 269, 229) := by decide +kernel
theorem c_98_229 : ax_code 98 229 = some (.aload 0, 230) := by decide +kernel
theorem c_98_230 : ax_code 98 230 = some (.getfield 386, 233) := by decide +kernel
theorem c_98_233 : ax_code 98 233 = some (.iconst 9, 235) := by decide +kernel
theorem c_98_235 : ax_code 98 235 = some (.aload 0, 236) := by decide +kernel
theorem c_98_236 : ax_code 98 236 = some (.getfield 386, 239) := by decide +kernel
theorem c_98_239 : ax_code 98 239 = some (.iconst 9, 241) := by decide +kernel
theorem c_98_241 : ax_code 98 241 = some (.iaload, 242) := by decide +kernel
theorem c_98_242 : ax_code 98 242 = some (.iconst (-1000000), 244) := by decide +kernel
theorem c_98_244 : ax_code 98 244 = some (.if_icmp .ne 252, 247) := by decide +kernel
theorem c_98_247 : ax_code 98 247 = some (.iconst (-1000000), 249) := by decide +kernel
theorem c_98_249 : ax_code 98 249 = some (.goto 265, 252) := by decide +kernel
theorem c_98_252 : ax_code 98 252 = some (.aload 0, 253) := by decide +kernel
theorem c_98_253 : ax_code 98 253 = some (.getfield 386, 256) := by decide +kernel
theorem c_98_256 : ax_code 98 256 = some (.iconst 9, 258) := by decide +kernel
theorem c_98_258 : ax_code 98 258 = some (.iaload, 259) := by decide +kernel
theorem c_98_259 : ax_code 98 259 = some (.iconst 5, 260) := by decide +kernel
theorem c_98_260 : ax_code 98 260 = some (.isub, 261) := by decide +kernel
theorem c_98_261 : ax_code 98 261 = some (.iconst 0, 262) := by decide +kernel
theorem c_98_262 : ax_code 98 262 = some (.invokedynamic 0, 265) := by decide +kernel
theorem c_98_265 : ax_code 98 265 = some (.iastore, 266) := by decide +kernel
theorem c_98_266 : ax_code 98 266 = some (.goto 269, 269) := by decide +kernel
theorem c_98_269 : ax_code 98 269 = some (.aload 0, 270) := by decide +kernel
theorem c_98_270 : ax_code 98 270 = some (.getfield 386, 273) := by decide +kernel
theorem c_98_273 : ax_code 98 273 = some (.iload 2, 274) := by decide +kernel
theorem c_98_274 : ax_code 98 274 = some (.iaload, 275) := by decide +kernel
theorem c_98_275 : ax_code 98 275 = some (.iconst 9999, 278) := by decide +kernel
theorem c_98_278 : ax_code 98 278 = some (.if_icmp .gt 297, 281) := by decide +kernel
theorem c_98_281 : ax_code 98 281 = some (.aload 0, 282) := by decide +kernel
theorem c_98_282 : ax_code 98 282 = some (.getfield 386, 285) := by decide +kernel
theorem c_98_285 : ax_code 98 285 = some (.iload 3, 286) := by decide +kernel
theorem c_98_286 : ax_code 98 286 = some (.iaload, 287) := by decide +kernel
theorem c_98_287 : ax_code 98 287 = some (.iconst 9999, 290) := by decide +kernel
theorem c_98_290 : ax_code 98 290 = some (.if_icmp .gt 297, 293) := by decide +kernel
theorem c_98_293 : ax_code 98 293 = some (.iconst 1, 294) := by decide +kernel
theorem c_98_294 : ax_code 98 294 = some (.goto 298, 297) := by decide +kernel
theorem c_98_297 : ax_code 98 297 = some (.iconst 0, 298) := by decide +kernel
theorem c_98_298 : ax_code 98 298 = some (.ireturn, 299) := by decide +kernel
theorem c_99_0 : ax_code 99 0 = some (.aload 0, 1) := by decide +kernel
theorem c_99_1 : ax_code 99 1 = some (.getfield 642, 4) := by decide +kernel
theorem c_99_4 : ax_code 99 4 = some (.getfield 257, 7) := by decide +kernel
theorem c_99_7 : ax_code 99 7 = some (.iload 1, 8) := by decide +kernel
theorem c_99_8 : ax_code 99 8 = some (.invokevirtual 84, 11) := by decide +kernel
theorem c_99_11 : ax_code 99 11 = some (.ifCond .eq 21, 14) := by decide +kernel
theorem c_99_14 : ax_code 99 14 = some (.iload 2, 15) := by decide +kernel
theorem c_99_15 : ax_code 99 15 = some (.invokestatic 82, 18) := by decide +kernel
theorem c_99_18 : ax_code 99 18 = some (.ifCond .ne 25, 21) := by decide +kernel
theorem c_99_21 : ax_code 99 21 = some (.ldc2_w 0, 24) := by decide +kernel
theorem c_99_24 : ax_code 99 24 = some (.lreturn, 25) := by decide +kernel
theorem c_99_25 : ax_code 99 25 = some (.aload 0, 26) := by decide +kernel
theorem c_99_26 : ax_code 99 26 = some (.getfield 642, 29) := by decide +kernel
theorem c_99_29 : ax_code 99 29 = some (.getfield 257, 32) := by decide +kernel
theorem c_99_32 : ax_code 99 32 = some (.iload 1, 33) := by decide +kernel
theorem c_99_33 : ax_code 99 33 = some (.iload 2, 34) := by decide +kernel
theorem c_99_34 : ax_code 99 34 = some (.invokevirtual 97, 37) := by decide +kernel
theorem c_99_37 : ax_code 99 37 = some (.i2l, 38) := by decide +kernel
theorem c_99_38 : ax_code 99 38 = some (.lreturn, 39) := by decide +kernel
theorem c_100_0 : ax_code 100 0 = some (.aload 0, 1) := by decide +kernel
theorem c_100_1 : ax_code 100 1 = some (.getfield 642, 4) := by decide +kernel
theorem c_100_4 : ax_code 100 4 = some (.getfield 257, 7) := by decide +kernel
theorem c_100_7 : ax_code 100 7 = some (.iload 1, 8) := by decide +kernel
theorem c_100_8 : ax_code 100 8 = some (.invokevirtual 84, 11) := by decide +kernel
theorem c_100_11 : ax_code 100 11 = some (.ifCond .ne 18, 14) := by decide +kernel
theorem c_100_14 : ax_code 100 14 = some (.ldc2_w 0, 17) := by decide +kernel
theorem c_100_17 : ax_code 100 17 = some (.lreturn, 18) := by decide +kernel
theorem c_100_18 : ax_code 100 18 = some (.iload 2, 19) := by decide +kernel
theorem c_100_19 : ax_code 100 19 = some (.tableswitch 117 (0) (4) #[52, 65, 78, 91, 104], 52) := by decide +kernel
theorem c_100_52 : ax_code 100 52 = some (.aload 0, 53) := by decide +kernel
theorem c_100_53 : ax_code 100 53 = some (.getfield 642, 56) := by decide +kernel
theorem c_100_56 : ax_code 100 56 = some (.getfield 257, 59) := by decide +kernel
theorem c_100_59 : ax_code 100 59 = some (.iload 1, 60) := by decide +kernel
theorem c_100_60 : ax_code 100 60 = some (.invokevirtual 101, 63) := by decide +kernel
theorem c_100_63 : ax_code 100 63 = some (.i2l, 64) := by decide +kernel
theorem c_100_64 : ax_code 100 64 = some (.lreturn, 65) := by decide +kernel
theorem c_100_65 : ax_code 100 65 = some (.aload 0, 66) := by decide +kernel
theorem c_100_66 : ax_code 100 66 = some (.getfield 642, 69) := by decide +kernel
theorem c_100_69 : ax_code 100 69 = some (.getfield 257, 72) := by decide +kernel
theorem c_100_72 : ax_code 100 72 = some (.iload 1, 73) := by decide +kernel
theorem c_100_73 : ax_code 100 73 = some (.invokevirtual 91, 76) := by decide +kernel
theorem c_100_76 : ax_code 100 76 = some (.i2l, 77) := by decide +kernel
theorem c_100_77 : ax_code 100 77 = some (.lreturn, 78) := by decide +kernel
theorem c_100_78 : ax_code 100 78 = some (.aload 0, 79) := by decide +kernel
theorem c_100_79 : ax_code 100 79 = some (.getfield 642, 82) := by decide +kernel
theorem c_100_82 : ax_code 100 82 = some (.getfield 257, 85) := by decide +kernel
theorem c_100_85 : ax_code 100 85 = some (.iload 1, 86) := by decide +kernel
theorem c_100_86 : ax_code 100 86 = some (.invokevirtual 102, 89) := by decide +kernel
theorem c_100_89 : ax_code 100 89 = some (.i2l, 90) := by decide +kernel
theorem c_100_90 : ax_code 100 90 = some (.lreturn, 91) := by decide +kernel
theorem c_100_91 : ax_code 100 91 = some (.aload 0, 92) := by decide +kernel
theorem c_100_92 : ax_code 100 92 = some (.getfield 642, 95) := by decide +kernel
theorem c_100_95 : ax_code 100 95 = some (.getfield 257, 98) := by decide +kernel
theorem c_100_98 : ax_code 100 98 = some (.iload 1, 99) := by decide +kernel
theorem c_100_99 : ax_code 100 99 = some (.invokevirtual 103, 102) := by decide +kernel
theorem c_100_102 : ax_code 100 102 = some (.i2l, 103) := by decide +kernel
theorem c_100_103 : ax_code 100 103 = some (.lreturn, 104) := by decide +kernel
theorem c_100_104 : ax_code 100 104 = some (.aload 0, 105) := by decide +kernel
theorem c_100_105 : ax_code 100 105 = some (.getfield 642, 108) := by decide +kernel
theorem c_100_108 : ax_code 100 108 = some (.getfield 257, 111) := by decide +kernel
theorem c_100_111 : ax_code 100 111 = some (.iload 1, 112) := by decide +kernel
theorem c_100_112 : ax_code 100 112 = some (.invokevirtual 104, 115) := by decide +kernel
theorem c_100_115 : ax_code 100 115 = some (.i2l, 116) := by decide +kernel
theorem c_100_116 : ax_code 100 116 = some (.lreturn, 117) := by decide +kernel
theorem c_100_117 : ax_code 100 117 = some (.ldc2_w 0, 120) := by decide +kernel
theorem c_100_120 : ax_code 100 120 = some (.lreturn, 121) := by decide +kernel
theorem c_101_0 : ax_code 101 0 = some (.aload 0, 1) := by decide +kernel
theorem c_101_1 : ax_code 101 1 = some (.iload 1, 2) := by decide +kernel
theorem c_101_2 : ax_code 101 2 = some (.invokevirtual 84, 5) := by decide +kernel
theorem c_101_5 : ax_code 101 5 = some (.ifCond .eq 17, 8) := by decide +kernel
theorem c_101_8 : ax_code 101 8 = some (.aload 0, 9) := by decide +kernel
theorem c_101_9 : ax_code 101 9 = some (.getfield 65, 12) := by decide +kernel
theorem c_101_12 : ax_code 101 12 = some (.iload 1, 13) := by decide +kernel
theorem c_101_13 : ax_code 101 13 = some (.iaload, 14) := by decide +kernel
theorem c_101_14 : ax_code 101 14 = some (.goto 19, 17) := by decide +kernel
theorem c_101_17 : ax_code 101 17 = some (.iconst (-1000000), 19) := by decide +kernel
theorem c_101_19 : ax_code 101 19 = some (.ireturn, 20) := by decide +kernel
theorem c_102_0 : ax_code 102 0 = some (.aload 0, 1) := by decide +kernel
theorem c_102_1 : ax_code 102 1 = some (.iload 1, 2) := by decide +kernel
theorem c_102_2 : ax_code 102 2 = some (.invokevirtual 84, 5) := by decide +kernel
theorem c_102_5 : ax_code 102 5 = some (.ifCond .eq 17, 8) := by decide +kernel
theorem c_102_8 : ax_code 102 8 = some (.aload 0, 9) := by decide +kernel
theorem c_102_9 : ax_code 102 9 = some (.getfield 67, 12) := by decide +kernel
theorem c_102_12 : ax_code 102 12 = some (.iload 1, 13) := by decide +kernel
theorem c_102_13 : ax_code 102 13 = some (.iaload, 14) := by decide +kernel
theorem c_102_14 : ax_code 102 14 = some (.goto 19, 17) := by decide +kernel
theorem c_102_17 : ax_code 102 17 = some (.iconst (-1000000), 19) := by decide +kernel
theorem c_102_19 : ax_code 102 19 = some (.ireturn, 20) := by decide +kernel
theorem c_103_0 : ax_code 103 0 = some (.iconst 0, 1) := by decide +kernel
theorem c_103_1 : ax_code 103 1 = some (.istore 2, 2) := by decide +kernel
theorem c_103_2 : ax_code 103 2 = some (.iconst 0, 3) := by decide +kernel
theorem c_103_3 : ax_code 103 3 = some (.istore 3, 4) := by decide +kernel
theorem c_103_4 : ax_code 103 4 = some (.iload 3, 5) := by decide +kernel
theorem c_103_5 : ax_code 103 5 = some (.iconst 11, 7) := by decide +kernel
theorem c_103_7 : ax_code 103 7 = some (.if_icmp .ge 30, 10) := by decide +kernel
theorem c_103_10 : ax_code 103 10 = some (.aload 0, 11) := by decide +kernel
theorem c_103_11 : ax_code 103 11 = some (.iload 1, 12) := by decide +kernel
theorem c_103_12 : ax_code 103 12 = some (.iload 3, 13) := by decide +kernel
theorem c_103_13 : ax_code 103 13 = some (.invokevirtual 97, 16) := by decide +kernel
theorem c_103_16 : ax_code 103 16 = some (.iconst (-1000000), 18) := by decide +kernel
theorem c_103_18 : ax_code 103 18 = some (.if_icmp .ne 24, 21) := by decide +kernel
theorem c_103_21 : ax_code 103 21 = some (.iinc 2 (1), 24) := by decide +kernel
theorem c_103_24 : ax_code 103 24 = some (.iinc 3 (1), 27) := by decide +kernel
theorem c_103_27 : ax_code 103 27 = some (.goto 4, 30) := by decide +kernel
theorem c_103_30 : ax_code 103 30 = some (.iload 2, 31) := by decide +kernel
theorem c_103_31 : ax_code 103 31 = some (.ireturn, 32) := by decide +kernel
theorem c_104_0 : ax_code 104 0 = some (.iconst 0, 1) := by decide +kernel
theorem c_104_1 : ax_code 104 1 = some (.istore 2, 2) := by decide +kernel
theorem c_104_2 : ax_code 104 2 = some (.iconst 0, 3) := by decide +kernel
theorem c_104_3 : ax_code 104 3 = some (.istore 3, 4) := by decide +kernel
theorem c_104_4 : ax_code 104 4 = some (.iload 3, 5) := by decide +kernel
theorem c_104_5 : ax_code 104 5 = some (.aload 0, 6) := by decide +kernel
theorem c_104_6 : ax_code 104 6 = some (.getfield 64, 9) := by decide +kernel
theorem c_104_9 : ax_code 104 9 = some (.if_icmp .ge 30, 12) := by decide +kernel
theorem c_104_12 : ax_code 104 12 = some (.aload 0, 13) := by decide +kernel
theorem c_104_13 : ax_code 104 13 = some (.iload 3, 14) := by decide +kernel
theorem c_104_14 : ax_code 104 14 = some (.invokevirtual 102, 17) := by decide +kernel
theorem c_104_17 : ax_code 104 17 = some (.iload 1, 18) := by decide +kernel
theorem c_104_18 : ax_code 104 18 = some (.if_icmp .ne 24, 21) := by decide +kernel
theorem c_104_21 : ax_code 104 21 = some (.iinc 2 (1), 24) := by decide +kernel
theorem c_104_24 : ax_code 104 24 = some (.iinc 3 (1), 27) := by decide +kernel
theorem c_104_27 : ax_code 104 27 = some (.goto 4, 30) := by decide +kernel
theorem c_104_30 : ax_code 104 30 = some (.iload 2, 31) := by decide +kernel
theorem c_104_31 : ax_code 104 31 = some (.ireturn, 32) := by decide +kernel
theorem c_105_0 : ax_code 105 0 = some (.aload 0, 1) := by decide +kernel
theorem c_105_1 : ax_code 105 1 = some (.getfield 642, 4) := by decide +kernel
theorem c_105_4 : ax_code 105 4 = some (.getfield 257, 7) := by decide +kernel
theorem c_105_7 : ax_code 105 7 = some (.iload 1, 8) := by decide +kernel
theorem c_105_8 : ax_code 105 8 = some (.invokevirtual 84, 11) := by decide +kernel
theorem c_105_11 : ax_code 105 11 = some (.ifCond .eq 21, 14) := by decide +kernel
theorem c_105_14 : ax_code 105 14 = some (.iload 2, 15) := by decide +kernel
theorem c_105_15 : ax_code 105 15 = some (.invokestatic 82, 18) := by decide +kernel
theorem c_105_18 : ax_code 105 18 = some (.ifCond .ne 25, 21) := by decide +kernel
theorem c_105_21 : ax_code 105 21 = some (.ldc2_w 0, 24) := by decide +kernel
theorem c_105_24 : ax_code 105 24 = some (.lreturn, 25) := by decide +kernel
theorem c_105_25 : ax_code 105 25 = some (.aload 0, 26) := by decide +kernel
theorem c_105_26 : ax_code 105 26 = some (.getfield 642, 29) := by decide +kernel
theorem c_105_29 : ax_code 105 29 = some (.getfield 257, 32) := by decide +kernel
theorem c_105_32 : ax_code 105 32 = some (.iload 1, 33) := by decide +kernel
theorem c_105_33 : ax_code 105 33 = some (.iload 2, 34) := by decide +kernel
theorem c_105_34 : ax_code 105 34 = some (.invokevirtual 97, 37) := by decide +kernel
theorem c_105_37 : ax_code 105 37 = some (.iconst (-1000000), 39) := by decide +kernel
theorem c_105_39 : ax_code 105 39 = some (.if_icmp .ne 44, 42) := by decide +kernel
theorem c_105_42 : ax_code 105 42 = some (.lconst 0, 43) := by decide +kernel
theorem c_105_43 : ax_code 105 43 = some (.lreturn, 44) := by decide +kernel
theorem c_105_44 : ax_code 105 44 = some (.aload 0, 45) := by decide +kernel
theorem c_105_45 : ax_code 105 45 = some (.getfield 642, 48) := by decide +kernel
theorem c_105_48 : ax_code 105 48 = some (.getfield 257, 51) := by decide +kernel
theorem c_105_51 : ax_code 105 51 = some (.iload 1, 52) := by decide +kernel
theorem c_105_52 : ax_code 105 52 = some (.iload 2, 53) := by decide +kernel
theorem c_105_53 : ax_code 105 53 = some (.iconst (-1000000), 55) := by decide +kernel
theorem c_105_55 : ax_code 105 55 = some (.invokevirtual 83, 58) := by decide +kernel
theorem c_105_58 : ax_code 105 58 = some (.lconst 1, 59) := by decide +kernel
theorem c_105_59 : ax_code 105 59 = some (.lreturn, 60) := by decide +kernel
theorem c_106_0 : ax_code 106 0 = some (.iload 1, 1) := by decide +kernel
theorem c_106_1 : ax_code 106 1 = some (.ifCond .lt 23, 4) := by decide +kernel
theorem c_106_4 : ax_code 106 4 = some (.iload 1, 5) := by decide +kernel
theorem c_106_5 : ax_code 106 5 = some (.iconst 4, 6) := by decide +kernel
theorem c_106_6 : ax_code 106 6 = some (.if_icmp .ge 23, 9) := by decide +kernel
theorem c_106_9 : ax_code 106 9 = some (.iload 2, 10) := by decide +kernel
theorem c_106_10 : ax_code 106 10 = some (.invokestatic 88, 13) := by decide +kernel
theorem c_106_13 : ax_code 106 13 = some (.ifCond .eq 23, 16) := by decide +kernel
theorem c_106_16 : ax_code 106 16 = some (.iload 3, 17) := by decide +kernel
theorem c_106_17 : ax_code 106 17 = some (.invokestatic 89, 20) := by decide +kernel
theorem c_106_20 : ax_code 106 20 = some (.ifCond .ne 27, 23) := by decide +kernel
theorem c_106_23 : ax_code 106 23 = some (.ldc2_w 0, 26) := by decide +kernel
theorem c_106_26 : ax_code 106 26 = some (.lreturn, 27) := by decide +kernel
theorem c_106_27 : ax_code 106 27 = some (.aload 0, 28) := by decide +kernel
theorem c_106_28 : ax_code 106 28 = some (.getfield 642, 31) := by decide +kernel
theorem c_106_31 : ax_code 106 31 = some (.getfield 256, 34) := by decide +kernel
theorem c_106_34 : ax_code 106 34 = some (.invokevirtual 67, 37) := by decide +kernel
theorem c_106_37 : ax_code 106 37 = some (.ifCond .ne 44, 40) := by decide +kernel
theorem c_106_40 : ax_code 106 40 = some (.ldc2_w 4, 43) := by decide +kernel
theorem c_106_43 : ax_code 106 43 = some (.lreturn, 44) := by decide +kernel
theorem c_106_44 : ax_code 106 44 = some (.aload 0, 45) := by decide +kernel
theorem c_106_45 : ax_code 106 45 = some (.getfield 642, 48) := by decide +kernel
theorem c_106_48 : ax_code 106 48 = some (.getfield 256, 51) := by decide +kernel
theorem c_106_51 : ax_code 106 51 = some (.iload 1, 52) := by decide +kernel
theorem c_106_52 : ax_code 106 52 = some (.iload 2, 53) := by decide +kernel
theorem c_106_53 : ax_code 106 53 = some (.iload 3, 54) := by decide +kernel
theorem c_106_54 : ax_code 106 54 = some (.invokevirtual 75, 57) := by decide +kernel
theorem c_106_57 : ax_code 106 57 = some (.i2l, 58) := by decide +kernel
theorem c_106_58 : ax_code 106 58 = some (.lreturn, 59) := by decide +kernel
theorem c_107_0 : ax_code 107 0 = some (.aload 0, 1) := by decide +kernel
theorem c_107_1 : ax_code 107 1 = some (.getfield 642, 4) := by decide +kernel
theorem c_107_4 : ax_code 107 4 = some (.getfield 257, 7) := by decide +kernel
theorem c_107_7 : ax_code 107 7 = some (.iload 1, 8) := by decide +kernel
theorem c_107_8 : ax_code 107 8 = some (.invokevirtual 84, 11) := by decide +kernel
theorem c_107_11 : ax_code 107 11 = some (.ifCond .eq 28, 14) := by decide +kernel
theorem c_107_14 : ax_code 107 14 = some (.aload 0, 15) := by decide +kernel
theorem c_107_15 : ax_code 107 15 = some (.getfield 642, 18) := by decide +kernel
theorem c_107_18 : ax_code 107 18 = some (.getfield 257, 21) := by decide +kernel
theorem c_107_21 : ax_code 107 21 = some (.iload 2, 22) := by decide +kernel
theorem c_107_22 : ax_code 107 22 = some (.invokevirtual 84, 25) := by decide +kernel
theorem c_107_25 : ax_code 107 25 = some (.ifCond .ne 32, 28) := by decide +kernel
theorem c_107_28 : ax_code 107 28 = some (.ldc2_w 0, 31) := by decide +kernel
theorem c_107_31 : ax_code 107 31 = some (.lreturn, 32) := by decide +kernel
theorem c_107_32 : ax_code 107 32 = some (.aload 0, 33) := by decide +kernel
theorem c_107_33 : ax_code 107 33 = some (.getfield 642, 36) := by decide +kernel
theorem c_107_36 : ax_code 107 36 = some (.getfield 257, 39) := by decide +kernel
theorem c_107_39 : ax_code 107 39 = some (.iload 1, 40) := by decide +kernel
theorem c_107_40 : ax_code 107 40 = some (.iload 2, 41) := by decide +kernel
theorem c_107_41 : ax_code 107 41 = some (.invokevirtual 108, 44) := by decide +kernel
theorem c_107_44 : ax_code 107 44 = some (.i2l, 45) := by decide +kernel
theorem c_107_45 : ax_code 107 45 = some (.lreturn, 46) := by decide +kernel
theorem c_108_0 : ax_code 108 0 = some (.iconst 0, 1) := by decide +kernel
theorem c_108_1 : ax_code 108 1 = some (.istore 3, 2) := by decide +kernel
theorem c_108_2 : ax_code 108 2 = some (.iconst 0, 3) := by decide +kernel
theorem c_108_3 : ax_code 108 3 = some (.istore 4, 5) := by decide +kernel
theorem c_108_5 : ax_code 108 5 = some (.iload 4, 7) := by decide +kernel
theorem c_108_7 : ax_code 108 7 = some (.iconst 11, 9) := by decide +kernel
theorem c_108_9 : ax_code 108 9 = some (.if_icmp .ge 32, 12) := by decide +kernel
theorem c_108_12 : ax_code 108 12 = some (.aload 0, 13) := by decide +kernel
theorem c_108_13 : ax_code 108 13 = some (.iload 1, 14) := by decide +kernel
theorem c_108_14 : ax_code 108 14 = some (.iload 2, 15) := by decide +kernel
theorem c_108_15 : ax_code 108 15 = some (.iload 4, 17) := by decide +kernel
theorem c_108_17 : ax_code 108 17 = some (.invokevirtual 109, 20) := by decide +kernel
theorem c_108_20 : ax_code 108 20 = some (.ifCond .eq 26, 23) := by decide +kernel
theorem c_108_23 : ax_code 108 23 = some (.iinc 3 (1), 26) := by decide +kernel
theorem c_108_26 : ax_code 108 26 = some (.iinc 4 (1), 29) := by decide +kernel
theorem c_108_29 : ax_code 108 29 = some (.goto 5, 32) := by decide +kernel
theorem c_108_32 : ax_code 108 32 = some (.iload 3, 33) := by decide +kernel
theorem c_108_33 : ax_code 108 33 = some (.ireturn, 34) := by decide +kernel
theorem c_109_0 : ax_code 109 0 = some (.aload 0, 1) := by decide +kernel
theorem c_109_1 : ax_code 109 1 = some (.iload 1, 2) := by decide +kernel
theorem c_109_2 : ax_code 109 2 = some (.iload 3, 3) := by decide +kernel
theorem c_109_3 : ax_code 109 3 = some (.invokevirtual 97, 6) := by decide +kernel
theorem c_109_6 : ax_code 109 6 = some (.istore 4, 8) := by decide +kernel
theorem c_109_8 : ax_code 109 8 = some (.aload 0, 9) := by decide +kernel
theorem c_109_9 : ax_code 109 9 = some (.iload 2, 10) := by decide +kernel
theorem c_109_10 : ax_code 109 10 = some (.iload 3, 11) := by decide +kernel
theorem c_109_11 : ax_code 109 11 = some (.invokevirtual 97, 14) := by decide +kernel
theorem c_109_14 : ax_code 109 14 = some (.istore 5, 16) := by decide +kernel
theorem c_109_16 : ax_code 109 16 = some (.iload 4, 18) := by decide +kernel
theorem c_109_18 : ax_code 109 18 = some (.iconst (-1000000), 20) := by decide +kernel
theorem c_109_20 : ax_code 109 20 = some (.if_icmp .eq 41, 23) := by decide +kernel
theorem c_109_23 : ax_code 109 23 = some (.iload 5, 25) := by decide +kernel
theorem c_109_25 : ax_code 109 25 = some (.iconst (-1000000), 27) := by decide +kernel
theorem c_109_27 : ax_code 109 27 = some (.if_icmp .eq 41, 30) := by decide +kernel
theorem c_109_30 : ax_code 109 30 = some (.iload 4, 32) := by decide +kernel
theorem c_109_32 : ax_code 109 32 = some (.iload 5, 34) := by decide +kernel
theorem c_109_34 : ax_code 109 34 = some (.if_icmp .eq 41, 37) := by decide +kernel
theorem c_109_37 : ax_code 109 37 = some (.iconst 1, 38) := by decide +kernel
theorem c_109_38 : ax_code 109 38 = some (.goto 42, 41) := by decide +kernel
theorem c_109_41 : ax_code 109 41 = some (.iconst 0, 42) := by decide +kernel
theorem c_109_42 : ax_code 109 42 = some (.ireturn, 43) := by decide +kernel
theorem c_110_0 : ax_code 110 0 = some (.aload 0, 1) := by decide +kernel
theorem c_110_1 : ax_code 110 1 = some (.getfield 642, 4) := by decide +kernel
theorem c_110_4 : ax_code 110 4 = some (.getfield 257, 7) := by decide +kernel
theorem c_110_7 : ax_code 110 7 = some (.iload 1, 8) := by decide +kernel
theorem c_110_8 : ax_code 110 8 = some (.invokevirtual 84, 11) := by decide +kernel
theorem c_110_11 : ax_code 110 11 = some (.ifCond .eq 23, 14) := by decide +kernel
theorem c_110_14 : ax_code 110 14 = some (.iload 2, 15) := by decide +kernel
theorem c_110_15 : ax_code 110 15 = some (.ifCond .lt 23, 18) := by decide +kernel
theorem c_110_18 : ax_code 110 18 = some (.iload 2, 19) := by decide +kernel
theorem c_110_19 : ax_code 110 19 = some (.iconst 1, 20) := by decide +kernel
theorem c_110_20 : ax_code 110 20 = some (.if_icmp .le 27, 23) := by decide +kernel
theorem c_110_23 : ax_code 110 23 = some (.ldc2_w 0, 26) := by decide +kernel
theorem c_110_26 : ax_code 110 26 = some (.lreturn, 27) := by decide +kernel
theorem c_110_27 : ax_code 110 27 = some (.iload 2, 28) := by decide +kernel
theorem c_110_28 : ax_code 110 28 = some (.ifCond .ne 41, 31) := by decide +kernel
theorem c_110_31 : ax_code 110 31 = some (.aload 0, 32) := by decide +kernel
theorem c_110_32 : ax_code 110 32 = some (.getfield 642, 35) := by decide +kernel
theorem c_110_35 : ax_code 110 35 = some (.iload 1, 36) := by decide +kernel
theorem c_110_36 : ax_code 110 36 = some (.invokevirtual 111, 39) := by decide +kernel
theorem c_110_39 : ax_code 110 39 = some (.i2l, 40) := by decide +kernel
theorem c_110_40 : ax_code 110 40 = some (.lreturn, 41) := by decide +kernel
theorem c_110_41 : ax_code 110 41 = some (.aload 0, 42) := by decide +kernel
theorem c_110_42 : ax_code 110 42 = some (.getfield 642, 45) := by decide +kernel
theorem c_110_45 : ax_code 110 45 = some (.iload 1, 46) := by decide +kernel
theorem c_110_46 : ax_code 110 46 = some (.invokevirtual 113, 49) := by decide +kernel
theorem c_110_49 : ax_code 110 49 = some (.ifCond .eq 56, 52) := by decide +kernel
theorem c_110_52 : ax_code 110 52 = some (.lconst 1, 53) := by decide +kernel
theorem c_110_53 : ax_code 110 53 = some (.goto 57, 56) := by decide +kernel
theorem c_110_56 : ax_code 110 56 = some (.lconst 0, 57) := by decide +kernel
theorem c_110_57 : ax_code 110 57 = some (.lreturn, 58) := by decide +kernel
theorem c_111_0 : ax_code 111 0 = some (.iconst 0, 1) := by decide +kernel
theorem c_111_1 : ax_code 111 1 = some (.istore 2, 2) := by decide +kernel
theorem c_111_2 : ax_code 111 2 = some (.iconst 0, 3) := by decide +kernel
theorem c_111_3 : ax_code 111 3 = some (.istore 3, 4) := by decide +kernel
theorem c_111_4 : ax_code 111 4 = some (.iload 3, 5) := by decide +kernel
theorem c_111_5 : ax_code 111 5 = some (.iconst 11, 7) := by decide +kernel
theorem c_111_7 : ax_code 111 7 = some (.if_icmp .ge 36, 10) := by decide +kernel
theorem c_111_10 : ax_code 111 10 = some (.iload 2, 11) := by decide +kernel
theorem c_111_11 : ax_code 111 11 = some (.aload 0, 12) := by decide +kernel
theorem c_111_12 : ax_code 111 12 = some (.getfield 256, 15) := by decide +kernel
theorem c_111_15 : ax_code 111 15 = some (.iload 3, 16) := by decide +kernel
theorem c_111_16 : ax_code 111 16 = some (.aload 0, 17) := by decide +kernel
theorem c_111_17 : ax_code 111 17 = some (.getfield 257, 20) := by decide +kernel
theorem c_111_20 : ax_code 111 20 = some (.iload 1, 21) := by decide +kernel
theorem c_111_21 : ax_code 111 21 = some (.iload 3, 22) := by decide +kernel
theorem c_111_22 : ax_code 111 22 = some (.invokevirtual 97, 25) := by decide +kernel
theorem c_111_25 : ax_code 111 25 = some (.invokevirtual 112, 28) := by decide +kernel
theorem c_111_28 : ax_code 111 28 = some (.iadd, 29) := by decide +kernel
theorem c_111_29 : ax_code 111 29 = some (.istore 2, 30) := by decide +kernel
theorem c_111_30 : ax_code 111 30 = some (.iinc 3 (1), 33) := by decide +kernel
theorem c_111_33 : ax_code 111 33 = some (.goto 4, 36) := by decide +kernel
theorem c_111_36 : ax_code 111 36 = some (.iload 2, 37) := by decide +kernel
theorem c_111_37 : ax_code 111 37 = some (.ireturn, 38) := by decide +kernel
theorem c_112_0 : ax_code 112 0 = some (.iload 2, 1) := by decide +kernel
theorem c_112_1 : ax_code 112 1 = some (.iconst (-1000000), 3) := by decide +kernel
theorem c_112_3 : ax_code 112 3 = some (.if_icmp .ne 10, 6) := by decide +kernel
theorem c_112_6 : ax_code 112 6 = some (.iconst 0, 7) := by decide +kernel
theorem c_112_7 : ax_code 112 7 = some (.goto 11, 10) := by decide +kernel
theorem c_112_10 : ax_code 112 10 = some (.iload 2, 11) := by decide +kernel
theorem c_112_11 : ax_code 112 11 = some (.istore 3, 12) := by decide +kernel
theorem c_112_12 : ax_code 112 12 = some (.iload 1, 13) := by decide +kernel
theorem c_112_13 : ax_code 112 13 = some (.tableswitch 73 (8) (10) #[40, 53, 64], 40) := by decide +kernel
theorem c_112_40 : ax_code 112 40 = some (.iconst (-10), 42) := by decide +kernel
theorem c_112_42 : ax_code 112 42 = some (.iload 3, 43) := by decide +kernel
theorem c_112_43 : ax_code 112 43 = some (.aload 0, 44) := by decide +kernel
theorem c_112_44 : ax_code 112 44 = some (.getfield 331, 47) := by decide +kernel
theorem c_112_47 : ax_code 112 47 = some (.isub, 48) := by decide +kernel
theorem c_112_48 : ax_code 112 48 = some (.invokedynamic 2, 51) := by decide +kernel
theorem c_112_51 : ax_code 112 51 = some (.imul, 52) := by decide +kernel
theorem c_112_52 : ax_code 112 52 = some (.ireturn, 53) := by decide +kernel
theorem c_112_53 : ax_code 112 53 = some (.iload 3, 54) := by decide +kernel
theorem c_112_54 : ax_code 112 54 = some (.aload 0, 55) := by decide +kernel
theorem c_112_55 : ax_code 112 55 = some (.getfield 332, 58) := by decide +kernel
theorem c_112_58 : ax_code 112 58 = some (.isub, 59) := by decide +kernel
theorem c_112_59 : ax_code 112 59 = some (.invokedynamic 2, 62) := by decide +kernel
theorem c_112_62 : ax_code 112 62 = some (.ineg, 63) := by decide +kernel
theorem c_112_63 : ax_code 112 63 = some (.ireturn, 64) := by decide +kernel
theorem c_112_64 : ax_code 112 64 = some (.iload 3, 65) := by decide +kernel
theorem c_112_65 : ax_code 112 65 = some (.aload 0, 66) := by decide +kernel
theorem c_112_66 : ax_code 112 66 = some (.getfield 333, 69) := by decide +kernel
theorem c_112_69 : ax_code 112 69 = some (.invokedynamic 1, 72) := by decide +kernel
theorem c_112_72 : ax_code 112 72 = some (.ireturn, 73) := by decide +kernel
theorem c_112_73 : ax_code 112 73 = some (.iload 1, 74) := by decide +kernel
theorem c_112_74 : ax_code 112 74 = some (.invokestatic 74, 77) := by decide +kernel
theorem c_112_77 : ax_code 112 77 = some (.ifCond .eq 91, 80) := by decide +kernel
theorem c_112_80 : ax_code 112 80 = some (.aload 0, 81) := by decide +kernel
theorem c_112_81 : ax_code 112 81 = some (.getfield 330, 84) := by decide +kernel
theorem c_112_84 : ax_code 112 84 = some (.iload 1, 85) := by decide +kernel
theorem c_112_85 : ax_code 112 85 = some (.iaload, 86) := by decide +kernel
theorem c_112_86 : ax_code 112 86 = some (.iload 3, 87) := by decide +kernel
theorem c_112_87 : ax_code 112 87 = some (.imul, 88) := by decide +kernel
theorem c_112_88 : ax_code 112 88 = some (.goto 92, 91) := by decide +kernel
theorem c_112_91 : ax_code 112 91 = some (.iconst 0, 92) := by decide +kernel
theorem c_112_92 : ax_code 112 92 = some (.ireturn, 93) := by decide +kernel
theorem c_113_0 : ax_code 113 0 = some (.aload 0, 1) := by decide +kernel
theorem c_113_1 : ax_code 113 1 = some (.iload 1, 2) := by decide +kernel
theorem c_113_2 : ax_code 113 2 = some (.invokevirtual 111, 5) := by decide +kernel
theorem c_113_5 : ax_code 113 5 = some (.aload 0, 6) := by decide +kernel
theorem c_113_6 : ax_code 113 6 = some (.getfield 256, 9) := by decide +kernel
theorem c_113_9 : ax_code 113 9 = some (.invokevirtual 114, 12) := by decide +kernel
theorem c_113_12 : ax_code 113 12 = some (.if_icmp .ge 19, 15) := by decide +kernel
theorem c_113_15 : ax_code 113 15 = some (.iconst 1, 16) := by decide +kernel
theorem c_113_16 : ax_code 113 16 = some (.goto 20, 19) := by decide +kernel
theorem c_113_19 : ax_code 113 19 = some (.iconst 0, 20) := by decide +kernel
theorem c_113_20 : ax_code 113 20 = some (.ireturn, 21) := by decide +kernel
theorem c_114_0 : ax_code 114 0 = some (.aload 0, 1) := by decide +kernel
theorem c_114_1 : ax_code 114 1 = some (.getfield 334, 4) := by decide +kernel
theorem c_114_4 : ax_code 114 4 = some (.ireturn, 5) := by decide +kernel
theorem c_115_0 : ax_code 115 0 = some (.aload 0, 1) := by decide +kernel
theorem c_115_1 : ax_code 115 1 = some (.getfield 642, 4) := by decide +kernel
theorem c_115_4 : ax_code 115 4 = some (.getfield 257, 7) := by decide +kernel
theorem c_115_7 : ax_code 115 7 = some (.iload 1, 8) := by decide +kernel
theorem c_115_8 : ax_code 115 8 = some (.invokevirtual 84, 11) := by decide +kernel
theorem c_115_11 : ax_code 115 11 = some (.ifCond .eq 37, 14) := by decide +kernel
theorem c_115_14 : ax_code 115 14 = some (.aload 0, 15) := by decide +kernel
theorem c_115_15 : ax_code 115 15 = some (.getfield 642, 18) := by decide +kernel
theorem c_115_18 : ax_code 115 18 = some (.getfield 257, 21) := by decide +kernel
theorem c_115_21 : ax_code 115 21 = some (.iload 2, 22) := by decide +kernel
theorem c_115_22 : ax_code 115 22 = some (.invokevirtual 84, 25) := by decide +kernel
theorem c_115_25 : ax_code 115 25 = some (.ifCond .eq 37, 28) := by decide +kernel
theorem c_115_28 : ax_code 115 28 = some (.iload 3, 29) := by decide +kernel
theorem c_115_29 : ax_code 115 29 = some (.ifCond .lt 37, 32) := by decide +kernel
theorem c_115_32 : ax_code 115 32 = some (.iload 3, 33) := by decide +kernel
theorem c_115_33 : ax_code 115 33 = some (.iconst 2, 34) := by decide +kernel
theorem c_115_34 : ax_code 115 34 = some (.if_icmp .le 41, 37) := by decide +kernel
theorem c_115_37 : ax_code 115 37 = some (.ldc2_w 0, 40) := by decide +kernel
theorem c_115_40 : ax_code 115 40 = some (.lreturn, 41) := by decide +kernel
theorem c_115_41 : ax_code 115 41 = some (.aload 0, 42) := by decide +kernel
theorem c_115_42 : ax_code 115 42 = some (.getfield 642, 45) := by decide +kernel
theorem c_115_45 : ax_code 115 45 = some (.iload 1, 46) := by decide +kernel
theorem c_115_46 : ax_code 115 46 = some (.invokevirtual 113, 49) := by decide +kernel
theorem c_115_49 : ax_code 115 49 = some (.ifCond .ne 63, 52) := by decide +kernel
theorem c_115_52 : ax_code 115 52 = some (.aload 0, 53) := by decide +kernel
theorem c_115_53 : ax_code 115 53 = some (.getfield 642, 56) := by decide +kernel
theorem c_115_56 : ax_code 115 56 = some (.iload 2, 57) := by decide +kernel
theorem c_115_57 : ax_code 115 57 = some (.invokevirtual 113, 60) := by decide +kernel
theorem c_115_60 : ax_code 115 60 = some (.ifCond .ne 67, 63) := by decide +kernel
theorem c_115_63 : ax_code 115 63 = some (.ldc2_w 4, 66) := by decide +kernel
theorem c_115_66 : ax_code 115 66 = some (.lreturn, 67) := by decide +kernel
theorem c_115_67 : ax_code 115 67 = some (.aload 0, 68) := by decide +kernel
theorem c_115_68 : ax_code 115 68 = some (.getfield 647, 71) := by decide +kernel
theorem c_115_71 : ax_code 115 71 = some (.aload 0, 72) := by decide +kernel
theorem c_115_72 : ax_code 115 72 = some (.getfield 642, 75) := by decide +kernel
theorem c_115_75 : ax_code 115 75 = some (.iload 1, 76) := by decide +kernel
theorem c_115_76 : ax_code 115 76 = some (.iload 2, 77) := by decide +kernel
theorem c_115_77 : ax_code 115 77 = some (.invokevirtual 116, 80) := by decide +kernel
theorem c_115_80 : ax_code 115 80 = some (.iload 3, 81) := by decide +kernel
theorem c_115_81 : ax_code 115 81 = some (.iconst 2, 82) := by decide +kernel
theorem c_115_82 : ax_code 115 82 = some (.if_icmp .ne 94, 85) := by decide +kernel
theorem c_115_85 : ax_code 115 85 = some (.aload 0, 86) := by decide +kernel
theorem c_115_86 : ax_code 115 86 = some (.getfield 647, 89) := by decide +kernel
theorem c_115_89 : ax_code 115 89 = some (.invokevirtual 121, 92) := by decide +kernel
theorem c_115_92 : ax_code 115 92 = some (.i2l, 93) := by decide +kernel
theorem c_115_93 : ax_code 115 93 = some (.lreturn, 94) := by decide +kernel
theorem c_115_94 : ax_code 115 94 = some (.aload 0, 95) := by decide +kernel
theorem c_115_95 : ax_code 115 95 = some (.getfield 647, 98) := by decide +kernel
theorem c_115_98 : ax_code 115 98 = some (.invokevirtual 121, 101) := by decide +kernel
theorem c_115_101 : ax_code 115 101 = some (.ifCond .ne 108, 104) := by decide +kernel
theorem c_115_104 : ax_code 115 104 = some (.ldc2_w 5, 107) := by decide +kernel
theorem c_115_107 : ax_code 115 107 = some (.lreturn, 108) := by decide +kernel
theorem c_115_108 : ax_code 115 108 = some (.iload 3, 109) := by decide +kernel
theorem c_115_109 : ax_code 115 109 = some (.ifCond .ne 123, 112) := by decide +kernel
theorem c_115_112 : ax_code 115 112 = some (.aload 0, 113) := by decide +kernel
theorem c_115_113 : ax_code 115 113 = some (.getfield 647, 116) := by decide +kernel
theorem c_115_116 : ax_code 115 116 = some (.invokevirtual 122, 119) := by decide +kernel
theorem c_115_119 : ax_code 115 119 = some (.i2l, 120) := by decide +kernel
theorem c_115_120 : ax_code 115 120 = some (.goto 134, 123) := by decide +kernel
theorem c_115_123 : ax_code 115 123 = some (.aload 0, 124) := by decide +kernel
theorem c_115_124 : ax_code 115 124 = some (.getfield 647, 127) := by decide +kernel
theorem c_115_127 : ax_code 115 127 = some (.invokevirtual 122, 130) := by decide +kernel
theorem c_115_130 : ax_code 115 130 = some (.invokestatic 120, 133) := by decide +kernel
theorem c_115_133 : ax_code 115 133 = some (.i2l, 134) := by decide +kernel
theorem c_115_134 : ax_code 115 134 = some (.lreturn, 135) := by decide +kernel
theorem c_116_0 : ax_code 116 0 = some (.aload 0, 1) := by decide +kernel
theorem c_116_1 : ax_code 116 1 = some (.invokevirtual 117, 4) := by decide +kernel
theorem c_116_4 : ax_code 116 4 = some (.iconst 0, 5) := by decide +kernel
theorem c_116_5 : ax_code 116 5 = some (.istore 4, 7) := by decide +kernel
theorem c_116_7 : ax_code 116 7 = some (.iconst 0, 8) := by decide +kernel
theorem c_116_8 : ax_code 116 8 = some (.istore 5, 10) := by decide +kernel
theorem c_116_10 : ax_code 116 10 = some (.iload 5, 12) := by decide +kernel
theorem c_116_12 : ax_code 116 12 = some (.iconst 11, 14) := by decide +kernel
theorem c_116_14 : ax_code 116 14 = some (.if_icmp .ge 96, 17) := by decide +kernel
theorem c_116_17 : ax_code 116 17 = some (.aload 1, 18) := by decide +kernel
theorem c_116_18 : ax_code 116 18 = some (.getfield 257, 21) := by decide +kernel
theorem c_116_21 : ax_code 116 21 = some (.iload 2, 22) := by decide +kernel
theorem c_116_22 : ax_code 116 22 = some (.iload 3, 23) := by decide +kernel
theorem c_116_23 : ax_code 116 23 = some (.iload 5, 25) := by decide +kernel
theorem c_116_25 : ax_code 116 25 = some (.invokevirtual 109, 28) := by decide +kernel
theorem c_116_28 : ax_code 116 28 = some (.ifCond .eq 90, 31) := by decide +kernel
theorem c_116_31 : ax_code 116 31 = some (.iload 4, 33) := by decide +kernel
theorem c_116_33 : ax_code 116 33 = some (.iconst 1, 34) := by decide +kernel
theorem c_116_34 : ax_code 116 34 = some (.iload 5, 36) := by decide +kernel
theorem c_116_36 : ax_code 116 36 = some (.ishl, 37) := by decide +kernel
theorem c_116_37 : ax_code 116 37 = some (.ior, 38) := by decide +kernel
theorem c_116_38 : ax_code 116 38 = some (.istore 4, 40) := by decide +kernel
theorem c_116_40 : ax_code 116 40 = some (.aload 1, 41) := by decide +kernel
theorem c_116_41 : ax_code 116 41 = some (.getfield 256, 44) := by decide +kernel
theorem c_116_44 : ax_code 116 44 = some (.iload 5, 46) := by decide +kernel
theorem c_116_46 : ax_code 116 46 = some (.aload 1, 47) := by decide +kernel
theorem c_116_47 : ax_code 116 47 = some (.getfield 257, 50) := by decide +kernel
theorem c_116_50 : ax_code 116 50 = some (.iload 3, 51) := by decide +kernel
theorem c_116_51 : ax_code 116 51 = some (.iload 5, 53) := by decide +kernel
theorem c_116_53 : ax_code 116 53 = some (.invokevirtual 97, 56) := by decide +kernel
theorem c_116_56 : ax_code 116 56 = some (.invokevirtual 112, 59) := by decide +kernel
theorem c_116_59 : ax_code 116 59 = some (.istore 6, 61) := by decide +kernel
theorem c_116_61 : ax_code 116 61 = some (.aload 0, 62) := by decide +kernel
theorem c_116_62 : ax_code 116 62 = some (.getfield 512, 65) := by decide +kernel
theorem c_116_65 : ax_code 116 65 = some (.iload 5, 67) := by decide +kernel
theorem c_116_67 : ax_code 116 67 = some (.iload 6, 69) := by decide +kernel
theorem c_116_69 : ax_code 116 69 = some (.aload 1, 70) := by decide +kernel
theorem c_116_70 : ax_code 116 70 = some (.getfield 256, 73) := by decide +kernel
theorem c_116_73 : ax_code 116 73 = some (.iload 5, 75) := by decide +kernel
theorem c_116_75 : ax_code 116 75 = some (.aload 1, 76) := by decide +kernel
theorem c_116_76 : ax_code 116 76 = some (.getfield 257, 79) := by decide +kernel
theorem c_116_79 : ax_code 116 79 = some (.iload 2, 80) := by decide +kernel
theorem c_116_80 : ax_code 116 80 = some (.iload 5, 82) := by decide +kernel
theorem c_116_82 : ax_code 116 82 = some (.invokevirtual 97, 85) := by decide +kernel
theorem c_116_85 : ax_code 116 85 = some (.invokevirtual 112, 88) := by decide +kernel
theorem c_116_88 : ax_code 116 88 = some (.isub, 89) := by decide +kernel
theorem c_116_89 : ax_code 116 89 = some (.iastore, 90) := by decide +kernel
theorem c_116_90 : ax_code 116 90 = some (.iinc 5 (1), 93) := by decide +kernel
theorem c_116_93 : ax_code 116 93 = some (.goto 10, 96) := by decide +kernel
theorem c_116_96 : ax_code 116 96 = some (.aload 1, 97) := by decide +kernel
theorem c_116_97 : ax_code 116 97 = some (.getfield 256, 100) := by decide +kernel
theorem c_116_100 : ax_code 116 100 = some (.invokevirtual 114, 103) := by decide +kernel
theorem c_116_103 : ax_code 116 103 = some (.aload 1, 104) := by decide +kernel
theorem c_116_104 : ax_code 116 104 = some (.iload 2, 105) := by decide +kernel
theorem c_116_105 : ax_code 116 105 = some (.invokevirtual 111, 108) := by decide +kernel
theorem c_116_108 : ax_code 116 108 = some (.isub, 109) := by decide +kernel
theorem c_116_109 : ax_code 116 109 = some (.istore 5, 111) := by decide +kernel
theorem c_116_111 : ax_code 116 111 = some (.iconst 1, 112) := by decide +kernel
theorem c_116_112 : ax_code 116 112 = some (.istore 6, 114) := by decide +kernel
theorem c_116_114 : ax_code 116 114 = some (.iload 6, 116) := by decide +kernel
theorem c_116_116 : ax_code 116 116 = some (.iconst 2048, 119) := by decide +kernel
theorem c_116_119 : ax_code 116 119 = some (.if_icmp .ge 190, 122) := by decide +kernel
theorem c_116_122 : ax_code 116 122 = some (.iload 6, 124) := by decide +kernel
theorem c_116_124 : ax_code 116 124 = some (.iload 4, 126) := by decide +kernel
theorem c_116_126 : ax_code 116 126 = some (.iconst (-1), 127) := by decide +kernel
theorem c_116_127 : ax_code 116 127 = some (.ixor, 128) := by decide +kernel
theorem c_116_128 : ax_code 116 128 = some (.iand, 129) := by decide +kernel
theorem c_116_129 : ax_code 116 129 = some (.ifCond .ne 184, 132) := by decide +kernel
theorem c_116_132 : ax_code 116 132 = some (.iload 6, 134) := by decide +kernel
theorem c_116_134 : ax_code 116 134 = some (.invokestatic 118, 137) := by decide +kernel
theorem c_116_137 : ax_code 116 137 = some (.istore 7, 139) := by decide +kernel
theorem c_116_139 : ax_code 116 139 = some (.aload 0, 140) := by decide +kernel
theorem c_116_140 : ax_code 116 140 = some (.getfield 513, 143) := by decide +kernel
theorem c_116_143 : ax_code 116 143 = some (.iload 6, 145) := by decide +kernel
theorem c_116_145 : ax_code 116 145 = some (.aload 0, 146) := by decide +kernel
theorem c_116_146 : ax_code 116 146 = some (.getfield 513, 149) := by decide +kernel
theorem c_116_149 : ax_code 116 149 = some (.iload 6, 151) := by decide +kernel
theorem c_116_151 : ax_code 116 151 = some (.iload 6, 153) := by decide +kernel
theorem c_116_153 : ax_code 116 153 = some (.iconst 1, 154) := by decide +kernel
theorem c_116_154 : ax_code 116 154 = some (.isub, 155) := by decide +kernel
theorem c_116_155 : ax_code 116 155 = some (.iand, 156) := by decide +kernel
theorem c_116_156 : ax_code 116 156 = some (.iaload, 157) := by decide +kernel
theorem c_116_157 : ax_code 116 157 = some (.aload 0, 158) := by decide +kernel
theorem c_116_158 : ax_code 116 158 = some (.getfield 512, 161) := by decide +kernel
theorem c_116_161 : ax_code 116 161 = some (.iload 7, 163) := by decide +kernel
theorem c_116_163 : ax_code 116 163 = some (.iaload, 164) := by decide +kernel
theorem c_116_164 : ax_code 116 164 = some (.iadd, 165) := by decide +kernel
theorem c_116_165 : ax_code 116 165 = some (.iastore, 166) := by decide +kernel
theorem c_116_166 : ax_code 116 166 = some (.aload 0, 167) := by decide +kernel
theorem c_116_167 : ax_code 116 167 = some (.getfield 513, 170) := by decide +kernel
theorem c_116_170 : ax_code 116 170 = some (.iload 6, 172) := by decide +kernel
theorem c_116_172 : ax_code 116 172 = some (.iaload, 173) := by decide +kernel
theorem c_116_173 : ax_code 116 173 = some (.iload 5, 175) := by decide +kernel
theorem c_116_175 : ax_code 116 175 = some (.if_icmp .ge 184, 178) := by decide +kernel
theorem c_116_178 : ax_code 116 178 = some (.aload 0, 179) := by decide +kernel
theorem c_116_179 : ax_code 116 179 = some (.iload 6, 181) := by decide +kernel
theorem c_116_181 : ax_code 116 181 = some (.invokevirtual 119, 184) := by decide +kernel
theorem c_116_184 : ax_code 116 184 = some (.iinc 6 (1), 187) := by decide +kernel
theorem c_116_187 : ax_code 116 187 = some (.goto 114, 190) := by decide +kernel
theorem c_116_190 : ax_code 116 190 = some (.return_, 191) := by decide +kernel
theorem c_117_0 : ax_code 117 0 = some (.aload 0, 1) := by decide +kernel
theorem c_117_1 : ax_code 117 1 = some (.iconst (-1000000), 3) := by decide +kernel
theorem c_117_3 : ax_code 117 3 = some (.putfield 514, 6) := by decide +kernel
theorem c_117_6 : ax_code 117 6 = some (.aload 0, 7) := by decide +kernel
theorem c_117_7 : ax_code 117 7 = some (.iconst 13, 9) := by decide +kernel
theorem c_117_9 : ax_code 117 9 = some (.putfield 515, 12) := by decide +kernel
theorem c_117_12 : ax_code 117 12 = some (.aload 0, 13) := by decide +kernel
theorem c_117_13 : ax_code 117 13 = some (.iconst 0, 14) := by decide +kernel
theorem c_117_14 : ax_code 117 14 = some (.putfield 516, 17) := by decide +kernel
theorem c_117_17 : ax_code 117 17 = some (.aload 0, 18) := by decide +kernel
theorem c_117_18 : ax_code 117 18 = some (.getfield 513, 21) := by decide +kernel
theorem c_117_21 : ax_code 117 21 = some (.iconst 0, 22) := by decide +kernel
theorem c_117_22 : ax_code 117 22 = some (.iconst 0, 23) := by decide +kernel
theorem c_117_23 : ax_code 117 23 = some (.iastore, 24) := by decide +kernel
theorem c_117_24 : ax_code 117 24 = some (.return_, 25) := by decide +kernel
theorem c_118_0 : ax_code 118 0 = some (.iload 0, 1) := by decide +kernel
theorem c_118_1 : ax_code 118 1 = some (.iconst (-1), 2) := by decide +kernel
theorem c_118_2 : ax_code 118 2 = some (.ixor, 3) := by decide +kernel
theorem c_118_3 : ax_code 118 3 = some (.iload 0, 4) := by decide +kernel
theorem c_118_4 : ax_code 118 4 = some (.iconst 1, 5) := by decide +kernel
theorem c_118_5 : ax_code 118 5 = some (.isub, 6) := by decide +kernel
theorem c_118_6 : ax_code 118 6 = some (.iand, 7) := by decide +kernel
theorem c_118_7 : ax_code 118 7 = some (.istore 0, 8) := by decide +kernel
theorem c_118_8 : ax_code 118 8 = some (.iload 0, 9) := by decide +kernel
theorem c_118_9 : ax_code 118 9 = some (.ifCond .gt 17, 12) := by decide +kernel
theorem c_118_12 : ax_code 118 12 = some (.iload 0, 13) := by decide +kernel
theorem c_118_13 : ax_code 118 13 = some (.iconst 32, 15) := by decide +kernel
theorem c_118_15 : ax_code 118 15 = some (.iand, 16) := by decide +kernel
theorem c_118_16 : ax_code 118 16 = some (.ireturn, 17) := by decide +kernel
theorem c_118_17 : ax_code 118 17 = some (.iconst 1, 18) := by decide +kernel
theorem c_118_18 : ax_code 118 18 = some (.istore 1, 19) := by decide +kernel
theorem c_118_19 : ax_code 118 19 = some (.iload 0, 20) := by decide +kernel
theorem c_118_20 : ax_code 118 20 = some (.iconst 65536, 23) := by decide +kernel
theorem c_118_23 : ax_code 118 23 = some (.if_icmp .le 34, 26) := by decide +kernel
theorem c_118_26 : ax_code 118 26 = some (.iinc 1 (16), 29) := by decide +kernel
theorem c_118_29 : ax_code 118 29 = some (.iload 0, 30) := by decide +kernel
theorem c_118_30 : ax_code 118 30 = some (.iconst 16, 32) := by decide +kernel
theorem c_118_32 : ax_code 118 32 = some (.iushr, 33) := by decide +kernel
theorem c_118_33 : ax_code 118 33 = some (.istore 0, 34) := by decide +kernel
theorem c_118_34 : ax_code 118 34 = some (.iload 0, 35) := by decide +kernel
theorem c_118_35 : ax_code 118 35 = some (.iconst 256, 38) := by decide +kernel
theorem c_118_38 : ax_code 118 38 = some (.if_icmp .le 49, 41) := by decide +kernel
theorem c_118_41 : ax_code 118 41 = some (.iinc 1 (8), 44) := by decide +kernel
theorem c_118_44 : ax_code 118 44 = some (.iload 0, 45) := by decide +kernel
theorem c_118_45 : ax_code 118 45 = some (.iconst 8, 47) := by decide +kernel
theorem c_118_47 : ax_code 118 47 = some (.iushr, 48) := by decide +kernel
theorem c_118_48 : ax_code 118 48 = some (.istore 0, 49) := by decide +kernel
theorem c_118_49 : ax_code 118 49 = some (.iload 0, 50) := by decide +kernel
theorem c_118_50 : ax_code 118 50 = some (.iconst 16, 52) := by decide +kernel
theorem c_118_52 : ax_code 118 52 = some (.if_icmp .le 62, 55) := by decide +kernel
theorem c_118_55 : ax_code 118 55 = some (.iinc 1 (4), 58) := by decide +kernel
theorem c_118_58 : ax_code 118 58 = some (.iload 0, 59) := by decide +kernel
theorem c_118_59 : ax_code 118 59 = some (.iconst 4, 60) := by decide +kernel
theorem c_118_60 : ax_code 118 60 = some (.iushr, 61) := by decide +kernel
theorem c_118_61 : ax_code 118 61 = some (.istore 0, 62) := by decide +kernel
theorem c_118_62 : ax_code 118 62 = some (.iload 0, 63) := by decide +kernel
theorem c_118_63 : ax_code 118 63 = some (.iconst 4, 64) := by decide +kernel
theorem c_118_64 : ax_code 118 64 = some (.if_icmp .le 74, 67) := by decide +kernel
theorem c_118_67 : ax_code 118 67 = some (.iinc 1 (2), 70) := by decide +kernel
theorem c_118_70 : ax_code 118 70 = some (.iload 0, 71) := by decide +kernel
theorem c_118_71 : ax_code 118 71 = some (.iconst 2, 72) := by decide +kernel
theorem c_118_72 : ax_code 118 72 = some (.iushr, 73) := by decide +kernel
theorem c_118_73 : ax_code 118 73 = some (.istore 0, 74) := by decide +kernel
theorem c_118_74 : ax_code 118 74 = some (.iload 1, 75) := by decide +kernel
theorem c_118_75 : ax_code 118 75 = some (.iload 0, 76) := by decide +kernel
theorem c_118_76 : ax_code 118 76 = some (.iconst 1, 77) := by decide +kernel
theorem c_118_77 : ax_code 118 77 = some (.iushr, 78) := by decide +kernel
theorem c_118_78 : ax_code 118 78 = some (.iadd, 79) := by decide +kernel
theorem c_118_79 : ax_code 118 79 = some (.ireturn, 80) := by decide +kernel
theorem c_119_0 : ax_code 119 0 = some (.iload 1, 1) := by decide +kernel
theorem c_119_1 : ax_code 119 1 = some (.invokestatic 120, 4) := by decide +kernel
theorem c_119_4 : ax_code 119 4 = some (.istore 2, 5) := by decide +kernel
theorem c_119_5 : ax_code 119 5 = some (.iload 2, 6) := by decide +kernel
theorem c_119_6 : ax_code 119 6 = some (.aload 0, 7) := by decide +kernel
theorem c_119_7 : ax_code 119 7 = some (.getfield 515, 10) := by decide +kernel
theorem c_119_10 : ax_code 119 10 = some (.if_icmp .ge 28, 13) := by decide +kernel
theorem c_119_13 : ax_code 119 13 = some (.aload 0, 14) := by decide +kernel
theorem c_119_14 : ax_code 119 14 = some (.iload 2, 15) := by decide +kernel
theorem c_119_15 : ax_code 119 15 = some (.putfield 515, 18) := by decide +kernel
theorem c_119_18 : ax_code 119 18 = some (.aload 0, 19) := by decide +kernel
theorem c_119_19 : ax_code 119 19 = some (.iload 1, 20) := by decide +kernel
theorem c_119_20 : ax_code 119 20 = some (.putfield 514, 23) := by decide +kernel
theorem c_119_23 : ax_code 119 23 = some (.aload 0, 24) := by decide +kernel
theorem c_119_24 : ax_code 119 24 = some (.iconst 0, 25) := by decide +kernel
theorem c_119_25 : ax_code 119 25 = some (.putfield 516, 28) := by decide +kernel
theorem c_119_28 : ax_code 119 28 = some (.iload 2, 29) := by decide +kernel
theorem c_119_29 : ax_code 119 29 = some (.aload 0, 30) := by decide +kernel
theorem c_119_30 : ax_code 119 30 = some (.getfield 515, 33) := by decide +kernel
theorem c_119_33 : ax_code 119 33 = some (.if_icmp .ne 46, 36) := by decide +kernel
theorem c_119_36 : ax_code 119 36 = some (.aload 0, 37) := by decide +kernel
theorem c_119_37 : ax_code 119 37 = some (.dup, 38) := by decide +kernel
theorem c_119_38 : ax_code 119 38 = some (.getfield 516, 41) := by decide +kernel
theorem c_119_41 : ax_code 119 41 = some (.iconst 1, 42) := by decide +kernel
theorem c_119_42 : ax_code 119 42 = some (.iadd, 43) := by decide +kernel
theorem c_119_43 : ax_code 119 43 = some (.putfield 516, 46) := by decide +kernel
theorem c_119_46 : ax_code 119 46 = some (.return_, 47) := by decide +kernel
theorem c_120_0 : ax_code 120 0 = some (.iload 0, 1) := by decide +kernel
theorem c_120_1 : ax_code 120 1 = some (.iload 0, 2) := by decide +kernel
theorem c_120_2 : ax_code 120 2 = some (.iconst 1, 3) := by decide +kernel
theorem c_120_3 : ax_code 120 3 = some (.iushr, 4) := by decide +kernel
theorem c_120_4 : ax_code 120 4 = some (.iconst 1431655765, 7) := by decide +kernel
theorem c_120_7 : ax_code 120 7 = some (.iand, 8) := by decide +kernel
theorem c_120_8 : ax_code 120 8 = some (.isub, 9) := by decide +kernel
theorem c_120_9 : ax_code 120 9 = some (.istore 0, 10) := by decide +kernel
theorem c_120_10 : ax_code 120 10 = some (.iload 0, 11) := by decide +kernel
theorem c_120_11 : ax_code 120 11 = some (.iconst 858993459, 14) := by decide +kernel
theorem c_120_14 : ax_code 120 14 = some (.iand, 15) := by decide +kernel
theorem c_120_15 : ax_code 120 15 = some (.iload 0, 16) := by decide +kernel
theorem c_120_16 : ax_code 120 16 = some (.iconst 2, 17) := by decide +kernel
theorem c_120_17 : ax_code 120 17 = some (.iushr, 18) := by decide +kernel
theorem c_120_18 : ax_code 120 18 = some (.iconst 858993459, 21) := by decide +kernel
theorem c_120_21 : ax_code 120 21 = some (.iand, 22) := by decide +kernel
theorem c_120_22 : ax_code 120 22 = some (.iadd, 23) := by decide +kernel
theorem c_120_23 : ax_code 120 23 = some (.istore 0, 24) := by decide +kernel
theorem c_120_24 : ax_code 120 24 = some (.iload 0, 25) := by decide +kernel
theorem c_120_25 : ax_code 120 25 = some (.iload 0, 26) := by decide +kernel
theorem c_120_26 : ax_code 120 26 = some (.iconst 4, 27) := by decide +kernel
theorem c_120_27 : ax_code 120 27 = some (.iushr, 28) := by decide +kernel
theorem c_120_28 : ax_code 120 28 = some (.iadd, 29) := by decide +kernel
theorem c_120_29 : ax_code 120 29 = some (.iconst 252645135, 32) := by decide +kernel
theorem c_120_32 : ax_code 120 32 = some (.iand, 33) := by decide +kernel
theorem c_120_33 : ax_code 120 33 = some (.istore 0, 34) := by decide +kernel
theorem c_120_34 : ax_code 120 34 = some (.iload 0, 35) := by decide +kernel
theorem c_120_35 : ax_code 120 35 = some (.iload 0, 36) := by decide +kernel
theorem c_120_36 : ax_code 120 36 = some (.iconst 8, 38) := by decide +kernel
theorem c_120_38 : ax_code 120 38 = some (.iushr, 39) := by decide +kernel
theorem c_120_39 : ax_code 120 39 = some (.iadd, 40) := by decide +kernel
theorem c_120_40 : ax_code 120 40 = some (.istore 0, 41) := by decide +kernel
theorem c_120_41 : ax_code 120 41 = some (.iload 0, 42) := by decide +kernel
theorem c_120_42 : ax_code 120 42 = some (.iload 0, 43) := by decide +kernel
theorem c_120_43 : ax_code 120 43 = some (.iconst 16, 45) := by decide +kernel
theorem c_120_45 : ax_code 120 45 = some (.iushr, 46) := by decide +kernel
theorem c_120_46 : ax_code 120 46 = some (.iadd, 47) := by decide +kernel
theorem c_120_47 : ax_code 120 47 = some (.istore 0, 48) := by decide +kernel
theorem c_120_48 : ax_code 120 48 = some (.iload 0, 49) := by decide +kernel
theorem c_120_49 : ax_code 120 49 = some (.iconst 63, 51) := by decide +kernel
theorem c_120_51 : ax_code 120 51 = some (.iand, 52) := by decide +kernel
theorem c_120_52 : ax_code 120 52 = some (.ireturn, 53) := by decide +kernel
theorem c_121_0 : ax_code 121 0 = some (.aload 0, 1) := by decide +kernel
theorem c_121_1 : ax_code 121 1 = some (.getfield 516, 4) := by decide +kernel
theorem c_121_4 : ax_code 121 4 = some (.ireturn, 5) := by decide +kernel
theorem c_122_0 : ax_code 122 0 = some (.aload 0, 1) := by decide +kernel
theorem c_122_1 : ax_code 122 1 = some (.getfield 514, 4) := by decide +kernel
theorem c_122_4 : ax_code 122 4 = some (.ireturn, 5) := by decide +kernel
theorem c_123_0 : ax_code 123 0 = some (.iload 1, 1) := by decide +kernel
theorem c_123_1 : ax_code 123 1 = some (.ifCond .lt 9, 4) := by decide +kernel
theorem c_123_4 : ax_code 123 4 = some (.iload 1, 5) := by decide +kernel
theorem c_123_5 : ax_code 123 5 = some (.iconst 1, 6) := by decide +kernel
theorem c_123_6 : ax_code 123 6 = some (.if_icmp .le 13, 9) := by decide +kernel
theorem c_123_9 : ax_code 123 9 = some (.ldc2_w 0, 12) := by decide +kernel
theorem c_123_12 : ax_code 123 12 = some (.lreturn, 13) := by decide +kernel
theorem c_123_13 : ax_code 123 13 = some (.aload 0, 14) := by decide +kernel
theorem c_123_14 : ax_code 123 14 = some (.getfield 642, 17) := by decide +kernel
theorem c_123_17 : ax_code 123 17 = some (.getfield 257, 20) := by decide +kernel
theorem c_123_20 : ax_code 123 20 = some (.invokevirtual 124, 23) := by decide +kernel
theorem c_123_23 : ax_code 123 23 = some (.ifCond .ne 30, 26) := by decide +kernel
theorem c_123_26 : ax_code 123 26 = some (.ldc2_w 4, 29) := by decide +kernel
theorem c_123_29 : ax_code 123 29 = some (.lreturn, 30) := by decide +kernel
theorem c_123_30 : ax_code 123 30 = some (.iload 1, 31) := by decide +kernel
theorem c_123_31 : ax_code 123 31 = some (.ifCond .ne 48, 34) := by decide +kernel
theorem c_123_34 : ax_code 123 34 = some (.aload 0, 35) := by decide +kernel
theorem c_123_35 : ax_code 123 35 = some (.getfield 642, 38) := by decide +kernel
theorem c_123_38 : ax_code 123 38 = some (.getfield 257, 41) := by decide +kernel
theorem c_123_41 : ax_code 123 41 = some (.invokevirtual 125, 44) := by decide +kernel
theorem c_123_44 : ax_code 123 44 = some (.i2l, 45) := by decide +kernel
theorem c_123_45 : ax_code 123 45 = some (.goto 58, 48) := by decide +kernel
theorem c_123_48 : ax_code 123 48 = some (.aload 0, 49) := by decide +kernel
theorem c_123_49 : ax_code 123 49 = some (.getfield 642, 52) := by decide +kernel
theorem c_123_52 : ax_code 123 52 = some (.getfield 257, 55) := by decide +kernel
theorem c_123_55 : ax_code 123 55 = some (.invokevirtual 128, 58) := by decide +kernel
theorem c_123_58 : ax_code 123 58 = some (.lreturn, 59) := by decide +kernel
theorem c_124_0 : ax_code 124 0 = some (.aload 0, 1) := by decide +kernel
theorem c_124_1 : ax_code 124 1 = some (.getfield 64, 4) := by decide +kernel
theorem c_124_4 : ax_code 124 4 = some (.ireturn, 5) := by decide +kernel
theorem c_125_0 : ax_code 125 0 = some (.iconst 0, 1) := by decide +kernel
theorem c_125_1 : ax_code 125 1 = some (.istore 1, 2) := by decide +kernel
theorem c_125_2 : ax_code 125 2 = some (.iconst 0, 3) := by decide +kernel
theorem c_125_3 : ax_code 125 3 = some (.istore 2, 4) := by decide +kernel
theorem c_125_4 : ax_code 125 4 = some (.iload 2, 5) := by decide +kernel
theorem c_125_5 : ax_code 125 5 = some (.aload 0, 6) := by decide +kernel
theorem c_125_6 : ax_code 125 6 = some (.getfield 64, 9) := by decide +kernel
theorem c_125_9 : ax_code 125 9 = some (.if_icmp .ge 39, 12) := by decide +kernel
theorem c_125_12 : ax_code 125 12 = some (.aload 0, 13) := by decide +kernel
theorem c_125_13 : ax_code 125 13 = some (.iload 2, 14) := by decide +kernel
theorem c_125_14 : ax_code 125 14 = some (.invokevirtual 126, 17) := by decide +kernel
theorem c_125_17 : ax_code 125 17 = some (.istore 3, 18) := by decide +kernel
theorem c_125_18 : ax_code 125 18 = some (.iload 3, 19) := by decide +kernel
theorem c_125_19 : ax_code 125 19 = some (.iconst (-1000000), 21) := by decide +kernel
theorem c_125_21 : ax_code 125 21 = some (.if_icmp .eq 33, 24) := by decide +kernel
theorem c_125_24 : ax_code 125 24 = some (.iload 1, 25) := by decide +kernel
theorem c_125_25 : ax_code 125 25 = some (.aload 0, 26) := by decide +kernel
theorem c_125_26 : ax_code 125 26 = some (.iload 3, 27) := by decide +kernel
theorem c_125_27 : ax_code 125 27 = some (.iload 2, 28) := by decide +kernel
theorem c_125_28 : ax_code 125 28 = some (.invokevirtual 108, 31) := by decide +kernel
theorem c_125_31 : ax_code 125 31 = some (.iadd, 32) := by decide +kernel
theorem c_125_32 : ax_code 125 32 = some (.istore 1, 33) := by decide +kernel
theorem c_125_33 : ax_code 125 33 = some (.iinc 2 (1), 36) := by decide +kernel
theorem c_125_36 : ax_code 125 36 = some (.goto 4, 39) := by decide +kernel
theorem c_125_39 : ax_code 125 39 = some (.iload 1, 40) := by decide +kernel
theorem c_125_40 : ax_code 125 40 = some (.ireturn, 41) := by decide +kernel
theorem c_126_0 : ax_code 126 0 = some (.iconst (-1000000), 2) := by decide +kernel
theorem c_126_2 : ax_code 126 2 = some (.istore 2, 3) := by decide +kernel
theorem c_126_3 : ax_code 126 3 = some (.iconst 12, 5) := by decide +kernel
theorem c_126_5 : ax_code 126 5 = some (.istore 3, 6) := by decide +kernel
theorem c_126_6 : ax_code 126 6 = some (.iconst 0, 7) := by decide +kernel
theorem c_126_7 : ax_code 126 7 = some (.istore 4, 9) := by decide +kernel
theorem c_126_9 : ax_code 126 9 = some (.iload 4, 11) := by decide +kernel
theorem c_126_11 : ax_code 126 11 = some (.aload 0, 12) := by decide +kernel
theorem c_126_12 : ax_code 126 12 = some (.getfield 64, 15) := by decide +kernel
theorem c_126_15 : ax_code 126 15 = some (.if_icmp .ge 56, 18) := by decide +kernel
theorem c_126_18 : ax_code 126 18 = some (.aload 0, 19) := by decide +kernel
theorem c_126_19 : ax_code 126 19 = some (.iload 4, 21) := by decide +kernel
theorem c_126_21 : ax_code 126 21 = some (.iload 1, 22) := by decide +kernel
theorem c_126_22 : ax_code 126 22 = some (.invokevirtual 127, 25) := by decide +kernel
theorem c_126_25 : ax_code 126 25 = some (.ifCond .eq 50, 28) := by decide +kernel
theorem c_126_28 : ax_code 126 28 = some (.aload 0, 29) := by decide +kernel
theorem c_126_29 : ax_code 126 29 = some (.iload 4, 31) := by decide +kernel
theorem c_126_31 : ax_code 126 31 = some (.iload 1, 32) := by decide +kernel
theorem c_126_32 : ax_code 126 32 = some (.invokevirtual 108, 35) := by decide +kernel
theorem c_126_35 : ax_code 126 35 = some (.iload 3, 36) := by decide +kernel
theorem c_126_36 : ax_code 126 36 = some (.if_icmp .ge 50, 39) := by decide +kernel
theorem c_126_39 : ax_code 126 39 = some (.aload 0, 40) := by decide +kernel
theorem c_126_40 : ax_code 126 40 = some (.iload 4, 42) := by decide +kernel
theorem c_126_42 : ax_code 126 42 = some (.iload 1, 43) := by decide +kernel
theorem c_126_43 : ax_code 126 43 = some (.invokevirtual 108, 46) := by decide +kernel
theorem c_126_46 : ax_code 126 46 = some (.istore 3, 47) := by decide +kernel
theorem c_126_47 : ax_code 126 47 = some (.iload 4, 49) := by decide +kernel
theorem c_126_49 : ax_code 126 49 = some (.istore 2, 50) := by decide +kernel
theorem c_126_50 : ax_code 126 50 = some (.iinc 4 (1), 53) := by decide +kernel
theorem c_126_53 : ax_code 126 53 = some (.goto 9, 56) := by decide +kernel
theorem c_126_56 : ax_code 126 56 = some (.iload 2, 57) := by decide +kernel
theorem c_126_57 : ax_code 126 57 = some (.ireturn, 58) := by decide +kernel
theorem c_127_0 : ax_code 127 0 = some (.aload 0, 1) := by decide +kernel
theorem c_127_1 : ax_code 127 1 = some (.iload 1, 2) := by decide +kernel
theorem c_127_2 : ax_code 127 2 = some (.invokevirtual 91, 5) := by decide +kernel
theorem c_127_5 : ax_code 127 5 = some (.istore 3, 6) := by decide +kernel
theorem c_127_6 : ax_code 127 6 = some (.aload 0, 7) := by decide +kernel
theorem c_127_7 : ax_code 127 7 = some (.iload 2, 8) := by decide +kernel
theorem c_127_8 : ax_code 127 8 = some (.invokevirtual 91, 11) := by decide +kernel
theorem c_127_11 : ax_code 127 11 = some (.istore 4, 13) := by decide +kernel
theorem c_127_13 : ax_code 127 13 = some (.iload 3, 14) := by decide +kernel
theorem c_127_14 : ax_code 127 14 = some (.iload 4, 16) := by decide +kernel
theorem c_127_16 : ax_code 127 16 = some (.if_icmp .lt 30, 19) := by decide +kernel
theorem c_127_19 : ax_code 127 19 = some (.iload 3, 20) := by decide +kernel
theorem c_127_20 : ax_code 127 20 = some (.iload 4, 22) := by decide +kernel
theorem c_127_22 : ax_code 127 22 = some (.if_icmp .ne 34, 25) := by decide +kernel
theorem c_127_25 : ax_code 127 25 = some (.iload 1, 26) := by decide +kernel
theorem c_127_26 : ax_code 127 26 = some (.iload 2, 27) := by decide +kernel
theorem c_127_27 : ax_code 127 27 = some (.if_icmp .ge 34, 30) := by decide +kernel
theorem c_127_30 : ax_code 127 30 = some (.iconst 1, 31) := by decide +kernel
theorem c_127_31 : ax_code 127 31 = some (.goto 35, 34) := by decide +kernel
theorem c_127_34 : ax_code 127 34 = some (.iconst 0, 35) := by decide +kernel
theorem c_127_35 : ax_code 127 35 = some (.ireturn, 36) := by decide +kernel
theorem c_128_0 : ax_code 128 0 = some (.lconst 1, 1) := by decide +kernel
theorem c_128_1 : ax_code 128 1 = some (.lstore 1, 2) := by decide +kernel
theorem c_128_2 : ax_code 128 2 = some (.iconst 0, 3) := by decide +kernel
theorem c_128_3 : ax_code 128 3 = some (.istore 3, 4) := by decide +kernel
theorem c_128_4 : ax_code 128 4 = some (.iload 3, 5) := by decide +kernel
theorem c_128_5 : ax_code 128 5 = some (.aload 0, 6) := by decide +kernel
theorem c_128_6 : ax_code 128 6 = some (.getfield 64, 9) := by decide +kernel
theorem c_128_9 : ax_code 128 9 = some (.if_icmp .ge 48, 12) := by decide +kernel
theorem c_128_12 : ax_code 128 12 = some (.aload 0, 13) := by decide +kernel
theorem c_128_13 : ax_code 128 13 = some (.iload 3, 14) := by decide +kernel
theorem c_128_14 : ax_code 128 14 = some (.invokevirtual 126, 17) := by decide +kernel
theorem c_128_17 : ax_code 128 17 = some (.istore 4, 19) := by decide +kernel
theorem c_128_19 : ax_code 128 19 = some (.iload 4, 21) := by decide +kernel
theorem c_128_21 : ax_code 128 21 = some (.iconst (-1000000), 23) := by decide +kernel
theorem c_128_23 : ax_code 128 23 = some (.if_icmp .eq 42, 26) := by decide +kernel
theorem c_128_26 : ax_code 128 26 = some (.lload 1, 27) := by decide +kernel
theorem c_128_27 : ax_code 128 27 = some (.aload 0, 28) := by decide +kernel
theorem c_128_28 : ax_code 128 28 = some (.iload 3, 29) := by decide +kernel
theorem c_128_29 : ax_code 128 29 = some (.aload 0, 30) := by decide +kernel
theorem c_128_30 : ax_code 128 30 = some (.iload 4, 32) := by decide +kernel
theorem c_128_32 : ax_code 128 32 = some (.iload 3, 33) := by decide +kernel
theorem c_128_33 : ax_code 128 33 = some (.invokevirtual 108, 36) := by decide +kernel
theorem c_128_36 : ax_code 128 36 = some (.invokevirtual 129, 39) := by decide +kernel
theorem c_128_39 : ax_code 128 39 = some (.i2l, 40) := by decide +kernel
theorem c_128_40 : ax_code 128 40 = some (.lmul, 41) := by decide +kernel
theorem c_128_41 : ax_code 128 41 = some (.lstore 1, 42) := by decide +kernel
theorem c_128_42 : ax_code 128 42 = some (.iinc 3 (1), 45) := by decide +kernel
theorem c_128_45 : ax_code 128 45 = some (.goto 4, 48) := by decide +kernel
theorem c_128_48 : ax_code 128 48 = some (.lload 1, 49) := by decide +kernel
theorem c_128_49 : ax_code 128 49 = some (.lreturn, 50) := by decide +kernel
theorem c_129_0 : ax_code 129 0 = some (.iconst 0, 1) := by decide +kernel
theorem c_129_1 : ax_code 129 1 = some (.istore 3, 2) := by decide +kernel
theorem c_129_2 : ax_code 129 2 = some (.iconst 0, 3) := by decide +kernel
theorem c_129_3 : ax_code 129 3 = some (.istore 4, 5) := by decide +kernel
theorem c_129_5 : ax_code 129 5 = some (.iload 4, 7) := by decide +kernel
theorem c_129_7 : ax_code 129 7 = some (.aload 0, 8) := by decide +kernel
theorem c_129_8 : ax_code 129 8 = some (.getfield 64, 11) := by decide +kernel
theorem c_129_11 : ax_code 129 11 = some (.if_icmp .ge 44, 14) := by decide +kernel
theorem c_129_14 : ax_code 129 14 = some (.aload 0, 15) := by decide +kernel
theorem c_129_15 : ax_code 129 15 = some (.iload 4, 17) := by decide +kernel
theorem c_129_17 : ax_code 129 17 = some (.iload 1, 18) := by decide +kernel
theorem c_129_18 : ax_code 129 18 = some (.invokevirtual 127, 21) := by decide +kernel
theorem c_129_21 : ax_code 129 21 = some (.ifCond .eq 38, 24) := by decide +kernel
theorem c_129_24 : ax_code 129 24 = some (.aload 0, 25) := by decide +kernel
theorem c_129_25 : ax_code 129 25 = some (.iload 4, 27) := by decide +kernel
theorem c_129_27 : ax_code 129 27 = some (.iload 1, 28) := by decide +kernel
theorem c_129_28 : ax_code 129 28 = some (.invokevirtual 108, 31) := by decide +kernel
theorem c_129_31 : ax_code 129 31 = some (.iload 2, 32) := by decide +kernel
theorem c_129_32 : ax_code 129 32 = some (.if_icmp .ne 38, 35) := by decide +kernel
theorem c_129_35 : ax_code 129 35 = some (.iinc 3 (1), 38) := by decide +kernel
theorem c_129_38 : ax_code 129 38 = some (.iinc 4 (1), 41) := by decide +kernel
theorem c_129_41 : ax_code 129 41 = some (.goto 5, 44) := by decide +kernel
theorem c_129_44 : ax_code 129 44 = some (.iload 3, 45) := by decide +kernel
theorem c_129_45 : ax_code 129 45 = some (.ireturn, 46) := by decide +kernel
theorem c_130_0 : ax_code 130 0 = some (.aload 0, 1) := by decide +kernel
theorem c_130_1 : ax_code 130 1 = some (.getfield 642, 4) := by decide +kernel
theorem c_130_4 : ax_code 130 4 = some (.getfield 257, 7) := by decide +kernel
theorem c_130_7 : ax_code 130 7 = some (.iload 1, 8) := by decide +kernel
theorem c_130_8 : ax_code 130 8 = some (.invokevirtual 84, 11) := by decide +kernel
theorem c_130_11 : ax_code 130 11 = some (.ifCond .ne 18, 14) := by decide +kernel
theorem c_130_14 : ax_code 130 14 = some (.ldc2_w 0, 17) := by decide +kernel
theorem c_130_17 : ax_code 130 17 = some (.lreturn, 18) := by decide +kernel
theorem c_130_18 : ax_code 130 18 = some (.aload 0, 19) := by decide +kernel
theorem c_130_19 : ax_code 130 19 = some (.getfield 642, 22) := by decide +kernel
theorem c_130_22 : ax_code 130 22 = some (.getfield 257, 25) := by decide +kernel
theorem c_130_25 : ax_code 130 25 = some (.iload 1, 26) := by decide +kernel
theorem c_130_26 : ax_code 130 26 = some (.invokevirtual 126, 29) := by decide +kernel
theorem c_130_29 : ax_code 130 29 = some (.i2l, 30) := by decide +kernel
theorem c_130_30 : ax_code 130 30 = some (.lreturn, 31) := by decide +kernel
theorem c_131_0 : ax_code 131 0 = some (.aload 0, 1) := by decide +kernel
theorem c_131_1 : ax_code 131 1 = some (.getfield 642, 4) := by decide +kernel
theorem c_131_4 : ax_code 131 4 = some (.getfield 257, 7) := by decide +kernel
theorem c_131_7 : ax_code 131 7 = some (.iload 1, 8) := by decide +kernel
theorem c_131_8 : ax_code 131 8 = some (.invokevirtual 84, 11) := by decide +kernel
theorem c_131_11 : ax_code 131 11 = some (.ifCond .eq 23, 14) := by decide +kernel
theorem c_131_14 : ax_code 131 14 = some (.iload 2, 15) := by decide +kernel
theorem c_131_15 : ax_code 131 15 = some (.ifCond .lt 23, 18) := by decide +kernel
theorem c_131_18 : ax_code 131 18 = some (.iload 2, 19) := by decide +kernel
theorem c_131_19 : ax_code 131 19 = some (.iconst 2, 20) := by decide +kernel
theorem c_131_20 : ax_code 131 20 = some (.if_icmp .le 27, 23) := by decide +kernel
theorem c_131_23 : ax_code 131 23 = some (.ldc2_w 0, 26) := by decide +kernel
theorem c_131_26 : ax_code 131 26 = some (.lreturn, 27) := by decide +kernel
theorem c_131_27 : ax_code 131 27 = some (.aload 0, 28) := by decide +kernel
theorem c_131_28 : ax_code 131 28 = some (.getfield 642, 31) := by decide +kernel
theorem c_131_31 : ax_code 131 31 = some (.getfield 257, 34) := by decide +kernel
theorem c_131_34 : ax_code 131 34 = some (.iload 1, 35) := by decide +kernel
theorem c_131_35 : ax_code 131 35 = some (.iload 2, 36) := by decide +kernel
theorem c_131_36 : ax_code 131 36 = some (.invokevirtual 132, 39) := by decide +kernel
theorem c_131_39 : ax_code 131 39 = some (.i2l, 40) := by decide +kernel
theorem c_131_40 : ax_code 131 40 = some (.lreturn, 41) := by decide +kernel
theorem c_132_0 : ax_code 132 0 = some (.iconst (-1000000), 2) := by decide +kernel
theorem c_132_2 : ax_code 132 2 = some (.istore 3, 3) := by decide +kernel
theorem c_132_3 : ax_code 132 3 = some (.iconst (-1000000), 5) := by decide +kernel
theorem c_132_5 : ax_code 132 5 = some (.istore 4, 7) := by decide +kernel
theorem c_132_7 : ax_code 132 7 = some (.iconst (-1000000), 9) := by decide +kernel
theorem c_132_9 : ax_code 132 9 = some (.istore 5, 11) := by decide +kernel
theorem c_132_11 : ax_code 132 11 = some (.iconst 0, 12) := by decide +kernel
theorem c_132_12 : ax_code 132 12 = some (.istore 6, 14) := by decide +kernel
theorem c_132_14 : ax_code 132 14 = some (.iload 6, 16) := by decide +kernel
theorem c_132_16 : ax_code 132 16 = some (.aload 0, 17) := by decide +kernel
theorem c_132_17 : ax_code 132 17 = some (.getfield 64, 20) := by decide +kernel
theorem c_132_20 : ax_code 132 20 = some (.if_icmp .ge 116, 23) := by decide +kernel
theorem c_132_23 : ax_code 132 23 = some (.iload 6, 25) := by decide +kernel
theorem c_132_25 : ax_code 132 25 = some (.iconst 1, 26) := by decide +kernel
theorem c_132_26 : ax_code 132 26 = some (.iadd, 27) := by decide +kernel
theorem c_132_27 : ax_code 132 27 = some (.istore 7, 29) := by decide +kernel
theorem c_132_29 : ax_code 132 29 = some (.iload 7, 31) := by decide +kernel
theorem c_132_31 : ax_code 132 31 = some (.aload 0, 32) := by decide +kernel
theorem c_132_32 : ax_code 132 32 = some (.getfield 64, 35) := by decide +kernel
theorem c_132_35 : ax_code 132 35 = some (.if_icmp .ge 110, 38) := by decide +kernel
theorem c_132_38 : ax_code 132 38 = some (.aload 0, 39) := by decide +kernel
theorem c_132_39 : ax_code 132 39 = some (.iload 6, 41) := by decide +kernel
theorem c_132_41 : ax_code 132 41 = some (.iload 1, 42) := by decide +kernel
theorem c_132_42 : ax_code 132 42 = some (.invokevirtual 127, 45) := by decide +kernel
theorem c_132_45 : ax_code 132 45 = some (.ifCond .eq 110, 48) := by decide +kernel
theorem c_132_48 : ax_code 132 48 = some (.aload 0, 49) := by decide +kernel
theorem c_132_49 : ax_code 132 49 = some (.iload 7, 51) := by decide +kernel
theorem c_132_51 : ax_code 132 51 = some (.iload 1, 52) := by decide +kernel
theorem c_132_52 : ax_code 132 52 = some (.invokevirtual 127, 55) := by decide +kernel
theorem c_132_55 : ax_code 132 55 = some (.ifCond .eq 70, 58) := by decide +kernel
theorem c_132_58 : ax_code 132 58 = some (.aload 0, 59) := by decide +kernel
theorem c_132_59 : ax_code 132 59 = some (.iload 1, 60) := by decide +kernel
theorem c_132_60 : ax_code 132 60 = some (.iload 6, 62) := by decide +kernel
theorem c_132_62 : ax_code 132 62 = some (.iload 7, 64) := by decide +kernel
theorem c_132_64 : ax_code 132 64 = some (.invokevirtual 133, 67) := by decide +kernel
theorem c_132_67 : ax_code 132 67 = some (.goto 72, 70) := by decide +kernel
theorem c_132_70 : ax_code 132 70 = some (.iconst (-1000000), 72) := by decide +kernel
theorem c_132_72 : ax_code 132 72 = some (.istore 8, 74) := by decide +kernel
theorem c_132_74 : ax_code 132 74 = some (.iload 8, 76) := by decide +kernel
theorem c_132_76 : ax_code 132 76 = some (.iconst (-1000000), 78) := by decide +kernel
theorem c_132_78 : ax_code 132 78 = some (.if_icmp .eq 104, 81) := by decide +kernel
theorem c_132_81 : ax_code 132 81 = some (.iload 3, 82) := by decide +kernel
theorem c_132_82 : ax_code 132 82 = some (.iconst (-1000000), 84) := by decide +kernel
theorem c_132_84 : ax_code 132 84 = some (.if_icmp .eq 93, 87) := by decide +kernel
theorem c_132_87 : ax_code 132 87 = some (.iload 8, 89) := by decide +kernel
theorem c_132_89 : ax_code 132 89 = some (.iload 3, 90) := by decide +kernel
theorem c_132_90 : ax_code 132 90 = some (.if_icmp .ge 104, 93) := by decide +kernel
theorem c_132_93 : ax_code 132 93 = some (.iload 8, 95) := by decide +kernel
theorem c_132_95 : ax_code 132 95 = some (.istore 3, 96) := by decide +kernel
theorem c_132_96 : ax_code 132 96 = some (.iload 6, 98) := by decide +kernel
theorem c_132_98 : ax_code 132 98 = some (.istore 4, 100) := by decide +kernel
theorem c_132_100 : ax_code 132 100 = some (.iload 7, 102) := by decide +kernel
theorem c_132_102 : ax_code 132 102 = some (.istore 5, 104) := by decide +kernel
theorem c_132_104 : ax_code 132 104 = some (.iinc 7 (1), 107) := by decide +kernel
theorem c_132_107 : ax_code 132 107 = some (.goto 29, 110) := by decide +kernel
theorem c_132_110 : ax_code 132 110 = some (.iinc 6 (1), 113) := by decide +kernel
theorem c_132_113 : ax_code 132 113 = some (.goto 14, 116) := by decide +kernel
theorem c_132_116 : ax_code 132 116 = some (.iload 2, 117) := by decide +kernel
theorem c_132_117 : ax_code 132 117 = some (.ifCond .ne 122, 120) := by decide +kernel
theorem c_132_120 : ax_code 132 120 = some (.iload 3, 121) := by decide +kernel
theorem c_132_121 : ax_code 132 121 = some (.ireturn, 122) := by decide +kernel
theorem c_132_122 : ax_code 132 122 = some (.iload 2, 123) := by decide +kernel
theorem c_132_123 : ax_code 132 123 = some (.iconst 1, 124) := by decide +kernel
theorem c_132_124 : ax_code 132 124 = some (.if_icmp .ne 132, 127) := by decide +kernel
theorem c_132_127 : ax_code 132 127 = some (.iload 4, 129) := by decide +kernel
theorem c_132_129 : ax_code 132 129 = some (.goto 134, 132) := by decide +kernel
theorem c_132_132 : ax_code 132 132 = some (.iload 5, 134) := by decide +kernel
theorem c_132_134 : ax_code 132 134 = some (.ireturn, 135) := by decide +kernel
theorem c_133_0 : ax_code 133 0 = some (.iconst 1, 1) := by decide +kernel
theorem c_133_1 : ax_code 133 1 = some (.istore 4, 3) := by decide +kernel
theorem c_133_3 : ax_code 133 3 = some (.iconst 0, 4) := by decide +kernel
theorem c_133_4 : ax_code 133 4 = some (.istore 5, 6) := by decide +kernel
theorem c_133_6 : ax_code 133 6 = some (.iload 5, 8) := by decide +kernel
theorem c_133_8 : ax_code 133 8 = some (.iconst 11, 10) := by decide +kernel
theorem c_133_10 : ax_code 133 10 = some (.if_icmp .ge 62, 13) := by decide +kernel
theorem c_133_13 : ax_code 133 13 = some (.aload 0, 14) := by decide +kernel
theorem c_133_14 : ax_code 133 14 = some (.iload 1, 15) := by decide +kernel
theorem c_133_15 : ax_code 133 15 = some (.iload 5, 17) := by decide +kernel
theorem c_133_17 : ax_code 133 17 = some (.invokevirtual 97, 20) := by decide +kernel
theorem c_133_20 : ax_code 133 20 = some (.istore 6, 22) := by decide +kernel
theorem c_133_22 : ax_code 133 22 = some (.iload 6, 24) := by decide +kernel
theorem c_133_24 : ax_code 133 24 = some (.iconst (-1000000), 26) := by decide +kernel
theorem c_133_26 : ax_code 133 26 = some (.if_icmp .eq 56, 29) := by decide +kernel
theorem c_133_29 : ax_code 133 29 = some (.aload 0, 30) := by decide +kernel
theorem c_133_30 : ax_code 133 30 = some (.iload 2, 31) := by decide +kernel
theorem c_133_31 : ax_code 133 31 = some (.iload 5, 33) := by decide +kernel
theorem c_133_33 : ax_code 133 33 = some (.invokevirtual 97, 36) := by decide +kernel
theorem c_133_36 : ax_code 133 36 = some (.iload 6, 38) := by decide +kernel
theorem c_133_38 : ax_code 133 38 = some (.if_icmp .eq 56, 41) := by decide +kernel
theorem c_133_41 : ax_code 133 41 = some (.aload 0, 42) := by decide +kernel
theorem c_133_42 : ax_code 133 42 = some (.iload 3, 43) := by decide +kernel
theorem c_133_43 : ax_code 133 43 = some (.iload 5, 45) := by decide +kernel
theorem c_133_45 : ax_code 133 45 = some (.invokevirtual 97, 48) := by decide +kernel
theorem c_133_48 : ax_code 133 48 = some (.iload 6, 50) := by decide +kernel
theorem c_133_50 : ax_code 133 50 = some (.if_icmp .eq 56, 53) := by decide +kernel
theorem c_133_53 : ax_code 133 53 = some (.iinc 4 (1), 56) := by decide +kernel
theorem c_133_56 : ax_code 133 56 = some (.iinc 5 (1), 59) := by decide +kernel
theorem c_133_59 : ax_code 133 59 = some (.goto 6, 62) := by decide +kernel
theorem c_133_62 : ax_code 133 62 = some (.iload 4, 64) := by decide +kernel
theorem c_133_64 : ax_code 133 64 = some (.ireturn, 65) := by decide +kernel
theorem c_134_0 : ax_code 134 0 = some (.aload 0, 1) := by decide +kernel
theorem c_134_1 : ax_code 134 1 = some (.iload 1, 2) := by decide +kernel
theorem c_134_2 : ax_code 134 2 = some (.invokevirtual 135, 5) := by decide +kernel
theorem c_134_5 : ax_code 134 5 = some (.ifCond .eq 17, 8) := by decide +kernel
theorem c_134_8 : ax_code 134 8 = some (.iload 2, 9) := by decide +kernel
theorem c_134_9 : ax_code 134 9 = some (.ifCond .lt 17, 12) := by decide +kernel
theorem c_134_12 : ax_code 134 12 = some (.iload 2, 13) := by decide +kernel
theorem c_134_13 : ax_code 134 13 = some (.iconst 2, 14) := by decide +kernel
theorem c_134_14 : ax_code 134 14 = some (.if_icmp .le 21, 17) := by decide +kernel
theorem c_134_17 : ax_code 134 17 = some (.ldc2_w 0, 20) := by decide +kernel
theorem c_134_20 : ax_code 134 20 = some (.lreturn, 21) := by decide +kernel
theorem c_134_21 : ax_code 134 21 = some (.aload 0, 22) := by decide +kernel
theorem c_134_22 : ax_code 134 22 = some (.getfield 648, 25) := by decide +kernel
theorem c_134_25 : ax_code 134 25 = some (.aload 0, 26) := by decide +kernel
theorem c_134_26 : ax_code 134 26 = some (.getfield 642, 29) := by decide +kernel
theorem c_134_29 : ax_code 134 29 = some (.getfield 257, 32) := by decide +kernel
theorem c_134_32 : ax_code 134 32 = some (.iload 1, 33) := by decide +kernel
theorem c_134_33 : ax_code 134 33 = some (.invokevirtual 136, 36) := by decide +kernel
theorem c_134_36 : ax_code 134 36 = some (.iload 2, 37) := by decide +kernel
theorem c_134_37 : ax_code 134 37 = some (.ifCond .ne 49, 40) := by decide +kernel
theorem c_134_40 : ax_code 134 40 = some (.aload 0, 41) := by decide +kernel
theorem c_134_41 : ax_code 134 41 = some (.getfield 648, 44) := by decide +kernel
theorem c_134_44 : ax_code 134 44 = some (.invokevirtual 150, 47) := by decide +kernel
theorem c_134_47 : ax_code 134 47 = some (.i2l, 48) := by decide +kernel
theorem c_134_48 : ax_code 134 48 = some (.lreturn, 49) := by decide +kernel
theorem c_134_49 : ax_code 134 49 = some (.iload 2, 50) := by decide +kernel
theorem c_134_50 : ax_code 134 50 = some (.iconst 1, 51) := by decide +kernel
theorem c_134_51 : ax_code 134 51 = some (.if_icmp .ne 65, 54) := by decide +kernel
theorem c_134_54 : ax_code 134 54 = some (.aload 0, 55) := by decide +kernel
theorem c_134_55 : ax_code 134 55 = some (.getfield 648, 58) := by decide +kernel
theorem c_134_58 : ax_code 134 58 = some (.invokevirtual 151, 61) := by decide +kernel
theorem c_134_61 : ax_code 134 61 = some (.i2l, 62) := by decide +kernel
theorem c_134_62 : ax_code 134 62 = some (.goto 73, 65) := by decide +kernel
theorem c_134_65 : ax_code 134 65 = some (.aload 0, 66) := by decide +kernel
theorem c_134_66 : ax_code 134 66 = some (.getfield 648, 69) := by decide +kernel
theorem c_134_69 : ax_code 134 69 = some (.invokevirtual 152, 72) := by decide +kernel
theorem c_134_72 : ax_code 134 72 = some (.i2l, 73) := by decide +kernel
theorem c_134_73 : ax_code 134 73 = some (.lreturn, 74) := by decide +kernel
theorem c_135_0 : ax_code 135 0 = some (.iload 1, 1) := by decide +kernel
theorem c_135_1 : ax_code 135 1 = some (.ifCond .lt 19, 4) := by decide +kernel
theorem c_135_4 : ax_code 135 4 = some (.iload 1, 5) := by decide +kernel
theorem c_135_5 : ax_code 135 5 = some (.aload 0, 6) := by decide +kernel
theorem c_135_6 : ax_code 135 6 = some (.getfield 642, 9) := by decide +kernel
theorem c_135_9 : ax_code 135 9 = some (.getfield 257, 12) := by decide +kernel
theorem c_135_12 : ax_code 135 12 = some (.invokevirtual 124, 15) := by decide +kernel
theorem c_135_15 : ax_code 135 15 = some (.ishr, 16) := by decide +kernel
theorem c_135_16 : ax_code 135 16 = some (.ifCond .eq 21, 19) := by decide +kernel
theorem c_135_19 : ax_code 135 19 = some (.iconst 0, 20) := by decide +kernel
theorem c_135_20 : ax_code 135 20 = some (.ireturn, 21) := by decide +kernel
theorem c_135_21 : ax_code 135 21 = some (.iload 1, 22) := by decide +kernel
theorem c_135_22 : ax_code 135 22 = some (.invokestatic 120, 25) := by decide +kernel
theorem c_135_25 : ax_code 135 25 = some (.istore 2, 26) := by decide +kernel
theorem c_135_26 : ax_code 135 26 = some (.iload 2, 27) := by decide +kernel
theorem c_135_27 : ax_code 135 27 = some (.iconst 2, 28) := by decide +kernel
theorem c_135_28 : ax_code 135 28 = some (.if_icmp .lt 41, 31) := by decide +kernel
theorem c_135_31 : ax_code 135 31 = some (.iload 2, 32) := by decide +kernel
theorem c_135_32 : ax_code 135 32 = some (.iconst 6, 34) := by decide +kernel
theorem c_135_34 : ax_code 135 34 = some (.if_icmp .gt 41, 37) := by decide +kernel
theorem c_135_37 : ax_code 135 37 = some (.iconst 1, 38) := by decide +kernel
theorem c_135_38 : ax_code 135 38 = some (.goto 42, 41) := by decide +kernel
theorem c_135_41 : ax_code 135 41 = some (.iconst 0, 42) := by decide +kernel
theorem c_135_42 : ax_code 135 42 = some (.ireturn, 43) := by decide +kernel
theorem c_136_0 : ax_code 136 0 = some (.aload 0, 1) := by decide +kernel
theorem c_136_1 : ax_code 136 1 = some (.getfield 128, 4) := by decide +kernel
theorem c_136_4 : ax_code 136 4 = some (.aload 1, 5) := by decide +kernel
theorem c_136_5 : ax_code 136 5 = some (.iload 2, 6) := by decide +kernel
theorem c_136_6 : ax_code 136 6 = some (.invokevirtual 137, 9) := by decide +kernel
theorem c_136_9 : ax_code 136 9 = some (.aload 0, 10) := by decide +kernel
theorem c_136_10 : ax_code 136 10 = some (.invokevirtual 140, 13) := by decide +kernel
theorem c_136_13 : ax_code 136 13 = some (.ifCond .ne 17, 16) := by decide +kernel
theorem c_136_16 : ax_code 136 16 = some (.return_, 17) := by decide +kernel
theorem c_136_17 : ax_code 136 17 = some (.aload 0, 18) := by decide +kernel
theorem c_136_18 : ax_code 136 18 = some (.iconst 1, 19) := by decide +kernel
theorem c_136_19 : ax_code 136 19 = some (.putfield 142, 22) := by decide +kernel
theorem c_136_22 : ax_code 136 22 = some (.iconst 2, 23) := by decide +kernel
theorem c_136_23 : ax_code 136 23 = some (.istore 3, 24) := by decide +kernel
theorem c_136_24 : ax_code 136 24 = some (.iload 3, 25) := by decide +kernel
theorem c_136_25 : ax_code 136 25 = some (.aload 0, 26) := by decide +kernel
theorem c_136_26 : ax_code 136 26 = some (.getfield 129, 29) := by decide +kernel
theorem c_136_29 : ax_code 136 29 = some (.if_icmp .ge 52, 32) := by decide +kernel
theorem c_136_32 : ax_code 136 32 = some (.aload 0, 33) := by decide +kernel
theorem c_136_33 : ax_code 136 33 = some (.aload 0, 34) := by decide +kernel
theorem c_136_34 : ax_code 136 34 = some (.getfield 142, 37) := by decide +kernel
theorem c_136_37 : ax_code 136 37 = some (.iconst 2, 38) := by decide +kernel
theorem c_136_38 : ax_code 136 38 = some (.iload 3, 39) := by decide +kernel
theorem c_136_39 : ax_code 136 39 = some (.imul, 40) := by decide +kernel
theorem c_136_40 : ax_code 136 40 = some (.iconst 1, 41) := by decide +kernel
theorem c_136_41 : ax_code 136 41 = some (.isub, 42) := by decide +kernel
theorem c_136_42 : ax_code 136 42 = some (.imul, 43) := by decide +kernel
theorem c_136_43 : ax_code 136 43 = some (.putfield 142, 46) := by decide +kernel
theorem c_136_46 : ax_code 136 46 = some (.iinc 3 (1), 49) := by decide +kernel
theorem c_136_49 : ax_code 136 49 = some (.goto 24, 52) := by decide +kernel
theorem c_136_52 : ax_code 136 52 = some (.aload 0, 53) := by decide +kernel
theorem c_136_53 : ax_code 136 53 = some (.iconst 66, 55) := by decide +kernel
theorem c_136_55 : ax_code 136 55 = some (.putfield 140, 58) := by decide +kernel
theorem c_136_58 : ax_code 136 58 = some (.aload 0, 59) := by decide +kernel
theorem c_136_59 : ax_code 136 59 = some (.iconst 0, 60) := by decide +kernel
theorem c_136_60 : ax_code 136 60 = some (.putfield 141, 63) := by decide +kernel
theorem c_136_63 : ax_code 136 63 = some (.aload 0, 64) := by decide +kernel
theorem c_136_64 : ax_code 136 64 = some (.invokevirtual 144, 67) := by decide +kernel
theorem c_136_67 : ax_code 136 67 = some (.iconst 0, 68) := by decide +kernel
theorem c_136_68 : ax_code 136 68 = some (.istore 3, 69) := by decide +kernel
theorem c_136_69 : ax_code 136 69 = some (.iload 3, 70) := by decide +kernel
theorem c_136_70 : ax_code 136 70 = some (.aload 0, 71) := by decide +kernel
theorem c_136_71 : ax_code 136 71 = some (.getfield 142, 74) := by decide +kernel
theorem c_136_74 : ax_code 136 74 = some (.if_icmp .ge 96, 77) := by decide +kernel
theorem c_136_77 : ax_code 136 77 = some (.aload 0, 78) := by decide +kernel
theorem c_136_78 : ax_code 136 78 = some (.iload 3, 79) := by decide +kernel
theorem c_136_79 : ax_code 136 79 = some (.invokevirtual 145, 82) := by decide +kernel
theorem c_136_82 : ax_code 136 82 = some (.aload 0, 83) := by decide +kernel
theorem c_136_83 : ax_code 136 83 = some (.invokevirtual 147, 86) := by decide +kernel
theorem c_136_86 : ax_code 136 86 = some (.aload 0, 87) := by decide +kernel
theorem c_136_87 : ax_code 136 87 = some (.invokevirtual 148, 90) := by decide +kernel
theorem c_136_90 : ax_code 136 90 = some (.iinc 3 (1), 93) := by decide +kernel
theorem c_136_93 : ax_code 136 93 = some (.goto 69, 96) := by decide +kernel
theorem c_136_96 : ax_code 136 96 = some (.return_, 97) := by decide +kernel
theorem c_137_0 : ax_code 137 0 = some (.aload 0, 1) := by decide +kernel
theorem c_137_1 : ax_code 137 1 = some (.iconst 0, 2) := by decide +kernel
theorem c_137_2 : ax_code 137 2 = some (.putfield 192, 5) := by decide +kernel
theorem c_137_5 : ax_code 137 5 = some (.iconst 0, 6) := by decide +kernel
theorem c_137_6 : ax_code 137 6 = some (.istore 3, 7) := by decide +kernel
theorem c_137_7 : ax_code 137 7 = some (.iload 3, 8) := by decide +kernel
theorem c_137_8 : ax_code 137 8 = some (.aload 1, 9) := by decide +kernel
theorem c_137_9 : ax_code 137 9 = some (.invokevirtual 124, 12) := by decide +kernel
theorem c_137_12 : ax_code 137 12 = some (.if_icmp .ge 58, 15) := by decide +kernel
theorem c_137_15 : ax_code 137 15 = some (.aload 0, 16) := by decide +kernel
theorem c_137_16 : ax_code 137 16 = some (.getfield 192, 19) := by decide +kernel
theorem c_137_19 : ax_code 137 19 = some (.iconst 6, 21) := by decide +kernel
theorem c_137_21 : ax_code 137 21 = some (.if_icmp .ge 58, 24) := by decide +kernel
theorem c_137_24 : ax_code 137 24 = some (.iload 2, 25) := by decide +kernel
theorem c_137_25 : ax_code 137 25 = some (.iload 3, 26) := by decide +kernel
theorem c_137_26 : ax_code 137 26 = some (.ishr, 27) := by decide +kernel
theorem c_137_27 : ax_code 137 27 = some (.iconst 1, 28) := by decide +kernel
theorem c_137_28 : ax_code 137 28 = some (.iand, 29) := by decide +kernel
theorem c_137_29 : ax_code 137 29 = some (.ifCond .eq 52, 32) := by decide +kernel
theorem c_137_32 : ax_code 137 32 = some (.aload 0, 33) := by decide +kernel
theorem c_137_33 : ax_code 137 33 = some (.getfield 193, 36) := by decide +kernel
theorem c_137_36 : ax_code 137 36 = some (.aload 0, 37) := by decide +kernel
theorem c_137_37 : ax_code 137 37 = some (.getfield 192, 40) := by decide +kernel
theorem c_137_40 : ax_code 137 40 = some (.iload 3, 41) := by decide +kernel
theorem c_137_41 : ax_code 137 41 = some (.iastore, 42) := by decide +kernel
theorem c_137_42 : ax_code 137 42 = some (.aload 0, 43) := by decide +kernel
theorem c_137_43 : ax_code 137 43 = some (.dup, 44) := by decide +kernel
theorem c_137_44 : ax_code 137 44 = some (.getfield 192, 47) := by decide +kernel
theorem c_137_47 : ax_code 137 47 = some (.iconst 1, 48) := by decide +kernel
theorem c_137_48 : ax_code 137 48 = some (.iadd, 49) := by decide +kernel
theorem c_137_49 : ax_code 137 49 = some (.putfield 192, 52) := by decide +kernel
theorem c_137_52 : ax_code 137 52 = some (.iinc 3 (1), 55) := by decide +kernel
theorem c_137_55 : ax_code 137 55 = some (.goto 7, 58) := by decide +kernel
theorem c_137_58 : ax_code 137 58 = some (.iconst 0, 59) := by decide +kernel
theorem c_137_59 : ax_code 137 59 = some (.istore 3, 60) := by decide +kernel
theorem c_137_60 : ax_code 137 60 = some (.iload 3, 61) := by decide +kernel
theorem c_137_61 : ax_code 137 61 = some (.iconst 11, 63) := by decide +kernel
theorem c_137_63 : ax_code 137 63 = some (.if_icmp .ge 161, 66) := by decide +kernel
theorem c_137_66 : ax_code 137 66 = some (.aload 0, 67) := by decide +kernel
theorem c_137_67 : ax_code 137 67 = some (.getfield 195, 70) := by decide +kernel
theorem c_137_70 : ax_code 137 70 = some (.iload 3, 71) := by decide +kernel
theorem c_137_71 : ax_code 137 71 = some (.iconst 0, 72) := by decide +kernel
theorem c_137_72 : ax_code 137 72 = some (.iastore, 73) := by decide +kernel
theorem c_137_73 : ax_code 137 73 = some (.iconst 0, 74) := by decide +kernel
theorem c_137_74 : ax_code 137 74 = some (.istore 4, 76) := by decide +kernel
theorem c_137_76 : ax_code 137 76 = some (.iload 4, 78) := by decide +kernel
theorem c_137_78 : ax_code 137 78 = some (.aload 0, 79) := by decide +kernel
theorem c_137_79 : ax_code 137 79 = some (.getfield 192, 82) := by decide +kernel
theorem c_137_82 : ax_code 137 82 = some (.if_icmp .ge 108, 85) := by decide +kernel
theorem c_137_85 : ax_code 137 85 = some (.aload 0, 86) := by decide +kernel
theorem c_137_86 : ax_code 137 86 = some (.iload 3, 87) := by decide +kernel
theorem c_137_87 : ax_code 137 87 = some (.aload 1, 88) := by decide +kernel
theorem c_137_88 : ax_code 137 88 = some (.aload 0, 89) := by decide +kernel
theorem c_137_89 : ax_code 137 89 = some (.getfield 193, 92) := by decide +kernel
theorem c_137_92 : ax_code 137 92 = some (.iload 4, 94) := by decide +kernel
theorem c_137_94 : ax_code 137 94 = some (.iaload, 95) := by decide +kernel
theorem c_137_95 : ax_code 137 95 = some (.iload 3, 96) := by decide +kernel
theorem c_137_96 : ax_code 137 96 = some (.invokevirtual 97, 99) := by decide +kernel
theorem c_137_99 : ax_code 137 99 = some (.invokevirtual 138, 102) := by decide +kernel
theorem c_137_102 : ax_code 137 102 = some (.iinc 4 (1), 105) := by decide +kernel
theorem c_137_105 : ax_code 137 105 = some (.goto 76, 108) := by decide +kernel
theorem c_137_108 : ax_code 137 108 = some (.iconst 0, 109) := by decide +kernel
theorem c_137_109 : ax_code 137 109 = some (.istore 4, 111) := by decide +kernel
theorem c_137_111 : ax_code 137 111 = some (.iload 4, 113) := by decide +kernel
theorem c_137_113 : ax_code 137 113 = some (.aload 0, 114) := by decide +kernel
theorem c_137_114 : ax_code 137 114 = some (.getfield 192, 117) := by decide +kernel
theorem c_137_117 : ax_code 137 117 = some (.if_icmp .ge 155, 120) := by decide +kernel
theorem c_137_120 : ax_code 137 120 = some (.aload 0, 121) := by decide +kernel
theorem c_137_121 : ax_code 137 121 = some (.getfield 196, 124) := by decide +kernel
theorem c_137_124 : ax_code 137 124 = some (.iload 3, 125) := by decide +kernel
theorem c_137_125 : ax_code 137 125 = some (.iconst 6, 127) := by decide +kernel
theorem c_137_127 : ax_code 137 127 = some (.imul, 128) := by decide +kernel
theorem c_137_128 : ax_code 137 128 = some (.iload 4, 130) := by decide +kernel
theorem c_137_130 : ax_code 137 130 = some (.iadd, 131) := by decide +kernel
theorem c_137_131 : ax_code 137 131 = some (.aload 0, 132) := by decide +kernel
theorem c_137_132 : ax_code 137 132 = some (.iload 3, 133) := by decide +kernel
theorem c_137_133 : ax_code 137 133 = some (.aload 1, 134) := by decide +kernel
theorem c_137_134 : ax_code 137 134 = some (.aload 0, 135) := by decide +kernel
theorem c_137_135 : ax_code 137 135 = some (.getfield 193, 138) := by decide +kernel
theorem c_137_138 : ax_code 137 138 = some (.iload 4, 140) := by decide +kernel
theorem c_137_140 : ax_code 137 140 = some (.iaload, 141) := by decide +kernel
theorem c_137_141 : ax_code 137 141 = some (.iload 3, 142) := by decide +kernel
theorem c_137_142 : ax_code 137 142 = some (.invokevirtual 97, 145) := by decide +kernel
theorem c_137_145 : ax_code 137 145 = some (.invokevirtual 139, 148) := by decide +kernel
theorem c_137_148 : ax_code 137 148 = some (.iastore, 149) := by decide +kernel
theorem c_137_149 : ax_code 137 149 = some (.iinc 4 (1), 152) := by decide +kernel
theorem c_137_152 : ax_code 137 152 = some (.goto 111, 155) := by decide +kernel
theorem c_137_155 : ax_code 137 155 = some (.iinc 3 (1), 158) := by decide +kernel
theorem c_137_158 : ax_code 137 158 = some (.goto 60, 161) := by decide +kernel
theorem c_137_161 : ax_code 137 161 = some (.return_, 162) := by decide +kernel
theorem c_138_0 : ax_code 138 0 = some (.iload 1, 1) := by decide +kernel
theorem c_138_1 : ax_code 138 1 = some (.iconst 6, 3) := by decide +kernel
theorem c_138_3 : ax_code 138 3 = some (.imul, 4) := by decide +kernel
theorem c_138_4 : ax_code 138 4 = some (.istore 3, 5) := by decide +kernel
theorem c_138_5 : ax_code 138 5 = some (.aload 0, 6) := by decide +kernel
theorem c_138_6 : ax_code 138 6 = some (.getfield 195, 9) := by decide +kernel
theorem c_138_9 : ax_code 138 9 = some (.iload 1, 10) := by decide +kernel
theorem c_138_10 : ax_code 138 10 = some (.iaload, 11) := by decide +kernel
theorem c_138_11 : ax_code 138 11 = some (.istore 4, 13) := by decide +kernel
theorem c_138_13 : ax_code 138 13 = some (.iload 4, 15) := by decide +kernel
theorem c_138_15 : ax_code 138 15 = some (.ifCond .le 39, 18) := by decide +kernel
theorem c_138_18 : ax_code 138 18 = some (.aload 0, 19) := by decide +kernel
theorem c_138_19 : ax_code 138 19 = some (.getfield 194, 22) := by decide +kernel
theorem c_138_22 : ax_code 138 22 = some (.iload 3, 23) := by decide +kernel
theorem c_138_23 : ax_code 138 23 = some (.iload 4, 25) := by decide +kernel
theorem c_138_25 : ax_code 138 25 = some (.iadd, 26) := by decide +kernel
theorem c_138_26 : ax_code 138 26 = some (.iconst 1, 27) := by decide +kernel
theorem c_138_27 : ax_code 138 27 = some (.isub, 28) := by decide +kernel
theorem c_138_28 : ax_code 138 28 = some (.iaload, 29) := by decide +kernel
theorem c_138_29 : ax_code 138 29 = some (.iload 2, 30) := by decide +kernel
theorem c_138_30 : ax_code 138 30 = some (.if_icmp .le 39, 33) := by decide +kernel
theorem c_138_33 : ax_code 138 33 = some (.iinc 4 (-1), 36) := by decide +kernel
theorem c_138_36 : ax_code 138 36 = some (.goto 13, 39) := by decide +kernel
theorem c_138_39 : ax_code 138 39 = some (.iload 4, 41) := by decide +kernel
theorem c_138_41 : ax_code 138 41 = some (.ifCond .le 63, 44) := by decide +kernel
theorem c_138_44 : ax_code 138 44 = some (.aload 0, 45) := by decide +kernel
theorem c_138_45 : ax_code 138 45 = some (.getfield 194, 48) := by decide +kernel
theorem c_138_48 : ax_code 138 48 = some (.iload 3, 49) := by decide +kernel
theorem c_138_49 : ax_code 138 49 = some (.iload 4, 51) := by decide +kernel
theorem c_138_51 : ax_code 138 51 = some (.iadd, 52) := by decide +kernel
theorem c_138_52 : ax_code 138 52 = some (.iconst 1, 53) := by decide +kernel
theorem c_138_53 : ax_code 138 53 = some (.isub, 54) := by decide +kernel
theorem c_138_54 : ax_code 138 54 = some (.iaload, 55) := by decide +kernel
theorem c_138_55 : ax_code 138 55 = some (.iload 2, 56) := by decide +kernel
theorem c_138_56 : ax_code 138 56 = some (.if_icmp .ne 63, 59) := by decide +kernel
theorem c_138_59 : ax_code 138 59 = some (.iconst 1, 60) := by decide +kernel
theorem c_138_60 : ax_code 138 60 = some (.goto 64, 63) := by decide +kernel
theorem c_138_63 : ax_code 138 63 = some (.iconst 0, 64) := by decide +kernel
theorem c_138_64 : ax_code 138 64 = some (.istore 5, 66) := by decide +kernel
theorem c_138_66 : ax_code 138 66 = some (.iload 2, 67) := by decide +kernel
theorem c_138_67 : ax_code 138 67 = some (.iconst (-1000000), 69) := by decide +kernel
theorem c_138_69 : ax_code 138 69 = some (.if_icmp .eq 88, 72) := by decide +kernel
theorem c_138_72 : ax_code 138 72 = some (.iload 5, 74) := by decide +kernel
theorem c_138_74 : ax_code 138 74 = some (.ifCond .ne 88, 77) := by decide +kernel
theorem c_138_77 : ax_code 138 77 = some (.aload 0, 78) := by decide +kernel
theorem c_138_78 : ax_code 138 78 = some (.getfield 195, 81) := by decide +kernel
theorem c_138_81 : ax_code 138 81 = some (.iload 1, 82) := by decide +kernel
theorem c_138_82 : ax_code 138 82 = some (.iaload, 83) := by decide +kernel
theorem c_138_83 : ax_code 138 83 = some (.iconst 6, 85) := by decide +kernel
theorem c_138_85 : ax_code 138 85 = some (.if_icmp .lt 89, 88) := by decide +kernel
theorem c_138_88 : ax_code 138 88 = some (.return_, 89) := by decide +kernel
theorem c_138_89 : ax_code 138 89 = some (.aload 0, 90) := by decide +kernel
theorem c_138_90 : ax_code 138 90 = some (.getfield 195, 93) := by decide +kernel
theorem c_138_93 : ax_code 138 93 = some (.iload 1, 94) := by decide +kernel
theorem c_138_94 : ax_code 138 94 = some (.iaload, 95) := by decide +kernel
theorem c_138_95 : ax_code 138 95 = some (.istore 6, 97) := by decide +kernel
theorem c_138_97 : ax_code 138 97 = some (.iload 6, 99) := by decide +kernel
theorem c_138_99 : ax_code 138 99 = some (.iload 4, 101) := by decide +kernel
theorem c_138_101 : ax_code 138 101 = some (.if_icmp .le 130, 104) := by decide +kernel
theorem c_138_104 : ax_code 138 104 = some (.aload 0, 105) := by decide +kernel
theorem c_138_105 : ax_code 138 105 = some (.getfield 194, 108) := by decide +kernel
theorem c_138_108 : ax_code 138 108 = some (.iload 3, 109) := by decide +kernel
theorem c_138_109 : ax_code 138 109 = some (.iload 6, 111) := by decide +kernel
theorem c_138_111 : ax_code 138 111 = some (.iadd, 112) := by decide +kernel
theorem c_138_112 : ax_code 138 112 = some (.aload 0, 113) := by decide +kernel
theorem c_138_113 : ax_code 138 113 = some (.getfield 194, 116) := by decide +kernel
theorem c_138_116 : ax_code 138 116 = some (.iload 3, 117) := by decide +kernel
theorem c_138_117 : ax_code 138 117 = some (.iload 6, 119) := by decide +kernel
theorem c_138_119 : ax_code 138 119 = some (.iadd, 120) := by decide +kernel
theorem c_138_120 : ax_code 138 120 = some (.iconst 1, 121) := by decide +kernel
theorem c_138_121 : ax_code 138 121 = some (.isub, 122) := by decide +kernel
theorem c_138_122 : ax_code 138 122 = some (.iaload, 123) := by decide +kernel
theorem c_138_123 : ax_code 138 123 = some (.iastore, 124) := by decide +kernel
theorem c_138_124 : ax_code 138 124 = some (.iinc 6 (-1), 127) := by decide +kernel
theorem c_138_127 : ax_code 138 127 = some (.goto 97, 130) := by decide +kernel
theorem c_138_130 : ax_code 138 130 = some (.aload 0, 131) := by decide +kernel
theorem c_138_131 : ax_code 138 131 = some (.getfield 194, 134) := by decide +kernel
theorem c_138_134 : ax_code 138 134 = some (.iload 3, 135) := by decide +kernel
theorem c_138_135 : ax_code 138 135 = some (.iload 4, 137) := by decide +kernel
theorem c_138_137 : ax_code 138 137 = some (.iadd, 138) := by decide +kernel
theorem c_138_138 : ax_code 138 138 = some (.iload 2, 139) := by decide +kernel
theorem c_138_139 : ax_code 138 139 = some (.iastore, 140) := by decide +kernel
theorem c_138_140 : ax_code 138 140 = some (.aload 0, 141) := by decide +kernel
theorem c_138_141 : ax_code 138 141 = some (.getfield 195, 144) := by decide +kernel
theorem c_138_144 : ax_code 138 144 = some (.iload 1, 145) := by decide +kernel
theorem c_138_145 : ax_code 138 145 = some (.dup2, 146) := by decide +kernel
theorem c_138_146 : ax_code 138 146 = some (.iaload, 147) := by decide +kernel
theorem c_138_147 : ax_code 138 147 = some (.iconst 1, 148) := by decide +kernel
theorem c_138_148 : ax_code 138 148 = some (.iadd, 149) := by decide +kernel
theorem c_138_149 : ax_code 138 149 = some (.iastore, 150) := by decide +kernel
theorem c_138_150 : ax_code 138 150 = some (.return_, 151) := by decide +kernel
theorem c_139_0 : ax_code 139 0 = some (.iconst 0, 1) := by decide +kernel
theorem c_139_1 : ax_code 139 1 = some (.istore 3, 2) := by decide +kernel
theorem c_139_2 : ax_code 139 2 = some (.iconst 0, 3) := by decide +kernel
theorem c_139_3 : ax_code 139 3 = some (.istore 4, 5) := by decide +kernel
theorem c_139_5 : ax_code 139 5 = some (.iload 4, 7) := by decide +kernel
theorem c_139_7 : ax_code 139 7 = some (.aload 0, 8) := by decide +kernel
theorem c_139_8 : ax_code 139 8 = some (.getfield 195, 11) := by decide +kernel
theorem c_139_11 : ax_code 139 11 = some (.iload 1, 12) := by decide +kernel
theorem c_139_12 : ax_code 139 12 = some (.iaload, 13) := by decide +kernel
theorem c_139_13 : ax_code 139 13 = some (.if_icmp .ge 58, 16) := by decide +kernel
theorem c_139_16 : ax_code 139 16 = some (.iload 4, 18) := by decide +kernel
theorem c_139_18 : ax_code 139 18 = some (.iconst 6, 20) := by decide +kernel
theorem c_139_20 : ax_code 139 20 = some (.if_icmp .ge 58, 23) := by decide +kernel
theorem c_139_23 : ax_code 139 23 = some (.iload 2, 24) := by decide +kernel
theorem c_139_24 : ax_code 139 24 = some (.iconst (-1000000), 26) := by decide +kernel
theorem c_139_26 : ax_code 139 26 = some (.if_icmp .eq 45, 29) := by decide +kernel
theorem c_139_29 : ax_code 139 29 = some (.iload 2, 30) := by decide +kernel
theorem c_139_30 : ax_code 139 30 = some (.aload 0, 31) := by decide +kernel
theorem c_139_31 : ax_code 139 31 = some (.getfield 194, 34) := by decide +kernel
theorem c_139_34 : ax_code 139 34 = some (.iload 1, 35) := by decide +kernel
theorem c_139_35 : ax_code 139 35 = some (.iconst 6, 37) := by decide +kernel
theorem c_139_37 : ax_code 139 37 = some (.imul, 38) := by decide +kernel
theorem c_139_38 : ax_code 139 38 = some (.iload 4, 40) := by decide +kernel
theorem c_139_40 : ax_code 139 40 = some (.iadd, 41) := by decide +kernel
theorem c_139_41 : ax_code 139 41 = some (.iaload, 42) := by decide +kernel
theorem c_139_42 : ax_code 139 42 = some (.if_icmp .ne 52, 45) := by decide +kernel
theorem c_139_45 : ax_code 139 45 = some (.iload 3, 46) := by decide +kernel
theorem c_139_46 : ax_code 139 46 = some (.iconst 1, 47) := by decide +kernel
theorem c_139_47 : ax_code 139 47 = some (.iload 4, 49) := by decide +kernel
theorem c_139_49 : ax_code 139 49 = some (.ishl, 50) := by decide +kernel
theorem c_139_50 : ax_code 139 50 = some (.ior, 51) := by decide +kernel
theorem c_139_51 : ax_code 139 51 = some (.istore 3, 52) := by decide +kernel
theorem c_139_52 : ax_code 139 52 = some (.iinc 4 (1), 55) := by decide +kernel
theorem c_139_55 : ax_code 139 55 = some (.goto 5, 58) := by decide +kernel
theorem c_139_58 : ax_code 139 58 = some (.iload 3, 59) := by decide +kernel
theorem c_139_59 : ax_code 139 59 = some (.ireturn, 60) := by decide +kernel
