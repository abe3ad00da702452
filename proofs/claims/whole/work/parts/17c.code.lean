/-! instructions, made plain -/
theorem c_140_0 : ax_code 140 0 = some (.aload 0, 1) := by decide +kernel
theorem c_140_1 : ax_code 140 1 = some (.getfield 129, 4) := by decide +kernel
theorem c_140_4 : ax_code 140 4 = some (.aload 0, 5) := by decide +kernel
theorem c_140_5 : ax_code 140 5 = some (.getfield 128, 8) := by decide +kernel
theorem c_140_8 : ax_code 140 8 = some (.invokevirtual 141, 11) := by decide +kernel
theorem c_140_11 : ax_code 140 11 = some (.if_icmp .eq 18, 14) := by decide +kernel
theorem c_140_14 : ax_code 140 14 = some (.iconst 1, 15) := by decide +kernel
theorem c_140_15 : ax_code 140 15 = some (.goto 19, 18) := by decide +kernel
theorem c_140_18 : ax_code 140 18 = some (.iconst 0, 19) := by decide +kernel
theorem c_140_19 : ax_code 140 19 = some (.istore 1, 20) := by decide +kernel
theorem c_140_20 : ax_code 140 20 = some (.aload 0, 21) := by decide +kernel
theorem c_140_21 : ax_code 140 21 = some (.aload 0, 22) := by decide +kernel
theorem c_140_22 : ax_code 140 22 = some (.getfield 128, 25) := by decide +kernel
theorem c_140_25 : ax_code 140 25 = some (.invokevirtual 141, 28) := by decide +kernel
theorem c_140_28 : ax_code 140 28 = some (.putfield 129, 31) := by decide +kernel
theorem c_140_31 : ax_code 140 31 = some (.iconst 0, 32) := by decide +kernel
theorem c_140_32 : ax_code 140 32 = some (.istore 2, 33) := by decide +kernel
theorem c_140_33 : ax_code 140 33 = some (.iload 2, 34) := by decide +kernel
theorem c_140_34 : ax_code 140 34 = some (.aload 0, 35) := by decide +kernel
theorem c_140_35 : ax_code 140 35 = some (.getfield 129, 38) := by decide +kernel
theorem c_140_38 : ax_code 140 38 = some (.if_icmp .ge 136, 41) := by decide +kernel
theorem c_140_41 : ax_code 140 41 = some (.iload 2, 42) := by decide +kernel
theorem c_140_42 : ax_code 140 42 = some (.iconst 6, 44) := by decide +kernel
theorem c_140_44 : ax_code 140 44 = some (.if_icmp .ge 136, 47) := by decide +kernel
theorem c_140_47 : ax_code 140 47 = some (.iload 2, 48) := by decide +kernel
theorem c_140_48 : ax_code 140 48 = some (.invokestatic 142, 51) := by decide +kernel
theorem c_140_51 : ax_code 140 51 = some (.istore 3, 52) := by decide +kernel
theorem c_140_52 : ax_code 140 52 = some (.aload 0, 53) := by decide +kernel
theorem c_140_53 : ax_code 140 53 = some (.getfield 134, 56) := by decide +kernel
theorem c_140_56 : ax_code 140 56 = some (.iload 3, 57) := by decide +kernel
theorem c_140_57 : ax_code 140 57 = some (.iconst 1, 58) := by decide +kernel
theorem c_140_58 : ax_code 140 58 = some (.iload 2, 59) := by decide +kernel
theorem c_140_59 : ax_code 140 59 = some (.ishl, 60) := by decide +kernel
theorem c_140_60 : ax_code 140 60 = some (.iastore, 61) := by decide +kernel
theorem c_140_61 : ax_code 140 61 = some (.iconst 0, 62) := by decide +kernel
theorem c_140_62 : ax_code 140 62 = some (.istore 4, 64) := by decide +kernel
theorem c_140_64 : ax_code 140 64 = some (.iload 4, 66) := by decide +kernel
theorem c_140_66 : ax_code 140 66 = some (.iconst 11, 68) := by decide +kernel
theorem c_140_68 : ax_code 140 68 = some (.if_icmp .ge 130, 71) := by decide +kernel
theorem c_140_71 : ax_code 140 71 = some (.aload 0, 72) := by decide +kernel
theorem c_140_72 : ax_code 140 72 = some (.getfield 128, 75) := by decide +kernel
theorem c_140_75 : ax_code 140 75 = some (.iload 4, 77) := by decide +kernel
theorem c_140_77 : ax_code 140 77 = some (.iload 2, 78) := by decide +kernel
theorem c_140_78 : ax_code 140 78 = some (.invokevirtual 143, 81) := by decide +kernel
theorem c_140_81 : ax_code 140 81 = some (.istore 5, 83) := by decide +kernel
theorem c_140_83 : ax_code 140 83 = some (.iload 1, 84) := by decide +kernel
theorem c_140_84 : ax_code 140 84 = some (.ifCond .ne 104, 87) := by decide +kernel
theorem c_140_87 : ax_code 140 87 = some (.aload 0, 88) := by decide +kernel
theorem c_140_88 : ax_code 140 88 = some (.getfield 130, 91) := by decide +kernel
theorem c_140_91 : ax_code 140 91 = some (.iload 4, 93) := by decide +kernel
theorem c_140_93 : ax_code 140 93 = some (.iconst 11, 95) := by decide +kernel
theorem c_140_95 : ax_code 140 95 = some (.imul, 96) := by decide +kernel
theorem c_140_96 : ax_code 140 96 = some (.iload 3, 97) := by decide +kernel
theorem c_140_97 : ax_code 140 97 = some (.iadd, 98) := by decide +kernel
theorem c_140_98 : ax_code 140 98 = some (.iaload, 99) := by decide +kernel
theorem c_140_99 : ax_code 140 99 = some (.iload 5, 101) := by decide +kernel
theorem c_140_101 : ax_code 140 101 = some (.if_icmp .eq 108, 104) := by decide +kernel
theorem c_140_104 : ax_code 140 104 = some (.iconst 1, 105) := by decide +kernel
theorem c_140_105 : ax_code 140 105 = some (.goto 109, 108) := by decide +kernel
theorem c_140_108 : ax_code 140 108 = some (.iconst 0, 109) := by decide +kernel
theorem c_140_109 : ax_code 140 109 = some (.istore 1, 110) := by decide +kernel
theorem c_140_110 : ax_code 140 110 = some (.aload 0, 111) := by decide +kernel
theorem c_140_111 : ax_code 140 111 = some (.getfield 130, 114) := by decide +kernel
theorem c_140_114 : ax_code 140 114 = some (.iload 4, 116) := by decide +kernel
theorem c_140_116 : ax_code 140 116 = some (.iconst 11, 118) := by decide +kernel
theorem c_140_118 : ax_code 140 118 = some (.imul, 119) := by decide +kernel
theorem c_140_119 : ax_code 140 119 = some (.iload 3, 120) := by decide +kernel
theorem c_140_120 : ax_code 140 120 = some (.iadd, 121) := by decide +kernel
theorem c_140_121 : ax_code 140 121 = some (.iload 5, 123) := by decide +kernel
theorem c_140_123 : ax_code 140 123 = some (.iastore, 124) := by decide +kernel
theorem c_140_124 : ax_code 140 124 = some (.iinc 4 (1), 127) := by decide +kernel
theorem c_140_127 : ax_code 140 127 = some (.goto 64, 130) := by decide +kernel
theorem c_140_130 : ax_code 140 130 = some (.iinc 2 (1), 133) := by decide +kernel
theorem c_140_133 : ax_code 140 133 = some (.goto 33, 136) := by decide +kernel
theorem c_140_136 : ax_code 140 136 = some (.iload 1, 137) := by decide +kernel
theorem c_140_137 : ax_code 140 137 = some (.ireturn, 138) := by decide +kernel
theorem c_141_0 : ax_code 141 0 = some (.aload 0, 1) := by decide +kernel
theorem c_141_1 : ax_code 141 1 = some (.getfield 192, 4) := by decide +kernel
theorem c_141_4 : ax_code 141 4 = some (.ireturn, 5) := by decide +kernel
theorem c_142_0 : ax_code 142 0 = some (.iload 0, 1) := by decide +kernel
theorem c_142_1 : ax_code 142 1 = some (.ifCond .ne 8, 4) := by decide +kernel
theorem c_142_4 : ax_code 142 4 = some (.iconst 0, 5) := by decide +kernel
theorem c_142_5 : ax_code 142 5 = some (.goto 13, 8) := by decide +kernel
theorem c_142_8 : ax_code 142 8 = some (.iconst 2, 9) := by decide +kernel
theorem c_142_9 : ax_code 142 9 = some (.iload 0, 10) := by decide +kernel
theorem c_142_10 : ax_code 142 10 = some (.imul, 11) := by decide +kernel
theorem c_142_11 : ax_code 142 11 = some (.iconst 1, 12) := by decide +kernel
theorem c_142_12 : ax_code 142 12 = some (.isub, 13) := by decide +kernel
theorem c_142_13 : ax_code 142 13 = some (.ireturn, 14) := by decide +kernel
theorem c_143_0 : ax_code 143 0 = some (.iload 1, 1) := by decide +kernel
theorem c_143_1 : ax_code 143 1 = some (.invokestatic 82, 4) := by decide +kernel
theorem c_143_4 : ax_code 143 4 = some (.ifCond .eq 33, 7) := by decide +kernel
theorem c_143_7 : ax_code 143 7 = some (.iload 2, 8) := by decide +kernel
theorem c_143_8 : ax_code 143 8 = some (.ifCond .lt 33, 11) := by decide +kernel
theorem c_143_11 : ax_code 143 11 = some (.iload 2, 12) := by decide +kernel
theorem c_143_12 : ax_code 143 12 = some (.aload 0, 13) := by decide +kernel
theorem c_143_13 : ax_code 143 13 = some (.getfield 192, 16) := by decide +kernel
theorem c_143_16 : ax_code 143 16 = some (.if_icmp .ge 33, 19) := by decide +kernel
theorem c_143_19 : ax_code 143 19 = some (.aload 0, 20) := by decide +kernel
theorem c_143_20 : ax_code 143 20 = some (.getfield 196, 23) := by decide +kernel
theorem c_143_23 : ax_code 143 23 = some (.iload 1, 24) := by decide +kernel
theorem c_143_24 : ax_code 143 24 = some (.iconst 6, 26) := by decide +kernel
theorem c_143_26 : ax_code 143 26 = some (.imul, 27) := by decide +kernel
theorem c_143_27 : ax_code 143 27 = some (.iload 2, 28) := by decide +kernel
theorem c_143_28 : ax_code 143 28 = some (.iadd, 29) := by decide +kernel
theorem c_143_29 : ax_code 143 29 = some (.iaload, 30) := by decide +kernel
theorem c_143_30 : ax_code 143 30 = some (.goto 34, 33) := by decide +kernel
theorem c_143_33 : ax_code 143 33 = some (.iconst 0, 34) := by decide +kernel
theorem c_143_34 : ax_code 143 34 = some (.ireturn, 35) := by decide +kernel
theorem c_144_0 : ax_code 144 0 = some (.aload 0, 1) := by decide +kernel
theorem c_144_1 : ax_code 144 1 = some (.iconst 0, 2) := by decide +kernel
theorem c_144_2 : ax_code 144 2 = some (.putfield 138, 5) := by decide +kernel
theorem c_144_5 : ax_code 144 5 = some (.iconst 0, 6) := by decide +kernel
theorem c_144_6 : ax_code 144 6 = some (.istore 1, 7) := by decide +kernel
theorem c_144_7 : ax_code 144 7 = some (.iload 1, 8) := by decide +kernel
theorem c_144_8 : ax_code 144 8 = some (.iconst 11, 10) := by decide +kernel
theorem c_144_10 : ax_code 144 10 = some (.if_icmp .ge 102, 13) := by decide +kernel
theorem c_144_13 : ax_code 144 13 = some (.iconst (-1), 14) := by decide +kernel
theorem c_144_14 : ax_code 144 14 = some (.istore 2, 15) := by decide +kernel
theorem c_144_15 : ax_code 144 15 = some (.iconst 0, 16) := by decide +kernel
theorem c_144_16 : ax_code 144 16 = some (.istore 3, 17) := by decide +kernel
theorem c_144_17 : ax_code 144 17 = some (.iconst 0, 18) := by decide +kernel
theorem c_144_18 : ax_code 144 18 = some (.istore 4, 20) := by decide +kernel
theorem c_144_20 : ax_code 144 20 = some (.iload 4, 22) := by decide +kernel
theorem c_144_22 : ax_code 144 22 = some (.aload 0, 23) := by decide +kernel
theorem c_144_23 : ax_code 144 23 = some (.getfield 129, 26) := by decide +kernel
theorem c_144_26 : ax_code 144 26 = some (.if_icmp .ge 61, 29) := by decide +kernel
theorem c_144_29 : ax_code 144 29 = some (.iload 2, 30) := by decide +kernel
theorem c_144_30 : ax_code 144 30 = some (.aload 0, 31) := by decide +kernel
theorem c_144_31 : ax_code 144 31 = some (.getfield 128, 34) := by decide +kernel
theorem c_144_34 : ax_code 144 34 = some (.iload 1, 35) := by decide +kernel
theorem c_144_35 : ax_code 144 35 = some (.iload 4, 37) := by decide +kernel
theorem c_144_37 : ax_code 144 37 = some (.invokevirtual 143, 40) := by decide +kernel
theorem c_144_40 : ax_code 144 40 = some (.iand, 41) := by decide +kernel
theorem c_144_41 : ax_code 144 41 = some (.istore 2, 42) := by decide +kernel
theorem c_144_42 : ax_code 144 42 = some (.iload 3, 43) := by decide +kernel
theorem c_144_43 : ax_code 144 43 = some (.aload 0, 44) := by decide +kernel
theorem c_144_44 : ax_code 144 44 = some (.getfield 128, 47) := by decide +kernel
theorem c_144_47 : ax_code 144 47 = some (.iload 1, 48) := by decide +kernel
theorem c_144_48 : ax_code 144 48 = some (.iload 4, 50) := by decide +kernel
theorem c_144_50 : ax_code 144 50 = some (.invokevirtual 143, 53) := by decide +kernel
theorem c_144_53 : ax_code 144 53 = some (.ior, 54) := by decide +kernel
theorem c_144_54 : ax_code 144 54 = some (.istore 3, 55) := by decide +kernel
theorem c_144_55 : ax_code 144 55 = some (.iinc 4 (1), 58) := by decide +kernel
theorem c_144_58 : ax_code 144 58 = some (.goto 20, 61) := by decide +kernel
theorem c_144_61 : ax_code 144 61 = some (.aload 0, 62) := by decide +kernel
theorem c_144_62 : ax_code 144 62 = some (.getfield 144, 65) := by decide +kernel
theorem c_144_65 : ax_code 144 65 = some (.iload 1, 66) := by decide +kernel
theorem c_144_66 : ax_code 144 66 = some (.iload 2, 67) := by decide +kernel
theorem c_144_67 : ax_code 144 67 = some (.iastore, 68) := by decide +kernel
theorem c_144_68 : ax_code 144 68 = some (.iload 2, 69) := by decide +kernel
theorem c_144_69 : ax_code 144 69 = some (.ifCond .ne 96, 72) := by decide +kernel
theorem c_144_72 : ax_code 144 72 = some (.iload 3, 73) := by decide +kernel
theorem c_144_73 : ax_code 144 73 = some (.ifCond .eq 96, 76) := by decide +kernel
theorem c_144_76 : ax_code 144 76 = some (.aload 0, 77) := by decide +kernel
theorem c_144_77 : ax_code 144 77 = some (.getfield 137, 80) := by decide +kernel
theorem c_144_80 : ax_code 144 80 = some (.aload 0, 81) := by decide +kernel
theorem c_144_81 : ax_code 144 81 = some (.getfield 138, 84) := by decide +kernel
theorem c_144_84 : ax_code 144 84 = some (.iload 1, 85) := by decide +kernel
theorem c_144_85 : ax_code 144 85 = some (.iastore, 86) := by decide +kernel
theorem c_144_86 : ax_code 144 86 = some (.aload 0, 87) := by decide +kernel
theorem c_144_87 : ax_code 144 87 = some (.dup, 88) := by decide +kernel
theorem c_144_88 : ax_code 144 88 = some (.getfield 138, 91) := by decide +kernel
theorem c_144_91 : ax_code 144 91 = some (.iconst 1, 92) := by decide +kernel
theorem c_144_92 : ax_code 144 92 = some (.iadd, 93) := by decide +kernel
theorem c_144_93 : ax_code 144 93 = some (.putfield 138, 96) := by decide +kernel
theorem c_144_96 : ax_code 144 96 = some (.iinc 1 (1), 99) := by decide +kernel
theorem c_144_99 : ax_code 144 99 = some (.goto 7, 102) := by decide +kernel
theorem c_144_102 : ax_code 144 102 = some (.return_, 103) := by decide +kernel
theorem c_145_0 : ax_code 145 0 = some (.iload 1, 1) := by decide +kernel
theorem c_145_1 : ax_code 145 1 = some (.istore 2, 2) := by decide +kernel
theorem c_145_2 : ax_code 145 2 = some (.aload 0, 3) := by decide +kernel
theorem c_145_3 : ax_code 145 3 = some (.getfield 131, 6) := by decide +kernel
theorem c_145_6 : ax_code 145 6 = some (.iconst 0, 7) := by decide +kernel
theorem c_145_7 : ax_code 145 7 = some (.iconst (-1000000), 9) := by decide +kernel
theorem c_145_9 : ax_code 145 9 = some (.iastore, 10) := by decide +kernel
theorem c_145_10 : ax_code 145 10 = some (.aload 0, 11) := by decide +kernel
theorem c_145_11 : ax_code 145 11 = some (.iconst 0, 12) := by decide +kernel
theorem c_145_12 : ax_code 145 12 = some (.putfield 136, 15) := by decide +kernel
theorem c_145_15 : ax_code 145 15 = some (.iconst 1, 16) := by decide +kernel
theorem c_145_16 : ax_code 145 16 = some (.istore 3, 17) := by decide +kernel
theorem c_145_17 : ax_code 145 17 = some (.iload 3, 18) := by decide +kernel
theorem c_145_18 : ax_code 145 18 = some (.aload 0, 19) := by decide +kernel
theorem c_145_19 : ax_code 145 19 = some (.getfield 129, 22) := by decide +kernel
theorem c_145_22 : ax_code 145 22 = some (.if_icmp .ge 58, 25) := by decide +kernel
theorem c_145_25 : ax_code 145 25 = some (.iload 3, 26) := by decide +kernel
theorem c_145_26 : ax_code 145 26 = some (.iconst 6, 28) := by decide +kernel
theorem c_145_28 : ax_code 145 28 = some (.if_icmp .ge 58, 31) := by decide +kernel
theorem c_145_31 : ax_code 145 31 = some (.iconst 2, 32) := by decide +kernel
theorem c_145_32 : ax_code 145 32 = some (.iload 3, 33) := by decide +kernel
theorem c_145_33 : ax_code 145 33 = some (.imul, 34) := by decide +kernel
theorem c_145_34 : ax_code 145 34 = some (.iconst 1, 35) := by decide +kernel
theorem c_145_35 : ax_code 145 35 = some (.isub, 36) := by decide +kernel
theorem c_145_36 : ax_code 145 36 = some (.istore 4, 38) := by decide +kernel
theorem c_145_38 : ax_code 145 38 = some (.aload 0, 39) := by decide +kernel
theorem c_145_39 : ax_code 145 39 = some (.iload 3, 40) := by decide +kernel
theorem c_145_40 : ax_code 145 40 = some (.iload 2, 41) := by decide +kernel
theorem c_145_41 : ax_code 145 41 = some (.iload 4, 43) := by decide +kernel
theorem c_145_43 : ax_code 145 43 = some (.irem, 44) := by decide +kernel
theorem c_145_44 : ax_code 145 44 = some (.invokevirtual 146, 47) := by decide +kernel
theorem c_145_47 : ax_code 145 47 = some (.iload 2, 48) := by decide +kernel
theorem c_145_48 : ax_code 145 48 = some (.iload 4, 50) := by decide +kernel
theorem c_145_50 : ax_code 145 50 = some (.idiv, 51) := by decide +kernel
theorem c_145_51 : ax_code 145 51 = some (.istore 2, 52) := by decide +kernel
theorem c_145_52 : ax_code 145 52 = some (.iinc 3 (1), 55) := by decide +kernel
theorem c_145_55 : ax_code 145 55 = some (.goto 17, 58) := by decide +kernel
theorem c_145_58 : ax_code 145 58 = some (.return_, 59) := by decide +kernel
theorem c_146_0 : ax_code 146 0 = some (.iconst 2, 1) := by decide +kernel
theorem c_146_1 : ax_code 146 1 = some (.iload 1, 2) := by decide +kernel
theorem c_146_2 : ax_code 146 2 = some (.imul, 3) := by decide +kernel
theorem c_146_3 : ax_code 146 3 = some (.istore 3, 4) := by decide +kernel
theorem c_146_4 : ax_code 146 4 = some (.aload 0, 5) := by decide +kernel
theorem c_146_5 : ax_code 146 5 = some (.getfield 131, 8) := by decide +kernel
theorem c_146_8 : ax_code 146 8 = some (.iload 2, 9) := by decide +kernel
theorem c_146_9 : ax_code 146 9 = some (.iaload, 10) := by decide +kernel
theorem c_146_10 : ax_code 146 10 = some (.istore 4, 12) := by decide +kernel
theorem c_146_12 : ax_code 146 12 = some (.aload 0, 13) := by decide +kernel
theorem c_146_13 : ax_code 146 13 = some (.getfield 132, 16) := by decide +kernel
theorem c_146_16 : ax_code 146 16 = some (.iload 3, 17) := by decide +kernel
theorem c_146_17 : ax_code 146 17 = some (.iload 2, 18) := by decide +kernel
theorem c_146_18 : ax_code 146 18 = some (.iastore, 19) := by decide +kernel
theorem c_146_19 : ax_code 146 19 = some (.aload 0, 20) := by decide +kernel
theorem c_146_20 : ax_code 146 20 = some (.getfield 133, 23) := by decide +kernel
theorem c_146_23 : ax_code 146 23 = some (.iload 3, 24) := by decide +kernel
theorem c_146_24 : ax_code 146 24 = some (.iload 1, 25) := by decide +kernel
theorem c_146_25 : ax_code 146 25 = some (.invokestatic 142, 28) := by decide +kernel
theorem c_146_28 : ax_code 146 28 = some (.iastore, 29) := by decide +kernel
theorem c_146_29 : ax_code 146 29 = some (.aload 0, 30) := by decide +kernel
theorem c_146_30 : ax_code 146 30 = some (.getfield 131, 33) := by decide +kernel
theorem c_146_33 : ax_code 146 33 = some (.iload 3, 34) := by decide +kernel
theorem c_146_34 : ax_code 146 34 = some (.iload 4, 36) := by decide +kernel
theorem c_146_36 : ax_code 146 36 = some (.iastore, 37) := by decide +kernel
theorem c_146_37 : ax_code 146 37 = some (.aload 0, 38) := by decide +kernel
theorem c_146_38 : ax_code 146 38 = some (.getfield 131, 41) := by decide +kernel
theorem c_146_41 : ax_code 146 41 = some (.iload 2, 42) := by decide +kernel
theorem c_146_42 : ax_code 146 42 = some (.iload 3, 43) := by decide +kernel
theorem c_146_43 : ax_code 146 43 = some (.iastore, 44) := by decide +kernel
theorem c_146_44 : ax_code 146 44 = some (.aload 0, 45) := by decide +kernel
theorem c_146_45 : ax_code 146 45 = some (.getfield 131, 48) := by decide +kernel
theorem c_146_48 : ax_code 146 48 = some (.iload 1, 49) := by decide +kernel
theorem c_146_49 : ax_code 146 49 = some (.invokestatic 142, 52) := by decide +kernel
theorem c_146_52 : ax_code 146 52 = some (.iload 3, 53) := by decide +kernel
theorem c_146_53 : ax_code 146 53 = some (.iastore, 54) := by decide +kernel
theorem c_146_54 : ax_code 146 54 = some (.iload 4, 56) := by decide +kernel
theorem c_146_56 : ax_code 146 56 = some (.iconst (-1000000), 58) := by decide +kernel
theorem c_146_58 : ax_code 146 58 = some (.if_icmp .eq 83, 61) := by decide +kernel
theorem c_146_61 : ax_code 146 61 = some (.aload 0, 62) := by decide +kernel
theorem c_146_62 : ax_code 146 62 = some (.getfield 132, 65) := by decide +kernel
theorem c_146_65 : ax_code 146 65 = some (.iload 4, 67) := by decide +kernel
theorem c_146_67 : ax_code 146 67 = some (.iaload, 68) := by decide +kernel
theorem c_146_68 : ax_code 146 68 = some (.iload 2, 69) := by decide +kernel
theorem c_146_69 : ax_code 146 69 = some (.if_icmp .ne 83, 72) := by decide +kernel
theorem c_146_72 : ax_code 146 72 = some (.aload 0, 73) := by decide +kernel
theorem c_146_73 : ax_code 146 73 = some (.getfield 132, 76) := by decide +kernel
theorem c_146_76 : ax_code 146 76 = some (.iload 4, 78) := by decide +kernel
theorem c_146_78 : ax_code 146 78 = some (.iload 3, 79) := by decide +kernel
theorem c_146_79 : ax_code 146 79 = some (.iastore, 80) := by decide +kernel
theorem c_146_80 : ax_code 146 80 = some (.goto 98, 83) := by decide +kernel
theorem c_146_83 : ax_code 146 83 = some (.iload 4, 85) := by decide +kernel
theorem c_146_85 : ax_code 146 85 = some (.iconst (-1000000), 87) := by decide +kernel
theorem c_146_87 : ax_code 146 87 = some (.if_icmp .eq 98, 90) := by decide +kernel
theorem c_146_90 : ax_code 146 90 = some (.aload 0, 91) := by decide +kernel
theorem c_146_91 : ax_code 146 91 = some (.getfield 133, 94) := by decide +kernel
theorem c_146_94 : ax_code 146 94 = some (.iload 4, 96) := by decide +kernel
theorem c_146_96 : ax_code 146 96 = some (.iload 3, 97) := by decide +kernel
theorem c_146_97 : ax_code 146 97 = some (.iastore, 98) := by decide +kernel
theorem c_146_98 : ax_code 146 98 = some (.aload 0, 99) := by decide +kernel
theorem c_146_99 : ax_code 146 99 = some (.getfield 136, 102) := by decide +kernel
theorem c_146_102 : ax_code 146 102 = some (.istore 5, 104) := by decide +kernel
theorem c_146_104 : ax_code 146 104 = some (.iload 5, 106) := by decide +kernel
theorem c_146_106 : ax_code 146 106 = some (.ifCond .le 144, 109) := by decide +kernel
theorem c_146_109 : ax_code 146 109 = some (.aload 0, 110) := by decide +kernel
theorem c_146_110 : ax_code 146 110 = some (.getfield 135, 113) := by decide +kernel
theorem c_146_113 : ax_code 146 113 = some (.iload 5, 115) := by decide +kernel
theorem c_146_115 : ax_code 146 115 = some (.iconst 1, 116) := by decide +kernel
theorem c_146_116 : ax_code 146 116 = some (.isub, 117) := by decide +kernel
theorem c_146_117 : ax_code 146 117 = some (.iaload, 118) := by decide +kernel
theorem c_146_118 : ax_code 146 118 = some (.iload 2, 119) := by decide +kernel
theorem c_146_119 : ax_code 146 119 = some (.if_icmp .eq 144, 122) := by decide +kernel
theorem c_146_122 : ax_code 146 122 = some (.aload 0, 123) := by decide +kernel
theorem c_146_123 : ax_code 146 123 = some (.getfield 135, 126) := by decide +kernel
theorem c_146_126 : ax_code 146 126 = some (.iload 5, 128) := by decide +kernel
theorem c_146_128 : ax_code 146 128 = some (.aload 0, 129) := by decide +kernel
theorem c_146_129 : ax_code 146 129 = some (.getfield 135, 132) := by decide +kernel
theorem c_146_132 : ax_code 146 132 = some (.iload 5, 134) := by decide +kernel
theorem c_146_134 : ax_code 146 134 = some (.iconst 1, 135) := by decide +kernel
theorem c_146_135 : ax_code 146 135 = some (.isub, 136) := by decide +kernel
theorem c_146_136 : ax_code 146 136 = some (.iaload, 137) := by decide +kernel
theorem c_146_137 : ax_code 146 137 = some (.iastore, 138) := by decide +kernel
theorem c_146_138 : ax_code 146 138 = some (.iinc 5 (-1), 141) := by decide +kernel
theorem c_146_141 : ax_code 146 141 = some (.goto 104, 144) := by decide +kernel
theorem c_146_144 : ax_code 146 144 = some (.aload 0, 145) := by decide +kernel
theorem c_146_145 : ax_code 146 145 = some (.getfield 135, 148) := by decide +kernel
theorem c_146_148 : ax_code 146 148 = some (.iload 5, 150) := by decide +kernel
theorem c_146_150 : ax_code 146 150 = some (.iload 3, 151) := by decide +kernel
theorem c_146_151 : ax_code 146 151 = some (.iastore, 152) := by decide +kernel
theorem c_146_152 : ax_code 146 152 = some (.aload 0, 153) := by decide +kernel
theorem c_146_153 : ax_code 146 153 = some (.dup, 154) := by decide +kernel
theorem c_146_154 : ax_code 146 154 = some (.getfield 136, 157) := by decide +kernel
theorem c_146_157 : ax_code 146 157 = some (.iconst 1, 158) := by decide +kernel
theorem c_146_158 : ax_code 146 158 = some (.iadd, 159) := by decide +kernel
theorem c_146_159 : ax_code 146 159 = some (.putfield 136, 162) := by decide +kernel
theorem c_146_162 : ax_code 146 162 = some (.return_, 163) := by decide +kernel
theorem c_147_0 : ax_code 147 0 = some (.aload 0, 1) := by decide +kernel
theorem c_147_1 : ax_code 147 1 = some (.iconst 0, 2) := by decide +kernel
theorem c_147_2 : ax_code 147 2 = some (.putfield 139, 5) := by decide +kernel
theorem c_147_5 : ax_code 147 5 = some (.iconst 0, 6) := by decide +kernel
theorem c_147_6 : ax_code 147 6 = some (.istore 1, 7) := by decide +kernel
theorem c_147_7 : ax_code 147 7 = some (.iload 1, 8) := by decide +kernel
theorem c_147_8 : ax_code 147 8 = some (.aload 0, 9) := by decide +kernel
theorem c_147_9 : ax_code 147 9 = some (.getfield 138, 12) := by decide +kernel
theorem c_147_12 : ax_code 147 12 = some (.if_icmp .ge 147, 15) := by decide +kernel
theorem c_147_15 : ax_code 147 15 = some (.aload 0, 16) := by decide +kernel
theorem c_147_16 : ax_code 147 16 = some (.getfield 139, 19) := by decide +kernel
theorem c_147_19 : ax_code 147 19 = some (.aload 0, 20) := by decide +kernel
theorem c_147_20 : ax_code 147 20 = some (.getfield 140, 23) := by decide +kernel
theorem c_147_23 : ax_code 147 23 = some (.if_icmp .gt 147, 26) := by decide +kernel
theorem c_147_26 : ax_code 147 26 = some (.aload 0, 27) := by decide +kernel
theorem c_147_27 : ax_code 147 27 = some (.getfield 137, 30) := by decide +kernel
theorem c_147_30 : ax_code 147 30 = some (.iload 1, 31) := by decide +kernel
theorem c_147_31 : ax_code 147 31 = some (.iaload, 32) := by decide +kernel
theorem c_147_32 : ax_code 147 32 = some (.iconst 11, 34) := by decide +kernel
theorem c_147_34 : ax_code 147 34 = some (.imul, 35) := by decide +kernel
theorem c_147_35 : ax_code 147 35 = some (.istore 2, 36) := by decide +kernel
theorem c_147_36 : ax_code 147 36 = some (.iconst 0, 37) := by decide +kernel
theorem c_147_37 : ax_code 147 37 = some (.istore 3, 38) := by decide +kernel
theorem c_147_38 : ax_code 147 38 = some (.iload 3, 39) := by decide +kernel
theorem c_147_39 : ax_code 147 39 = some (.aload 0, 40) := by decide +kernel
theorem c_147_40 : ax_code 147 40 = some (.getfield 136, 43) := by decide +kernel
theorem c_147_43 : ax_code 147 43 = some (.if_icmp .ge 141, 46) := by decide +kernel
theorem c_147_46 : ax_code 147 46 = some (.aload 0, 47) := by decide +kernel
theorem c_147_47 : ax_code 147 47 = some (.getfield 135, 50) := by decide +kernel
theorem c_147_50 : ax_code 147 50 = some (.iload 3, 51) := by decide +kernel
theorem c_147_51 : ax_code 147 51 = some (.iaload, 52) := by decide +kernel
theorem c_147_52 : ax_code 147 52 = some (.istore 4, 54) := by decide +kernel
theorem c_147_54 : ax_code 147 54 = some (.aload 0, 55) := by decide +kernel
theorem c_147_55 : ax_code 147 55 = some (.getfield 130, 58) := by decide +kernel
theorem c_147_58 : ax_code 147 58 = some (.iload 2, 59) := by decide +kernel
theorem c_147_59 : ax_code 147 59 = some (.aload 0, 60) := by decide +kernel
theorem c_147_60 : ax_code 147 60 = some (.getfield 132, 63) := by decide +kernel
theorem c_147_63 : ax_code 147 63 = some (.iload 4, 65) := by decide +kernel
theorem c_147_65 : ax_code 147 65 = some (.iaload, 66) := by decide +kernel
theorem c_147_66 : ax_code 147 66 = some (.iadd, 67) := by decide +kernel
theorem c_147_67 : ax_code 147 67 = some (.iaload, 68) := by decide +kernel
theorem c_147_68 : ax_code 147 68 = some (.istore 5, 70) := by decide +kernel
theorem c_147_70 : ax_code 147 70 = some (.aload 0, 71) := by decide +kernel
theorem c_147_71 : ax_code 147 71 = some (.getfield 130, 74) := by decide +kernel
theorem c_147_74 : ax_code 147 74 = some (.iload 2, 75) := by decide +kernel
theorem c_147_75 : ax_code 147 75 = some (.aload 0, 76) := by decide +kernel
theorem c_147_76 : ax_code 147 76 = some (.getfield 133, 79) := by decide +kernel
theorem c_147_79 : ax_code 147 79 = some (.iload 4, 81) := by decide +kernel
theorem c_147_81 : ax_code 147 81 = some (.iaload, 82) := by decide +kernel
theorem c_147_82 : ax_code 147 82 = some (.iadd, 83) := by decide +kernel
theorem c_147_83 : ax_code 147 83 = some (.iaload, 84) := by decide +kernel
theorem c_147_84 : ax_code 147 84 = some (.istore 6, 86) := by decide +kernel
theorem c_147_86 : ax_code 147 86 = some (.iload 5, 88) := by decide +kernel
theorem c_147_88 : ax_code 147 88 = some (.iload 6, 90) := by decide +kernel
theorem c_147_90 : ax_code 147 90 = some (.iand, 91) := by decide +kernel
theorem c_147_91 : ax_code 147 91 = some (.ifCond .eq 111, 94) := by decide +kernel
theorem c_147_94 : ax_code 147 94 = some (.aload 0, 95) := by decide +kernel
theorem c_147_95 : ax_code 147 95 = some (.getfield 130, 98) := by decide +kernel
theorem c_147_98 : ax_code 147 98 = some (.iload 2, 99) := by decide +kernel
theorem c_147_99 : ax_code 147 99 = some (.iload 4, 101) := by decide +kernel
theorem c_147_101 : ax_code 147 101 = some (.iadd, 102) := by decide +kernel
theorem c_147_102 : ax_code 147 102 = some (.iload 5, 104) := by decide +kernel
theorem c_147_104 : ax_code 147 104 = some (.iload 6, 106) := by decide +kernel
theorem c_147_106 : ax_code 147 106 = some (.iand, 107) := by decide +kernel
theorem c_147_107 : ax_code 147 107 = some (.iastore, 108) := by decide +kernel
theorem c_147_108 : ax_code 147 108 = some (.goto 135, 111) := by decide +kernel
theorem c_147_111 : ax_code 147 111 = some (.aload 0, 112) := by decide +kernel
theorem c_147_112 : ax_code 147 112 = some (.getfield 130, 115) := by decide +kernel
theorem c_147_115 : ax_code 147 115 = some (.iload 2, 116) := by decide +kernel
theorem c_147_116 : ax_code 147 116 = some (.iload 4, 118) := by decide +kernel
theorem c_147_118 : ax_code 147 118 = some (.iadd, 119) := by decide +kernel
theorem c_147_119 : ax_code 147 119 = some (.iload 5, 121) := by decide +kernel
theorem c_147_121 : ax_code 147 121 = some (.iload 6, 123) := by decide +kernel
theorem c_147_123 : ax_code 147 123 = some (.ior, 124) := by decide +kernel
theorem c_147_124 : ax_code 147 124 = some (.iastore, 125) := by decide +kernel
theorem c_147_125 : ax_code 147 125 = some (.aload 0, 126) := by decide +kernel
theorem c_147_126 : ax_code 147 126 = some (.dup, 127) := by decide +kernel
theorem c_147_127 : ax_code 147 127 = some (.getfield 139, 130) := by decide +kernel
theorem c_147_130 : ax_code 147 130 = some (.iconst 1, 131) := by decide +kernel
theorem c_147_131 : ax_code 147 131 = some (.iadd, 132) := by decide +kernel
theorem c_147_132 : ax_code 147 132 = some (.putfield 139, 135) := by decide +kernel
theorem c_147_135 : ax_code 147 135 = some (.iinc 3 (1), 138) := by decide +kernel
theorem c_147_138 : ax_code 147 138 = some (.goto 38, 141) := by decide +kernel
theorem c_147_141 : ax_code 147 141 = some (.iinc 1 (1), 144) := by decide +kernel
theorem c_147_144 : ax_code 147 144 = some (.goto 7, 147) := by decide +kernel
theorem c_147_147 : ax_code 147 147 = some (.return_, 148) := by decide +kernel
theorem c_148_0 : ax_code 148 0 = some (.aload 0, 1) := by decide +kernel
theorem c_148_1 : ax_code 148 1 = some (.getfield 139, 4) := by decide +kernel
theorem c_148_4 : ax_code 148 4 = some (.aload 0, 5) := by decide +kernel
theorem c_148_5 : ax_code 148 5 = some (.getfield 140, 8) := by decide +kernel
theorem c_148_8 : ax_code 148 8 = some (.if_icmp .gt 19, 11) := by decide +kernel
theorem c_148_11 : ax_code 148 11 = some (.aload 0, 12) := by decide +kernel
theorem c_148_12 : ax_code 148 12 = some (.getfield 136, 15) := by decide +kernel
theorem c_148_15 : ax_code 148 15 = some (.iconst 1, 16) := by decide +kernel
theorem c_148_16 : ax_code 148 16 = some (.if_icmp .ge 20, 19) := by decide +kernel
theorem c_148_19 : ax_code 148 19 = some (.return_, 20) := by decide +kernel
theorem c_148_20 : ax_code 148 20 = some (.aload 0, 21) := by decide +kernel
theorem c_148_21 : ax_code 148 21 = some (.getfield 139, 24) := by decide +kernel
theorem c_148_24 : ax_code 148 24 = some (.aload 0, 25) := by decide +kernel
theorem c_148_25 : ax_code 148 25 = some (.getfield 140, 28) := by decide +kernel
theorem c_148_28 : ax_code 148 28 = some (.if_icmp .ge 35, 31) := by decide +kernel
theorem c_148_31 : ax_code 148 31 = some (.iconst 1, 32) := by decide +kernel
theorem c_148_32 : ax_code 148 32 = some (.goto 36, 35) := by decide +kernel
theorem c_148_35 : ax_code 148 35 = some (.iconst 0, 36) := by decide +kernel
theorem c_148_36 : ax_code 148 36 = some (.istore 1, 37) := by decide +kernel
theorem c_148_37 : ax_code 148 37 = some (.iload 1, 38) := by decide +kernel
theorem c_148_38 : ax_code 148 38 = some (.ifCond .eq 61, 41) := by decide +kernel
theorem c_148_41 : ax_code 148 41 = some (.aload 0, 42) := by decide +kernel
theorem c_148_42 : ax_code 148 42 = some (.aload 0, 43) := by decide +kernel
theorem c_148_43 : ax_code 148 43 = some (.getfield 139, 46) := by decide +kernel
theorem c_148_46 : ax_code 148 46 = some (.putfield 140, 49) := by decide +kernel
theorem c_148_49 : ax_code 148 49 = some (.aload 0, 50) := by decide +kernel
theorem c_148_50 : ax_code 148 50 = some (.iconst 0, 51) := by decide +kernel
theorem c_148_51 : ax_code 148 51 = some (.putfield 141, 54) := by decide +kernel
theorem c_148_54 : ax_code 148 54 = some (.aload 0, 55) := by decide +kernel
theorem c_148_55 : ax_code 148 55 = some (.ldc2_w 6, 58) := by decide +kernel
theorem c_148_58 : ax_code 148 58 = some (.putfield 143, 61) := by decide +kernel
theorem c_148_61 : ax_code 148 61 = some (.aload 0, 62) := by decide +kernel
theorem c_148_62 : ax_code 148 62 = some (.dup, 63) := by decide +kernel
theorem c_148_63 : ax_code 148 63 = some (.getfield 141, 66) := by decide +kernel
theorem c_148_66 : ax_code 148 66 = some (.iconst 1, 67) := by decide +kernel
theorem c_148_67 : ax_code 148 67 = some (.iadd, 68) := by decide +kernel
theorem c_148_68 : ax_code 148 68 = some (.putfield 141, 71) := by decide +kernel
theorem c_148_71 : ax_code 148 71 = some (.aload 0, 72) := by decide +kernel
theorem c_148_72 : ax_code 148 72 = some (.dup, 73) := by decide +kernel
theorem c_148_73 : ax_code 148 73 = some (.getfield 143, 76) := by decide +kernel
theorem c_148_76 : ax_code 148 76 = some (.aload 0, 77) := by decide +kernel
theorem c_148_77 : ax_code 148 77 = some (.invokevirtual 149, 80) := by decide +kernel
theorem c_148_80 : ax_code 148 80 = some (.land, 81) := by decide +kernel
theorem c_148_81 : ax_code 148 81 = some (.putfield 143, 84) := by decide +kernel
theorem c_148_84 : ax_code 148 84 = some (.iconst 0, 85) := by decide +kernel
theorem c_148_85 : ax_code 148 85 = some (.istore 2, 86) := by decide +kernel
theorem c_148_86 : ax_code 148 86 = some (.iload 2, 87) := by decide +kernel
theorem c_148_87 : ax_code 148 87 = some (.aload 0, 88) := by decide +kernel
theorem c_148_88 : ax_code 148 88 = some (.getfield 138, 91) := by decide +kernel
theorem c_148_91 : ax_code 148 91 = some (.if_icmp .ge 154, 94) := by decide +kernel
theorem c_148_94 : ax_code 148 94 = some (.aload 0, 95) := by decide +kernel
theorem c_148_95 : ax_code 148 95 = some (.getfield 137, 98) := by decide +kernel
theorem c_148_98 : ax_code 148 98 = some (.iload 2, 99) := by decide +kernel
theorem c_148_99 : ax_code 148 99 = some (.iaload, 100) := by decide +kernel
theorem c_148_100 : ax_code 148 100 = some (.istore 3, 101) := by decide +kernel
theorem c_148_101 : ax_code 148 101 = some (.aload 0, 102) := by decide +kernel
theorem c_148_102 : ax_code 148 102 = some (.getfield 130, 105) := by decide +kernel
theorem c_148_105 : ax_code 148 105 = some (.iload 3, 106) := by decide +kernel
theorem c_148_106 : ax_code 148 106 = some (.iconst 11, 108) := by decide +kernel
theorem c_148_108 : ax_code 148 108 = some (.imul, 109) := by decide +kernel
theorem c_148_109 : ax_code 148 109 = some (.aload 0, 110) := by decide +kernel
theorem c_148_110 : ax_code 148 110 = some (.getfield 135, 113) := by decide +kernel
theorem c_148_113 : ax_code 148 113 = some (.aload 0, 114) := by decide +kernel
theorem c_148_114 : ax_code 148 114 = some (.getfield 136, 117) := by decide +kernel
theorem c_148_117 : ax_code 148 117 = some (.iconst 1, 118) := by decide +kernel
theorem c_148_118 : ax_code 148 118 = some (.isub, 119) := by decide +kernel
theorem c_148_119 : ax_code 148 119 = some (.iaload, 120) := by decide +kernel
theorem c_148_120 : ax_code 148 120 = some (.iadd, 121) := by decide +kernel
theorem c_148_121 : ax_code 148 121 = some (.iaload, 122) := by decide +kernel
theorem c_148_122 : ax_code 148 122 = some (.istore 4, 124) := by decide +kernel
theorem c_148_124 : ax_code 148 124 = some (.aload 0, 125) := by decide +kernel
theorem c_148_125 : ax_code 148 125 = some (.getfield 144, 128) := by decide +kernel
theorem c_148_128 : ax_code 148 128 = some (.iload 3, 129) := by decide +kernel
theorem c_148_129 : ax_code 148 129 = some (.iload 1, 130) := by decide +kernel
theorem c_148_130 : ax_code 148 130 = some (.ifCond .eq 138, 133) := by decide +kernel
theorem c_148_133 : ax_code 148 133 = some (.iload 4, 135) := by decide +kernel
theorem c_148_135 : ax_code 148 135 = some (.goto 147, 138) := by decide +kernel
theorem c_148_138 : ax_code 148 138 = some (.aload 0, 139) := by decide +kernel
theorem c_148_139 : ax_code 148 139 = some (.getfield 144, 142) := by decide +kernel
theorem c_148_142 : ax_code 148 142 = some (.iload 3, 143) := by decide +kernel
theorem c_148_143 : ax_code 148 143 = some (.iaload, 144) := by decide +kernel
theorem c_148_144 : ax_code 148 144 = some (.iload 4, 146) := by decide +kernel
theorem c_148_146 : ax_code 148 146 = some (.ior, 147) := by decide +kernel
theorem c_148_147 : ax_code 148 147 = some (.iastore, 148) := by decide +kernel
theorem c_148_148 : ax_code 148 148 = some (.iinc 2 (1), 151) := by decide +kernel
theorem c_148_151 : ax_code 148 151 = some (.goto 86, 154) := by decide +kernel
theorem c_148_154 : ax_code 148 154 = some (.return_, 155) := by decide +kernel
theorem c_149_0 : ax_code 149 0 = some (.lconst 0, 1) := by decide +kernel
theorem c_149_1 : ax_code 149 1 = some (.lstore 1, 2) := by decide +kernel
theorem c_149_2 : ax_code 149 2 = some (.iconst 0, 3) := by decide +kernel
theorem c_149_3 : ax_code 149 3 = some (.istore 3, 4) := by decide +kernel
theorem c_149_4 : ax_code 149 4 = some (.iload 3, 5) := by decide +kernel
theorem c_149_5 : ax_code 149 5 = some (.aload 0, 6) := by decide +kernel
theorem c_149_6 : ax_code 149 6 = some (.getfield 136, 9) := by decide +kernel
theorem c_149_9 : ax_code 149 9 = some (.iconst 1, 10) := by decide +kernel
theorem c_149_10 : ax_code 149 10 = some (.isub, 11) := by decide +kernel
theorem c_149_11 : ax_code 149 11 = some (.if_icmp .ge 72, 14) := by decide +kernel
theorem c_149_14 : ax_code 149 14 = some (.aload 0, 15) := by decide +kernel
theorem c_149_15 : ax_code 149 15 = some (.getfield 135, 18) := by decide +kernel
theorem c_149_18 : ax_code 149 18 = some (.iload 3, 19) := by decide +kernel
theorem c_149_19 : ax_code 149 19 = some (.iaload, 20) := by decide +kernel
theorem c_149_20 : ax_code 149 20 = some (.istore 4, 22) := by decide +kernel
theorem c_149_22 : ax_code 149 22 = some (.aload 0, 23) := by decide +kernel
theorem c_149_23 : ax_code 149 23 = some (.getfield 134, 26) := by decide +kernel
theorem c_149_26 : ax_code 149 26 = some (.iload 4, 28) := by decide +kernel
theorem c_149_28 : ax_code 149 28 = some (.aload 0, 29) := by decide +kernel
theorem c_149_29 : ax_code 149 29 = some (.getfield 134, 32) := by decide +kernel
theorem c_149_32 : ax_code 149 32 = some (.aload 0, 33) := by decide +kernel
theorem c_149_33 : ax_code 149 33 = some (.getfield 132, 36) := by decide +kernel
theorem c_149_36 : ax_code 149 36 = some (.iload 4, 38) := by decide +kernel
theorem c_149_38 : ax_code 149 38 = some (.iaload, 39) := by decide +kernel
theorem c_149_39 : ax_code 149 39 = some (.iaload, 40) := by decide +kernel
theorem c_149_40 : ax_code 149 40 = some (.aload 0, 41) := by decide +kernel
theorem c_149_41 : ax_code 149 41 = some (.getfield 134, 44) := by decide +kernel
theorem c_149_44 : ax_code 149 44 = some (.aload 0, 45) := by decide +kernel
theorem c_149_45 : ax_code 149 45 = some (.getfield 133, 48) := by decide +kernel
theorem c_149_48 : ax_code 149 48 = some (.iload 4, 50) := by decide +kernel
theorem c_149_50 : ax_code 149 50 = some (.iaload, 51) := by decide +kernel
theorem c_149_51 : ax_code 149 51 = some (.iaload, 52) := by decide +kernel
theorem c_149_52 : ax_code 149 52 = some (.ior, 53) := by decide +kernel
theorem c_149_53 : ax_code 149 53 = some (.iastore, 54) := by decide +kernel
theorem c_149_54 : ax_code 149 54 = some (.lload 1, 55) := by decide +kernel
theorem c_149_55 : ax_code 149 55 = some (.lconst 1, 56) := by decide +kernel
theorem c_149_56 : ax_code 149 56 = some (.aload 0, 57) := by decide +kernel
theorem c_149_57 : ax_code 149 57 = some (.getfield 134, 60) := by decide +kernel
theorem c_149_60 : ax_code 149 60 = some (.iload 4, 62) := by decide +kernel
theorem c_149_62 : ax_code 149 62 = some (.iaload, 63) := by decide +kernel
theorem c_149_63 : ax_code 149 63 = some (.lshl, 64) := by decide +kernel
theorem c_149_64 : ax_code 149 64 = some (.lor, 65) := by decide +kernel
theorem c_149_65 : ax_code 149 65 = some (.lstore 1, 66) := by decide +kernel
theorem c_149_66 : ax_code 149 66 = some (.iinc 3 (1), 69) := by decide +kernel
theorem c_149_69 : ax_code 149 69 = some (.goto 4, 72) := by decide +kernel
theorem c_149_72 : ax_code 149 72 = some (.lload 1, 73) := by decide +kernel
theorem c_149_73 : ax_code 149 73 = some (.lreturn, 74) := by decide +kernel
theorem c_150_0 : ax_code 150 0 = some (.aload 0, 1) := by decide +kernel
theorem c_150_1 : ax_code 150 1 = some (.getfield 140, 4) := by decide +kernel
theorem c_150_4 : ax_code 150 4 = some (.ireturn, 5) := by decide +kernel
theorem c_151_0 : ax_code 151 0 = some (.aload 0, 1) := by decide +kernel
theorem c_151_1 : ax_code 151 1 = some (.getfield 141, 4) := by decide +kernel
theorem c_151_4 : ax_code 151 4 = some (.ireturn, 5) := by decide +kernel
theorem c_152_0 : ax_code 152 0 = some (.aload 0, 1) := by decide +kernel
theorem c_152_1 : ax_code 152 1 = some (.getfield 142, 4) := by decide +kernel
theorem c_152_4 : ax_code 152 4 = some (.ireturn, 5) := by decide +kernel
theorem c_153_0 : ax_code 153 0 = some (.aload 0, 1) := by decide +kernel
theorem c_153_1 : ax_code 153 1 = some (.iload 1, 2) := by decide +kernel
theorem c_153_2 : ax_code 153 2 = some (.invokevirtual 135, 5) := by decide +kernel
theorem c_153_5 : ax_code 153 5 = some (.ifCond .eq 13, 8) := by decide +kernel
theorem c_153_8 : ax_code 153 8 = some (.iload 2, 9) := by decide +kernel
theorem c_153_9 : ax_code 153 9 = some (.iconst (-1), 10) := by decide +kernel
theorem c_153_10 : ax_code 153 10 = some (.if_icmp .ge 17, 13) := by decide +kernel
theorem c_153_13 : ax_code 153 13 = some (.ldc2_w 0, 16) := by decide +kernel
theorem c_153_16 : ax_code 153 16 = some (.lreturn, 17) := by decide +kernel
theorem c_153_17 : ax_code 153 17 = some (.aload 0, 18) := by decide +kernel
theorem c_153_18 : ax_code 153 18 = some (.getfield 648, 21) := by decide +kernel
theorem c_153_21 : ax_code 153 21 = some (.aload 0, 22) := by decide +kernel
theorem c_153_22 : ax_code 153 22 = some (.getfield 642, 25) := by decide +kernel
theorem c_153_25 : ax_code 153 25 = some (.getfield 257, 28) := by decide +kernel
theorem c_153_28 : ax_code 153 28 = some (.iload 1, 29) := by decide +kernel
theorem c_153_29 : ax_code 153 29 = some (.invokevirtual 136, 32) := by decide +kernel
theorem c_153_32 : ax_code 153 32 = some (.aload 0, 33) := by decide +kernel
theorem c_153_33 : ax_code 153 33 = some (.getfield 648, 36) := by decide +kernel
theorem c_153_36 : ax_code 153 36 = some (.iload 2, 37) := by decide +kernel
theorem c_153_37 : ax_code 153 37 = some (.invokevirtual 154, 40) := by decide +kernel
theorem c_153_40 : ax_code 153 40 = some (.lreturn, 41) := by decide +kernel
theorem c_154_0 : ax_code 154 0 = some (.iconst 0, 1) := by decide +kernel
theorem c_154_1 : ax_code 154 1 = some (.istore 2, 2) := by decide +kernel
theorem c_154_2 : ax_code 154 2 = some (.iconst 0, 3) := by decide +kernel
theorem c_154_3 : ax_code 154 3 = some (.istore 3, 4) := by decide +kernel
theorem c_154_4 : ax_code 154 4 = some (.iload 3, 5) := by decide +kernel
theorem c_154_5 : ax_code 154 5 = some (.iconst 64, 7) := by decide +kernel
theorem c_154_7 : ax_code 154 7 = some (.if_icmp .ge 47, 10) := by decide +kernel
theorem c_154_10 : ax_code 154 10 = some (.aload 0, 11) := by decide +kernel
theorem c_154_11 : ax_code 154 11 = some (.getfield 143, 14) := by decide +kernel
theorem c_154_14 : ax_code 154 14 = some (.iload 3, 15) := by decide +kernel
theorem c_154_15 : ax_code 154 15 = some (.lshr, 16) := by decide +kernel
theorem c_154_16 : ax_code 154 16 = some (.lconst 1, 17) := by decide +kernel
theorem c_154_17 : ax_code 154 17 = some (.land, 18) := by decide +kernel
theorem c_154_18 : ax_code 154 18 = some (.lconst 0, 19) := by decide +kernel
theorem c_154_19 : ax_code 154 19 = some (.lcmp, 20) := by decide +kernel
theorem c_154_20 : ax_code 154 20 = some (.ifCond .eq 41, 23) := by decide +kernel
theorem c_154_23 : ax_code 154 23 = some (.iload 2, 24) := by decide +kernel
theorem c_154_24 : ax_code 154 24 = some (.iload 1, 25) := by decide +kernel
theorem c_154_25 : ax_code 154 25 = some (.if_icmp .ne 38, 28) := by decide +kernel
theorem c_154_28 : ax_code 154 28 = some (.aload 0, 29) := by decide +kernel
theorem c_154_29 : ax_code 154 29 = some (.getfield 128, 32) := by decide +kernel
theorem c_154_32 : ax_code 154 32 = some (.iload 3, 33) := by decide +kernel
theorem c_154_33 : ax_code 154 33 = some (.invokevirtual 155, 36) := by decide +kernel
theorem c_154_36 : ax_code 154 36 = some (.i2l, 37) := by decide +kernel
theorem c_154_37 : ax_code 154 37 = some (.lreturn, 38) := by decide +kernel
theorem c_154_38 : ax_code 154 38 = some (.iinc 2 (1), 41) := by decide +kernel
theorem c_154_41 : ax_code 154 41 = some (.iinc 3 (1), 44) := by decide +kernel
theorem c_154_44 : ax_code 154 44 = some (.goto 4, 47) := by decide +kernel
theorem c_154_47 : ax_code 154 47 = some (.iload 1, 48) := by decide +kernel
theorem c_154_48 : ax_code 154 48 = some (.iconst (-1), 49) := by decide +kernel
theorem c_154_49 : ax_code 154 49 = some (.if_icmp .ne 57, 52) := by decide +kernel
theorem c_154_52 : ax_code 154 52 = some (.iload 2, 53) := by decide +kernel
theorem c_154_53 : ax_code 154 53 = some (.i2l, 54) := by decide +kernel
theorem c_154_54 : ax_code 154 54 = some (.goto 60, 57) := by decide +kernel
theorem c_154_57 : ax_code 154 57 = some (.ldc2_w 5, 60) := by decide +kernel
theorem c_154_60 : ax_code 154 60 = some (.lreturn, 61) := by decide +kernel
theorem c_155_0 : ax_code 155 0 = some (.iconst 0, 1) := by decide +kernel
theorem c_155_1 : ax_code 155 1 = some (.istore 2, 2) := by decide +kernel
theorem c_155_2 : ax_code 155 2 = some (.iconst 0, 3) := by decide +kernel
theorem c_155_3 : ax_code 155 3 = some (.istore 3, 4) := by decide +kernel
theorem c_155_4 : ax_code 155 4 = some (.iload 3, 5) := by decide +kernel
theorem c_155_5 : ax_code 155 5 = some (.aload 0, 6) := by decide +kernel
theorem c_155_6 : ax_code 155 6 = some (.getfield 192, 9) := by decide +kernel
theorem c_155_9 : ax_code 155 9 = some (.if_icmp .ge 37, 12) := by decide +kernel
theorem c_155_12 : ax_code 155 12 = some (.iload 1, 13) := by decide +kernel
theorem c_155_13 : ax_code 155 13 = some (.iload 3, 14) := by decide +kernel
theorem c_155_14 : ax_code 155 14 = some (.ishr, 15) := by decide +kernel
theorem c_155_15 : ax_code 155 15 = some (.iconst 1, 16) := by decide +kernel
theorem c_155_16 : ax_code 155 16 = some (.iand, 17) := by decide +kernel
theorem c_155_17 : ax_code 155 17 = some (.ifCond .eq 31, 20) := by decide +kernel
theorem c_155_20 : ax_code 155 20 = some (.iload 2, 21) := by decide +kernel
theorem c_155_21 : ax_code 155 21 = some (.iconst 1, 22) := by decide +kernel
theorem c_155_22 : ax_code 155 22 = some (.aload 0, 23) := by decide +kernel
theorem c_155_23 : ax_code 155 23 = some (.getfield 193, 26) := by decide +kernel
theorem c_155_26 : ax_code 155 26 = some (.iload 3, 27) := by decide +kernel
theorem c_155_27 : ax_code 155 27 = some (.iaload, 28) := by decide +kernel
theorem c_155_28 : ax_code 155 28 = some (.ishl, 29) := by decide +kernel
theorem c_155_29 : ax_code 155 29 = some (.ior, 30) := by decide +kernel
theorem c_155_30 : ax_code 155 30 = some (.istore 2, 31) := by decide +kernel
theorem c_155_31 : ax_code 155 31 = some (.iinc 3 (1), 34) := by decide +kernel
theorem c_155_34 : ax_code 155 34 = some (.goto 4, 37) := by decide +kernel
theorem c_155_37 : ax_code 155 37 = some (.iload 2, 38) := by decide +kernel
theorem c_155_38 : ax_code 155 38 = some (.ireturn, 39) := by decide +kernel
theorem c_156_0 : ax_code 156 0 = some (.aload 0, 1) := by decide +kernel
theorem c_156_1 : ax_code 156 1 = some (.iload 1, 2) := by decide +kernel
theorem c_156_2 : ax_code 156 2 = some (.invokevirtual 135, 5) := by decide +kernel
theorem c_156_5 : ax_code 156 5 = some (.ifCond .eq 20, 8) := by decide +kernel
theorem c_156_8 : ax_code 156 8 = some (.iload 2, 9) := by decide +kernel
theorem c_156_9 : ax_code 156 9 = some (.invokestatic 82, 12) := by decide +kernel
theorem c_156_12 : ax_code 156 12 = some (.ifCond .eq 20, 15) := by decide +kernel
theorem c_156_15 : ax_code 156 15 = some (.iload 3, 16) := by decide +kernel
theorem c_156_16 : ax_code 156 16 = some (.iconst (-1), 17) := by decide +kernel
theorem c_156_17 : ax_code 156 17 = some (.if_icmp .ge 24, 20) := by decide +kernel
theorem c_156_20 : ax_code 156 20 = some (.ldc2_w 0, 23) := by decide +kernel
theorem c_156_23 : ax_code 156 23 = some (.lreturn, 24) := by decide +kernel
theorem c_156_24 : ax_code 156 24 = some (.aload 0, 25) := by decide +kernel
theorem c_156_25 : ax_code 156 25 = some (.getfield 648, 28) := by decide +kernel
theorem c_156_28 : ax_code 156 28 = some (.aload 0, 29) := by decide +kernel
theorem c_156_29 : ax_code 156 29 = some (.getfield 642, 32) := by decide +kernel
theorem c_156_32 : ax_code 156 32 = some (.getfield 257, 35) := by decide +kernel
theorem c_156_35 : ax_code 156 35 = some (.iload 1, 36) := by decide +kernel
theorem c_156_36 : ax_code 156 36 = some (.invokevirtual 136, 39) := by decide +kernel
theorem c_156_39 : ax_code 156 39 = some (.aload 0, 40) := by decide +kernel
theorem c_156_40 : ax_code 156 40 = some (.getfield 648, 43) := by decide +kernel
theorem c_156_43 : ax_code 156 43 = some (.iload 2, 44) := by decide +kernel
theorem c_156_44 : ax_code 156 44 = some (.iload 3, 45) := by decide +kernel
theorem c_156_45 : ax_code 156 45 = some (.invokevirtual 157, 48) := by decide +kernel
theorem c_156_48 : ax_code 156 48 = some (.lreturn, 49) := by decide +kernel
theorem c_157_0 : ax_code 157 0 = some (.iconst 0, 1) := by decide +kernel
theorem c_157_1 : ax_code 157 1 = some (.istore 3, 2) := by decide +kernel
theorem c_157_2 : ax_code 157 2 = some (.iconst 0, 3) := by decide +kernel
theorem c_157_3 : ax_code 157 3 = some (.istore 4, 5) := by decide +kernel
theorem c_157_5 : ax_code 157 5 = some (.iload 4, 7) := by decide +kernel
theorem c_157_7 : ax_code 157 7 = some (.iconst 6, 9) := by decide +kernel
theorem c_157_9 : ax_code 157 9 = some (.if_icmp .ge 59, 12) := by decide +kernel
theorem c_157_12 : ax_code 157 12 = some (.iload 1, 13) := by decide +kernel
theorem c_157_13 : ax_code 157 13 = some (.invokestatic 82, 16) := by decide +kernel
theorem c_157_16 : ax_code 157 16 = some (.ifCond .eq 59, 19) := by decide +kernel
theorem c_157_19 : ax_code 157 19 = some (.aload 0, 20) := by decide +kernel
theorem c_157_20 : ax_code 157 20 = some (.getfield 144, 23) := by decide +kernel
theorem c_157_23 : ax_code 157 23 = some (.iload 1, 24) := by decide +kernel
theorem c_157_24 : ax_code 157 24 = some (.iaload, 25) := by decide +kernel
theorem c_157_25 : ax_code 157 25 = some (.iload 4, 27) := by decide +kernel
theorem c_157_27 : ax_code 157 27 = some (.ishr, 28) := by decide +kernel
theorem c_157_28 : ax_code 157 28 = some (.iconst 1, 29) := by decide +kernel
theorem c_157_29 : ax_code 157 29 = some (.iand, 30) := by decide +kernel
theorem c_157_30 : ax_code 157 30 = some (.ifCond .eq 53, 33) := by decide +kernel
theorem c_157_33 : ax_code 157 33 = some (.iload 3, 34) := by decide +kernel
theorem c_157_34 : ax_code 157 34 = some (.iload 2, 35) := by decide +kernel
theorem c_157_35 : ax_code 157 35 = some (.if_icmp .ne 50, 38) := by decide +kernel
theorem c_157_38 : ax_code 157 38 = some (.aload 0, 39) := by decide +kernel
theorem c_157_39 : ax_code 157 39 = some (.getfield 128, 42) := by decide +kernel
theorem c_157_42 : ax_code 157 42 = some (.iload 1, 43) := by decide +kernel
theorem c_157_43 : ax_code 157 43 = some (.iload 4, 45) := by decide +kernel
theorem c_157_45 : ax_code 157 45 = some (.invokevirtual 158, 48) := by decide +kernel
theorem c_157_48 : ax_code 157 48 = some (.i2l, 49) := by decide +kernel
theorem c_157_49 : ax_code 157 49 = some (.lreturn, 50) := by decide +kernel
theorem c_157_50 : ax_code 157 50 = some (.iinc 3 (1), 53) := by decide +kernel
theorem c_157_53 : ax_code 157 53 = some (.iinc 4 (1), 56) := by decide +kernel
theorem c_157_56 : ax_code 157 56 = some (.goto 5, 59) := by decide +kernel
theorem c_157_59 : ax_code 157 59 = some (.iload 2, 60) := by decide +kernel
theorem c_157_60 : ax_code 157 60 = some (.iconst (-1), 61) := by decide +kernel
theorem c_157_61 : ax_code 157 61 = some (.if_icmp .ne 69, 64) := by decide +kernel
theorem c_157_64 : ax_code 157 64 = some (.iload 3, 65) := by decide +kernel
theorem c_157_65 : ax_code 157 65 = some (.i2l, 66) := by decide +kernel
theorem c_157_66 : ax_code 157 66 = some (.goto 72, 69) := by decide +kernel
theorem c_157_69 : ax_code 157 69 = some (.ldc2_w 5, 72) := by decide +kernel
theorem c_157_72 : ax_code 157 72 = some (.lreturn, 73) := by decide +kernel
theorem c_158_0 : ax_code 158 0 = some (.iload 1, 1) := by decide +kernel
theorem c_158_1 : ax_code 158 1 = some (.invokestatic 82, 4) := by decide +kernel
theorem c_158_4 : ax_code 158 4 = some (.ifCond .eq 41, 7) := by decide +kernel
theorem c_158_7 : ax_code 158 7 = some (.iload 2, 8) := by decide +kernel
theorem c_158_8 : ax_code 158 8 = some (.ifCond .lt 41, 11) := by decide +kernel
theorem c_158_11 : ax_code 158 11 = some (.iload 2, 12) := by decide +kernel
theorem c_158_12 : ax_code 158 12 = some (.aload 0, 13) := by decide +kernel
theorem c_158_13 : ax_code 158 13 = some (.getfield 195, 16) := by decide +kernel
theorem c_158_16 : ax_code 158 16 = some (.iload 1, 17) := by decide +kernel
theorem c_158_17 : ax_code 158 17 = some (.iaload, 18) := by decide +kernel
theorem c_158_18 : ax_code 158 18 = some (.if_icmp .ge 41, 21) := by decide +kernel
theorem c_158_21 : ax_code 158 21 = some (.iload 2, 22) := by decide +kernel
theorem c_158_22 : ax_code 158 22 = some (.iconst 6, 24) := by decide +kernel
theorem c_158_24 : ax_code 158 24 = some (.if_icmp .ge 41, 27) := by decide +kernel
theorem c_158_27 : ax_code 158 27 = some (.aload 0, 28) := by decide +kernel
theorem c_158_28 : ax_code 158 28 = some (.getfield 194, 31) := by decide +kernel
theorem c_158_31 : ax_code 158 31 = some (.iload 1, 32) := by decide +kernel
theorem c_158_32 : ax_code 158 32 = some (.iconst 6, 34) := by decide +kernel
theorem c_158_34 : ax_code 158 34 = some (.imul, 35) := by decide +kernel
theorem c_158_35 : ax_code 158 35 = some (.iload 2, 36) := by decide +kernel
theorem c_158_36 : ax_code 158 36 = some (.iadd, 37) := by decide +kernel
theorem c_158_37 : ax_code 158 37 = some (.iaload, 38) := by decide +kernel
theorem c_158_38 : ax_code 158 38 = some (.goto 43, 41) := by decide +kernel
theorem c_158_41 : ax_code 158 41 = some (.iconst (-1000000), 43) := by decide +kernel
theorem c_158_43 : ax_code 158 43 = some (.ireturn, 44) := by decide +kernel
theorem c_159_0 : ax_code 159 0 = some (.aload 0, 1) := by decide +kernel
theorem c_159_1 : ax_code 159 1 = some (.getfield 642, 4) := by decide +kernel
theorem c_159_4 : ax_code 159 4 = some (.getfield 257, 7) := by decide +kernel
theorem c_159_7 : ax_code 159 7 = some (.iload 1, 8) := by decide +kernel
theorem c_159_8 : ax_code 159 8 = some (.invokevirtual 84, 11) := by decide +kernel
theorem c_159_11 : ax_code 159 11 = some (.ifCond .eq 23, 14) := by decide +kernel
theorem c_159_14 : ax_code 159 14 = some (.iload 2, 15) := by decide +kernel
theorem c_159_15 : ax_code 159 15 = some (.ifCond .lt 23, 18) := by decide +kernel
theorem c_159_18 : ax_code 159 18 = some (.iload 2, 19) := by decide +kernel
theorem c_159_19 : ax_code 159 19 = some (.iconst 1, 20) := by decide +kernel
theorem c_159_20 : ax_code 159 20 = some (.if_icmp .le 27, 23) := by decide +kernel
theorem c_159_23 : ax_code 159 23 = some (.ldc2_w 0, 26) := by decide +kernel
theorem c_159_26 : ax_code 159 26 = some (.lreturn, 27) := by decide +kernel
theorem c_159_27 : ax_code 159 27 = some (.aload 0, 28) := by decide +kernel
theorem c_159_28 : ax_code 159 28 = some (.getfield 642, 31) := by decide +kernel
theorem c_159_31 : ax_code 159 31 = some (.iload 1, 32) := by decide +kernel
theorem c_159_32 : ax_code 159 32 = some (.invokevirtual 160, 35) := by decide +kernel
theorem c_159_35 : ax_code 159 35 = some (.istore 3, 36) := by decide +kernel
theorem c_159_36 : ax_code 159 36 = some (.aload 0, 37) := by decide +kernel
theorem c_159_37 : ax_code 159 37 = some (.getfield 642, 40) := by decide +kernel
theorem c_159_40 : ax_code 159 40 = some (.iload 1, 41) := by decide +kernel
theorem c_159_41 : ax_code 159 41 = some (.invokevirtual 162, 44) := by decide +kernel
theorem c_159_44 : ax_code 159 44 = some (.istore 4, 46) := by decide +kernel
theorem c_159_46 : ax_code 159 46 = some (.iload 3, 47) := by decide +kernel
theorem c_159_47 : ax_code 159 47 = some (.iconst (-1000000), 49) := by decide +kernel
theorem c_159_49 : ax_code 159 49 = some (.if_icmp .eq 58, 52) := by decide +kernel
theorem c_159_52 : ax_code 159 52 = some (.iload 3, 53) := by decide +kernel
theorem c_159_53 : ax_code 159 53 = some (.iload 4, 55) := by decide +kernel
theorem c_159_55 : ax_code 159 55 = some (.if_icmp .le 62, 58) := by decide +kernel
theorem c_159_58 : ax_code 159 58 = some (.ldc2_w 5, 61) := by decide +kernel
theorem c_159_61 : ax_code 159 61 = some (.lreturn, 62) := by decide +kernel
theorem c_159_62 : ax_code 159 62 = some (.iload 2, 63) := by decide +kernel
theorem c_159_63 : ax_code 159 63 = some (.ifCond .ne 71, 66) := by decide +kernel
theorem c_159_66 : ax_code 159 66 = some (.iload 3, 67) := by decide +kernel
theorem c_159_67 : ax_code 159 67 = some (.i2l, 68) := by decide +kernel
theorem c_159_68 : ax_code 159 68 = some (.goto 74, 71) := by decide +kernel
theorem c_159_71 : ax_code 159 71 = some (.iload 4, 73) := by decide +kernel
theorem c_159_73 : ax_code 159 73 = some (.i2l, 74) := by decide +kernel
theorem c_159_74 : ax_code 159 74 = some (.lreturn, 75) := by decide +kernel
theorem c_160_0 : ax_code 160 0 = some (.iconst (-1000000), 2) := by decide +kernel
theorem c_160_2 : ax_code 160 2 = some (.istore 2, 3) := by decide +kernel
theorem c_160_3 : ax_code 160 3 = some (.iconst 0, 4) := by decide +kernel
theorem c_160_4 : ax_code 160 4 = some (.istore 3, 5) := by decide +kernel
theorem c_160_5 : ax_code 160 5 = some (.iload 3, 6) := by decide +kernel
theorem c_160_6 : ax_code 160 6 = some (.iconst 8, 8) := by decide +kernel
theorem c_160_8 : ax_code 160 8 = some (.if_icmp .ge 42, 11) := by decide +kernel
theorem c_160_11 : ax_code 160 11 = some (.aload 0, 12) := by decide +kernel
theorem c_160_12 : ax_code 160 12 = some (.getfield 257, 15) := by decide +kernel
theorem c_160_15 : ax_code 160 15 = some (.iload 1, 16) := by decide +kernel
theorem c_160_16 : ax_code 160 16 = some (.iload 3, 17) := by decide +kernel
theorem c_160_17 : ax_code 160 17 = some (.invokevirtual 97, 20) := by decide +kernel
theorem c_160_20 : ax_code 160 20 = some (.ifCond .le 36, 23) := by decide +kernel
theorem c_160_23 : ax_code 160 23 = some (.iload 2, 24) := by decide +kernel
theorem c_160_24 : ax_code 160 24 = some (.aload 0, 25) := by decide +kernel
theorem c_160_25 : ax_code 160 25 = some (.getfield 256, 28) := by decide +kernel
theorem c_160_28 : ax_code 160 28 = some (.iload 3, 29) := by decide +kernel
theorem c_160_29 : ax_code 160 29 = some (.invokevirtual 161, 32) := by decide +kernel
theorem c_160_32 : ax_code 160 32 = some (.invokedynamic 0, 35) := by decide +kernel
theorem c_160_35 : ax_code 160 35 = some (.istore 2, 36) := by decide +kernel
theorem c_160_36 : ax_code 160 36 = some (.iinc 3 (1), 39) := by decide +kernel
theorem c_160_39 : ax_code 160 39 = some (.goto 5, 42) := by decide +kernel
theorem c_160_42 : ax_code 160 42 = some (.iload 2, 43) := by decide +kernel
theorem c_160_43 : ax_code 160 43 = some (.ireturn, 44) := by decide +kernel
theorem c_161_0 : ax_code 161 0 = some (.iconst (-1000000), 2) := by decide +kernel
theorem c_161_2 : ax_code 161 2 = some (.istore 2, 3) := by decide +kernel
theorem c_161_3 : ax_code 161 3 = some (.iconst 0, 4) := by decide +kernel
theorem c_161_4 : ax_code 161 4 = some (.istore 3, 5) := by decide +kernel
theorem c_161_5 : ax_code 161 5 = some (.iload 3, 6) := by decide +kernel
theorem c_161_6 : ax_code 161 6 = some (.aload 0, 7) := by decide +kernel
theorem c_161_7 : ax_code 161 7 = some (.getfield 326, 10) := by decide +kernel
theorem c_161_10 : ax_code 161 10 = some (.if_icmp .ge 46, 13) := by decide +kernel
theorem c_161_13 : ax_code 161 13 = some (.iload 3, 14) := by decide +kernel
theorem c_161_14 : ax_code 161 14 = some (.iconst 8, 16) := by decide +kernel
theorem c_161_16 : ax_code 161 16 = some (.if_icmp .ge 46, 19) := by decide +kernel
theorem c_161_19 : ax_code 161 19 = some (.aload 0, 20) := by decide +kernel
theorem c_161_20 : ax_code 161 20 = some (.getfield 327, 23) := by decide +kernel
theorem c_161_23 : ax_code 161 23 = some (.iload 3, 24) := by decide +kernel
theorem c_161_24 : ax_code 161 24 = some (.iaload, 25) := by decide +kernel
theorem c_161_25 : ax_code 161 25 = some (.iload 1, 26) := by decide +kernel
theorem c_161_26 : ax_code 161 26 = some (.if_icmp .ne 40, 29) := by decide +kernel
theorem c_161_29 : ax_code 161 29 = some (.iload 2, 30) := by decide +kernel
theorem c_161_30 : ax_code 161 30 = some (.aload 0, 31) := by decide +kernel
theorem c_161_31 : ax_code 161 31 = some (.getfield 328, 34) := by decide +kernel
theorem c_161_34 : ax_code 161 34 = some (.iload 3, 35) := by decide +kernel
theorem c_161_35 : ax_code 161 35 = some (.iaload, 36) := by decide +kernel
theorem c_161_36 : ax_code 161 36 = some (.invokedynamic 0, 39) := by decide +kernel
theorem c_161_39 : ax_code 161 39 = some (.istore 2, 40) := by decide +kernel
theorem c_161_40 : ax_code 161 40 = some (.iinc 3 (1), 43) := by decide +kernel
theorem c_161_43 : ax_code 161 43 = some (.goto 5, 46) := by decide +kernel
theorem c_161_46 : ax_code 161 46 = some (.iload 2, 47) := by decide +kernel
theorem c_161_47 : ax_code 161 47 = some (.ireturn, 48) := by decide +kernel
theorem c_162_0 : ax_code 162 0 = some (.iconst 2001, 3) := by decide +kernel
theorem c_162_3 : ax_code 162 3 = some (.istore 2, 4) := by decide +kernel
theorem c_162_4 : ax_code 162 4 = some (.iconst 0, 5) := by decide +kernel
theorem c_162_5 : ax_code 162 5 = some (.istore 3, 6) := by decide +kernel
theorem c_162_6 : ax_code 162 6 = some (.iload 3, 7) := by decide +kernel
theorem c_162_7 : ax_code 162 7 = some (.iconst 8, 9) := by decide +kernel
theorem c_162_9 : ax_code 162 9 = some (.if_icmp .ge 43, 12) := by decide +kernel
theorem c_162_12 : ax_code 162 12 = some (.aload 0, 13) := by decide +kernel
theorem c_162_13 : ax_code 162 13 = some (.getfield 257, 16) := by decide +kernel
theorem c_162_16 : ax_code 162 16 = some (.iload 1, 17) := by decide +kernel
theorem c_162_17 : ax_code 162 17 = some (.iload 3, 18) := by decide +kernel
theorem c_162_18 : ax_code 162 18 = some (.invokevirtual 97, 21) := by decide +kernel
theorem c_162_21 : ax_code 162 21 = some (.ifCond .le 37, 24) := by decide +kernel
theorem c_162_24 : ax_code 162 24 = some (.iload 2, 25) := by decide +kernel
theorem c_162_25 : ax_code 162 25 = some (.aload 0, 26) := by decide +kernel
theorem c_162_26 : ax_code 162 26 = some (.getfield 256, 29) := by decide +kernel
theorem c_162_29 : ax_code 162 29 = some (.iload 3, 30) := by decide +kernel
theorem c_162_30 : ax_code 162 30 = some (.invokevirtual 163, 33) := by decide +kernel
theorem c_162_33 : ax_code 162 33 = some (.invokedynamic 1, 36) := by decide +kernel
theorem c_162_36 : ax_code 162 36 = some (.istore 2, 37) := by decide +kernel
theorem c_162_37 : ax_code 162 37 = some (.iinc 3 (1), 40) := by decide +kernel
theorem c_162_40 : ax_code 162 40 = some (.goto 6, 43) := by decide +kernel
theorem c_162_43 : ax_code 162 43 = some (.iload 2, 44) := by decide +kernel
theorem c_162_44 : ax_code 162 44 = some (.ireturn, 45) := by decide +kernel
theorem c_163_0 : ax_code 163 0 = some (.iconst 2001, 3) := by decide +kernel
theorem c_163_3 : ax_code 163 3 = some (.istore 2, 4) := by decide +kernel
theorem c_163_4 : ax_code 163 4 = some (.iconst 0, 5) := by decide +kernel
theorem c_163_5 : ax_code 163 5 = some (.istore 3, 6) := by decide +kernel
theorem c_163_6 : ax_code 163 6 = some (.iload 3, 7) := by decide +kernel
theorem c_163_7 : ax_code 163 7 = some (.aload 0, 8) := by decide +kernel
theorem c_163_8 : ax_code 163 8 = some (.getfield 326, 11) := by decide +kernel
theorem c_163_11 : ax_code 163 11 = some (.if_icmp .ge 47, 14) := by decide +kernel
theorem c_163_14 : ax_code 163 14 = some (.iload 3, 15) := by decide +kernel
theorem c_163_15 : ax_code 163 15 = some (.iconst 8, 17) := by decide +kernel
theorem c_163_17 : ax_code 163 17 = some (.if_icmp .ge 47, 20) := by decide +kernel
theorem c_163_20 : ax_code 163 20 = some (.aload 0, 21) := by decide +kernel
theorem c_163_21 : ax_code 163 21 = some (.getfield 327, 24) := by decide +kernel
theorem c_163_24 : ax_code 163 24 = some (.iload 3, 25) := by decide +kernel
theorem c_163_25 : ax_code 163 25 = some (.iaload, 26) := by decide +kernel
theorem c_163_26 : ax_code 163 26 = some (.iload 1, 27) := by decide +kernel
theorem c_163_27 : ax_code 163 27 = some (.if_icmp .ne 41, 30) := by decide +kernel
theorem c_163_30 : ax_code 163 30 = some (.iload 2, 31) := by decide +kernel
theorem c_163_31 : ax_code 163 31 = some (.aload 0, 32) := by decide +kernel
theorem c_163_32 : ax_code 163 32 = some (.getfield 329, 35) := by decide +kernel
theorem c_163_35 : ax_code 163 35 = some (.iload 3, 36) := by decide +kernel
theorem c_163_36 : ax_code 163 36 = some (.iaload, 37) := by decide +kernel
theorem c_163_37 : ax_code 163 37 = some (.invokedynamic 1, 40) := by decide +kernel
theorem c_163_40 : ax_code 163 40 = some (.istore 2, 41) := by decide +kernel
theorem c_163_41 : ax_code 163 41 = some (.iinc 3 (1), 44) := by decide +kernel
theorem c_163_44 : ax_code 163 44 = some (.goto 6, 47) := by decide +kernel
theorem c_163_47 : ax_code 163 47 = some (.iload 2, 48) := by decide +kernel
theorem c_163_48 : ax_code 163 48 = some (.ireturn, 49) := by decide +kernel
theorem c_164_0 : ax_code 164 0 = some (.aload 0, 1) := by decide +kernel
theorem c_164_1 : ax_code 164 1 = some (.getfield 642, 4) := by decide +kernel
theorem c_164_4 : ax_code 164 4 = some (.getfield 257, 7) := by decide +kernel
theorem c_164_7 : ax_code 164 7 = some (.iload 1, 8) := by decide +kernel
theorem c_164_8 : ax_code 164 8 = some (.invokevirtual 84, 11) := by decide +kernel
theorem c_164_11 : ax_code 164 11 = some (.ifCond .eq 21, 14) := by decide +kernel
theorem c_164_14 : ax_code 164 14 = some (.iload 2, 15) := by decide +kernel
theorem c_164_15 : ax_code 164 15 = some (.invokestatic 74, 18) := by decide +kernel
theorem c_164_18 : ax_code 164 18 = some (.ifCond .ne 25, 21) := by decide +kernel
theorem c_164_21 : ax_code 164 21 = some (.ldc2_w 0, 24) := by decide +kernel
theorem c_164_24 : ax_code 164 24 = some (.lreturn, 25) := by decide +kernel
theorem c_164_25 : ax_code 164 25 = some (.aload 0, 26) := by decide +kernel
theorem c_164_26 : ax_code 164 26 = some (.getfield 642, 29) := by decide +kernel
theorem c_164_29 : ax_code 164 29 = some (.getfield 257, 32) := by decide +kernel
theorem c_164_32 : ax_code 164 32 = some (.iload 1, 33) := by decide +kernel
theorem c_164_33 : ax_code 164 33 = some (.iload 2, 34) := by decide +kernel
theorem c_164_34 : ax_code 164 34 = some (.invokevirtual 165, 37) := by decide +kernel
theorem c_164_37 : ax_code 164 37 = some (.i2l, 38) := by decide +kernel
theorem c_164_38 : ax_code 164 38 = some (.lreturn, 39) := by decide +kernel
theorem c_165_0 : ax_code 165 0 = some (.aload 0, 1) := by decide +kernel
theorem c_165_1 : ax_code 165 1 = some (.aload 0, 2) := by decide +kernel
theorem c_165_2 : ax_code 165 2 = some (.iload 1, 3) := by decide +kernel
theorem c_165_3 : ax_code 165 3 = some (.invokevirtual 102, 6) := by decide +kernel
theorem c_165_6 : ax_code 165 6 = some (.iload 2, 7) := by decide +kernel
theorem c_165_7 : ax_code 165 7 = some (.invokevirtual 97, 10) := by decide +kernel
theorem c_165_10 : ax_code 165 10 = some (.ifCond .le 22, 13) := by decide +kernel
theorem c_165_13 : ax_code 165 13 = some (.aload 0, 14) := by decide +kernel
theorem c_165_14 : ax_code 165 14 = some (.iload 1, 15) := by decide +kernel
theorem c_165_15 : ax_code 165 15 = some (.iload 2, 16) := by decide +kernel
theorem c_165_16 : ax_code 165 16 = some (.invokevirtual 97, 19) := by decide +kernel
theorem c_165_19 : ax_code 165 19 = some (.ifCond .eq 25, 22) := by decide +kernel
theorem c_165_22 : ax_code 165 22 = some (.iconst (-1000000), 24) := by decide +kernel
theorem c_165_24 : ax_code 165 24 = some (.ireturn, 25) := by decide +kernel
theorem c_165_25 : ax_code 165 25 = some (.iconst 0, 26) := by decide +kernel
theorem c_165_26 : ax_code 165 26 = some (.istore 3, 27) := by decide +kernel
theorem c_165_27 : ax_code 165 27 = some (.iconst 1, 28) := by decide +kernel
theorem c_165_28 : ax_code 165 28 = some (.iload 1, 29) := by decide +kernel
theorem c_165_29 : ax_code 165 29 = some (.ishl, 30) := by decide +kernel
theorem c_165_30 : ax_code 165 30 = some (.istore 4, 32) := by decide +kernel
theorem c_165_32 : ax_code 165 32 = some (.iload 1, 33) := by decide +kernel
theorem c_165_33 : ax_code 165 33 = some (.iconst 1, 34) := by decide +kernel
theorem c_165_34 : ax_code 165 34 = some (.iadd, 35) := by decide +kernel
theorem c_165_35 : ax_code 165 35 = some (.istore 5, 37) := by decide +kernel
theorem c_165_37 : ax_code 165 37 = some (.iload 5, 39) := by decide +kernel
theorem c_165_39 : ax_code 165 39 = some (.aload 0, 40) := by decide +kernel
theorem c_165_40 : ax_code 165 40 = some (.getfield 64, 43) := by decide +kernel
theorem c_165_43 : ax_code 165 43 = some (.if_icmp .ge 100, 46) := by decide +kernel
theorem c_165_46 : ax_code 165 46 = some (.aload 0, 47) := by decide +kernel
theorem c_165_47 : ax_code 165 47 = some (.iload 5, 49) := by decide +kernel
theorem c_165_49 : ax_code 165 49 = some (.invokevirtual 102, 52) := by decide +kernel
theorem c_165_52 : ax_code 165 52 = some (.istore 6, 54) := by decide +kernel
theorem c_165_54 : ax_code 165 54 = some (.iload 6, 56) := by decide +kernel
theorem c_165_56 : ax_code 165 56 = some (.ifCond .lt 94, 59) := by decide +kernel
theorem c_165_59 : ax_code 165 59 = some (.iload 4, 61) := by decide +kernel
theorem c_165_61 : ax_code 165 61 = some (.iload 6, 63) := by decide +kernel
theorem c_165_63 : ax_code 165 63 = some (.ishr, 64) := by decide +kernel
theorem c_165_64 : ax_code 165 64 = some (.iconst 1, 65) := by decide +kernel
theorem c_165_65 : ax_code 165 65 = some (.iand, 66) := by decide +kernel
theorem c_165_66 : ax_code 165 66 = some (.ifCond .eq 94, 69) := by decide +kernel
theorem c_165_69 : ax_code 165 69 = some (.aload 0, 70) := by decide +kernel
theorem c_165_70 : ax_code 165 70 = some (.iload 5, 72) := by decide +kernel
theorem c_165_72 : ax_code 165 72 = some (.iload 2, 73) := by decide +kernel
theorem c_165_73 : ax_code 165 73 = some (.invokevirtual 97, 76) := by decide +kernel
theorem c_165_76 : ax_code 165 76 = some (.ifCond .eq 82, 79) := by decide +kernel
theorem c_165_79 : ax_code 165 79 = some (.iconst (-1000000), 81) := by decide +kernel
theorem c_165_81 : ax_code 165 81 = some (.ireturn, 82) := by decide +kernel
theorem c_165_82 : ax_code 165 82 = some (.iload 4, 84) := by decide +kernel
theorem c_165_84 : ax_code 165 84 = some (.iconst 1, 85) := by decide +kernel
theorem c_165_85 : ax_code 165 85 = some (.iload 5, 87) := by decide +kernel
theorem c_165_87 : ax_code 165 87 = some (.ishl, 88) := by decide +kernel
theorem c_165_88 : ax_code 165 88 = some (.ior, 89) := by decide +kernel
theorem c_165_89 : ax_code 165 89 = some (.istore 4, 91) := by decide +kernel
theorem c_165_91 : ax_code 165 91 = some (.iinc 3 (1), 94) := by decide +kernel
theorem c_165_94 : ax_code 165 94 = some (.iinc 5 (1), 97) := by decide +kernel
theorem c_165_97 : ax_code 165 97 = some (.goto 37, 100) := by decide +kernel
theorem c_165_100 : ax_code 165 100 = some (.iload 3, 101) := by decide +kernel
theorem c_165_101 : ax_code 165 101 = some (.ireturn, 102) := by decide +kernel
theorem c_166_0 : ax_code 166 0 = some (.aload 0, 1) := by decide +kernel
theorem c_166_1 : ax_code 166 1 = some (.getfield 642, 4) := by decide +kernel
theorem c_166_4 : ax_code 166 4 = some (.getfield 257, 7) := by decide +kernel
theorem c_166_7 : ax_code 166 7 = some (.iload 1, 8) := by decide +kernel
theorem c_166_8 : ax_code 166 8 = some (.invokevirtual 84, 11) := by decide +kernel
theorem c_166_11 : ax_code 166 11 = some (.ifCond .eq 32, 14) := by decide +kernel
theorem c_166_14 : ax_code 166 14 = some (.iload 2, 15) := by decide +kernel
theorem c_166_15 : ax_code 166 15 = some (.invokestatic 74, 18) := by decide +kernel
theorem c_166_18 : ax_code 166 18 = some (.ifCond .eq 32, 21) := by decide +kernel
theorem c_166_21 : ax_code 166 21 = some (.iload 3, 22) := by decide +kernel
theorem c_166_22 : ax_code 166 22 = some (.iconst 2, 23) := by decide +kernel
theorem c_166_23 : ax_code 166 23 = some (.if_icmp .lt 32, 26) := by decide +kernel
theorem c_166_26 : ax_code 166 26 = some (.iload 3, 27) := by decide +kernel
theorem c_166_27 : ax_code 166 27 = some (.iconst 9, 29) := by decide +kernel
theorem c_166_29 : ax_code 166 29 = some (.if_icmp .le 36, 32) := by decide +kernel
theorem c_166_32 : ax_code 166 32 = some (.ldc2_w 0, 35) := by decide +kernel
theorem c_166_35 : ax_code 166 35 = some (.lreturn, 36) := by decide +kernel
theorem c_166_36 : ax_code 166 36 = some (.aload 0, 37) := by decide +kernel
theorem c_166_37 : ax_code 166 37 = some (.getfield 642, 40) := by decide +kernel
theorem c_166_40 : ax_code 166 40 = some (.getfield 257, 43) := by decide +kernel
theorem c_166_43 : ax_code 166 43 = some (.iload 1, 44) := by decide +kernel
theorem c_166_44 : ax_code 166 44 = some (.iload 2, 45) := by decide +kernel
theorem c_166_45 : ax_code 166 45 = some (.invokevirtual 165, 48) := by decide +kernel
theorem c_166_48 : ax_code 166 48 = some (.istore 4, 50) := by decide +kernel
theorem c_166_50 : ax_code 166 50 = some (.iload 4, 52) := by decide +kernel
theorem c_166_52 : ax_code 166 52 = some (.ifCond .ge 59, 55) := by decide +kernel
theorem c_166_55 : ax_code 166 55 = some (.ldc2_w 5, 58) := by decide +kernel
theorem c_166_58 : ax_code 166 58 = some (.lreturn, 59) := by decide +kernel
theorem c_166_59 : ax_code 166 59 = some (.lconst 1, 60) := by decide +kernel
theorem c_166_60 : ax_code 166 60 = some (.lstore 5, 62) := by decide +kernel
theorem c_166_62 : ax_code 166 62 = some (.iconst 0, 63) := by decide +kernel
theorem c_166_63 : ax_code 166 63 = some (.istore 7, 65) := by decide +kernel
theorem c_166_65 : ax_code 166 65 = some (.iload 7, 67) := by decide +kernel
theorem c_166_67 : ax_code 166 67 = some (.iload 4, 69) := by decide +kernel
theorem c_166_69 : ax_code 166 69 = some (.if_icmp .ge 85, 72) := by decide +kernel
theorem c_166_72 : ax_code 166 72 = some (.lload 5, 74) := by decide +kernel
theorem c_166_74 : ax_code 166 74 = some (.iload 3, 75) := by decide +kernel
theorem c_166_75 : ax_code 166 75 = some (.i2l, 76) := by decide +kernel
theorem c_166_76 : ax_code 166 76 = some (.lmul, 77) := by decide +kernel
theorem c_166_77 : ax_code 166 77 = some (.lstore 5, 79) := by decide +kernel
theorem c_166_79 : ax_code 166 79 = some (.iinc 7 (1), 82) := by decide +kernel
theorem c_166_82 : ax_code 166 82 = some (.goto 65, 85) := by decide +kernel
theorem c_166_85 : ax_code 166 85 = some (.lload 5, 87) := by decide +kernel
theorem c_166_87 : ax_code 166 87 = some (.lreturn, 88) := by decide +kernel
theorem c_167_0 : ax_code 167 0 = some (.aload 0, 1) := by decide +kernel
theorem c_167_1 : ax_code 167 1 = some (.getfield 642, 4) := by decide +kernel
theorem c_167_4 : ax_code 167 4 = some (.getfield 257, 7) := by decide +kernel
theorem c_167_7 : ax_code 167 7 = some (.iload 1, 8) := by decide +kernel
theorem c_167_8 : ax_code 167 8 = some (.invokevirtual 84, 11) := by decide +kernel
theorem c_167_11 : ax_code 167 11 = some (.ifCond .eq 57, 14) := by decide +kernel
theorem c_167_14 : ax_code 167 14 = some (.aload 0, 15) := by decide +kernel
theorem c_167_15 : ax_code 167 15 = some (.getfield 642, 18) := by decide +kernel
theorem c_167_18 : ax_code 167 18 = some (.getfield 257, 21) := by decide +kernel
theorem c_167_21 : ax_code 167 21 = some (.iload 2, 22) := by decide +kernel
theorem c_167_22 : ax_code 167 22 = some (.invokevirtual 84, 25) := by decide +kernel
theorem c_167_25 : ax_code 167 25 = some (.ifCond .eq 57, 28) := by decide +kernel
theorem c_167_28 : ax_code 167 28 = some (.aload 0, 29) := by decide +kernel
theorem c_167_29 : ax_code 167 29 = some (.getfield 642, 32) := by decide +kernel
theorem c_167_32 : ax_code 167 32 = some (.getfield 257, 35) := by decide +kernel
theorem c_167_35 : ax_code 167 35 = some (.iload 3, 36) := by decide +kernel
theorem c_167_36 : ax_code 167 36 = some (.invokevirtual 84, 39) := by decide +kernel
theorem c_167_39 : ax_code 167 39 = some (.ifCond .eq 57, 42) := by decide +kernel
theorem c_167_42 : ax_code 167 42 = some (.aload 0, 43) := by decide +kernel
theorem c_167_43 : ax_code 167 43 = some (.getfield 642, 46) := by decide +kernel
theorem c_167_46 : ax_code 167 46 = some (.getfield 257, 49) := by decide +kernel
theorem c_167_49 : ax_code 167 49 = some (.iload 4, 51) := by decide +kernel
theorem c_167_51 : ax_code 167 51 = some (.invokevirtual 84, 54) := by decide +kernel
theorem c_167_54 : ax_code 167 54 = some (.ifCond .ne 61, 57) := by decide +kernel
theorem c_167_57 : ax_code 167 57 = some (.ldc2_w 0, 60) := by decide +kernel
theorem c_167_60 : ax_code 167 60 = some (.lreturn, 61) := by decide +kernel
theorem c_167_61 : ax_code 167 61 = some (.iload 1, 62) := by decide +kernel
theorem c_167_62 : ax_code 167 62 = some (.iload 2, 63) := by decide +kernel
theorem c_167_63 : ax_code 167 63 = some (.if_icmp .eq 94, 66) := by decide +kernel
theorem c_167_66 : ax_code 167 66 = some (.iload 1, 67) := by decide +kernel
theorem c_167_67 : ax_code 167 67 = some (.iload 3, 68) := by decide +kernel
theorem c_167_68 : ax_code 167 68 = some (.if_icmp .eq 94, 71) := by decide +kernel
theorem c_167_71 : ax_code 167 71 = some (.iload 1, 72) := by decide +kernel
theorem c_167_72 : ax_code 167 72 = some (.iload 4, 74) := by decide +kernel
theorem c_167_74 : ax_code 167 74 = some (.if_icmp .eq 94, 77) := by decide +kernel
theorem c_167_77 : ax_code 167 77 = some (.iload 2, 78) := by decide +kernel
theorem c_167_78 : ax_code 167 78 = some (.iload 3, 79) := by decide +kernel
theorem c_167_79 : ax_code 167 79 = some (.if_icmp .eq 94, 82) := by decide +kernel
theorem c_167_82 : ax_code 167 82 = some (.iload 2, 83) := by decide +kernel
theorem c_167_83 : ax_code 167 83 = some (.iload 4, 85) := by decide +kernel
theorem c_167_85 : ax_code 167 85 = some (.if_icmp .eq 94, 88) := by decide +kernel
theorem c_167_88 : ax_code 167 88 = some (.iload 3, 89) := by decide +kernel
theorem c_167_89 : ax_code 167 89 = some (.iload 4, 91) := by decide +kernel
theorem c_167_91 : ax_code 167 91 = some (.if_icmp .ne 98, 94) := by decide +kernel
theorem c_167_94 : ax_code 167 94 = some (.ldc2_w 0, 97) := by decide +kernel
theorem c_167_97 : ax_code 167 97 = some (.lreturn, 98) := by decide +kernel
theorem c_167_98 : ax_code 167 98 = some (.aload 0, 99) := by decide +kernel
theorem c_167_99 : ax_code 167 99 = some (.getfield 642, 102) := by decide +kernel
theorem c_167_102 : ax_code 167 102 = some (.getfield 257, 105) := by decide +kernel
theorem c_167_105 : ax_code 167 105 = some (.iload 1, 106) := by decide +kernel
theorem c_167_106 : ax_code 167 106 = some (.iload 2, 107) := by decide +kernel
theorem c_167_107 : ax_code 167 107 = some (.iload 3, 108) := by decide +kernel
theorem c_167_108 : ax_code 167 108 = some (.iload 4, 110) := by decide +kernel
theorem c_167_110 : ax_code 167 110 = some (.invokevirtual 168, 113) := by decide +kernel
theorem c_167_113 : ax_code 167 113 = some (.i2l, 114) := by decide +kernel
theorem c_167_114 : ax_code 167 114 = some (.lreturn, 115) := by decide +kernel
theorem c_168_0 : ax_code 168 0 = some (.iconst 0, 1) := by decide +kernel
theorem c_168_1 : ax_code 168 1 = some (.istore 5, 3) := by decide +kernel
theorem c_168_3 : ax_code 168 3 = some (.iconst 0, 4) := by decide +kernel
theorem c_168_4 : ax_code 168 4 = some (.istore 6, 6) := by decide +kernel
theorem c_168_6 : ax_code 168 6 = some (.iload 6, 8) := by decide +kernel
theorem c_168_8 : ax_code 168 8 = some (.iconst 11, 10) := by decide +kernel
theorem c_168_10 : ax_code 168 10 = some (.if_icmp .ge 84, 13) := by decide +kernel
theorem c_168_13 : ax_code 168 13 = some (.aload 0, 14) := by decide +kernel
theorem c_168_14 : ax_code 168 14 = some (.iload 1, 15) := by decide +kernel
theorem c_168_15 : ax_code 168 15 = some (.iload 6, 17) := by decide +kernel
theorem c_168_17 : ax_code 168 17 = some (.invokevirtual 97, 20) := by decide +kernel
theorem c_168_20 : ax_code 168 20 = some (.iconst (-1000000), 22) := by decide +kernel
theorem c_168_22 : ax_code 168 22 = some (.if_icmp .ne 78, 25) := by decide +kernel
theorem c_168_25 : ax_code 168 25 = some (.aload 0, 26) := by decide +kernel
theorem c_168_26 : ax_code 168 26 = some (.iload 2, 27) := by decide +kernel
theorem c_168_27 : ax_code 168 27 = some (.iload 6, 29) := by decide +kernel
theorem c_168_29 : ax_code 168 29 = some (.invokevirtual 97, 32) := by decide +kernel
theorem c_168_32 : ax_code 168 32 = some (.aload 0, 33) := by decide +kernel
theorem c_168_33 : ax_code 168 33 = some (.iload 3, 34) := by decide +kernel
theorem c_168_34 : ax_code 168 34 = some (.iload 6, 36) := by decide +kernel
theorem c_168_36 : ax_code 168 36 = some (.invokevirtual 97, 39) := by decide +kernel
theorem c_168_39 : ax_code 168 39 = some (.aload 0, 40) := by decide +kernel
theorem c_168_40 : ax_code 168 40 = some (.iload 4, 42) := by decide +kernel
theorem c_168_42 : ax_code 168 42 = some (.iload 6, 44) := by decide +kernel
theorem c_168_44 : ax_code 168 44 = some (.invokevirtual 97, 47) := by decide +kernel
theorem c_168_47 : ax_code 168 47 = some (.invokestatic 169, 50) := by decide +kernel
theorem c_168_50 : ax_code 168 50 = some (.istore 7, 52) := by decide +kernel
theorem c_168_52 : ax_code 168 52 = some (.aload 0, 53) := by decide +kernel
theorem c_168_53 : ax_code 168 53 = some (.iload 1, 54) := by decide +kernel
theorem c_168_54 : ax_code 168 54 = some (.iload 6, 56) := by decide +kernel
theorem c_168_56 : ax_code 168 56 = some (.iload 7, 58) := by decide +kernel
theorem c_168_58 : ax_code 168 58 = some (.invokevirtual 83, 61) := by decide +kernel
theorem c_168_61 : ax_code 168 61 = some (.iload 5, 63) := by decide +kernel
theorem c_168_63 : ax_code 168 63 = some (.iload 7, 65) := by decide +kernel
theorem c_168_65 : ax_code 168 65 = some (.iconst (-1000000), 67) := by decide +kernel
theorem c_168_67 : ax_code 168 67 = some (.if_icmp .ne 74, 70) := by decide +kernel
theorem c_168_70 : ax_code 168 70 = some (.iconst 0, 71) := by decide +kernel
theorem c_168_71 : ax_code 168 71 = some (.goto 75, 74) := by decide +kernel
theorem c_168_74 : ax_code 168 74 = some (.iconst 1, 75) := by decide +kernel
theorem c_168_75 : ax_code 168 75 = some (.iadd, 76) := by decide +kernel
theorem c_168_76 : ax_code 168 76 = some (.istore 5, 78) := by decide +kernel
theorem c_168_78 : ax_code 168 78 = some (.iinc 6 (1), 81) := by decide +kernel
theorem c_168_81 : ax_code 168 81 = some (.goto 6, 84) := by decide +kernel
theorem c_168_84 : ax_code 168 84 = some (.iload 5, 86) := by decide +kernel
theorem c_168_86 : ax_code 168 86 = some (.ireturn, 87) := by decide +kernel
theorem c_169_0 : ax_code 169 0 = some (.iload 0, 1) := by decide +kernel
theorem c_169_1 : ax_code 169 1 = some (.iconst (-1000000), 3) := by decide +kernel
theorem c_169_3 : ax_code 169 3 = some (.if_icmp .eq 18, 6) := by decide +kernel
theorem c_169_6 : ax_code 169 6 = some (.iload 0, 7) := by decide +kernel
theorem c_169_7 : ax_code 169 7 = some (.iload 1, 8) := by decide +kernel
theorem c_169_8 : ax_code 169 8 = some (.if_icmp .eq 16, 11) := by decide +kernel
theorem c_169_11 : ax_code 169 11 = some (.iload 0, 12) := by decide +kernel
theorem c_169_12 : ax_code 169 12 = some (.iload 2, 13) := by decide +kernel
theorem c_169_13 : ax_code 169 13 = some (.if_icmp .ne 18, 16) := by decide +kernel
theorem c_169_16 : ax_code 169 16 = some (.iload 0, 17) := by decide +kernel
theorem c_169_17 : ax_code 169 17 = some (.ireturn, 18) := by decide +kernel
theorem c_169_18 : ax_code 169 18 = some (.iload 1, 19) := by decide +kernel
theorem c_169_19 : ax_code 169 19 = some (.iload 2, 20) := by decide +kernel
theorem c_169_20 : ax_code 169 20 = some (.if_icmp .ne 27, 23) := by decide +kernel
theorem c_169_23 : ax_code 169 23 = some (.iload 1, 24) := by decide +kernel
theorem c_169_24 : ax_code 169 24 = some (.goto 29, 27) := by decide +kernel
theorem c_169_27 : ax_code 169 27 = some (.iconst (-1000000), 29) := by decide +kernel
theorem c_169_29 : ax_code 169 29 = some (.ireturn, 30) := by decide +kernel
theorem c_170_0 : ax_code 170 0 = some (.iload 1, 1) := by decide +kernel
theorem c_170_1 : ax_code 170 1 = some (.ifCond .lt 10, 4) := by decide +kernel
theorem c_170_4 : ax_code 170 4 = some (.iload 1, 5) := by decide +kernel
theorem c_170_5 : ax_code 170 5 = some (.iconst 11, 7) := by decide +kernel
theorem c_170_7 : ax_code 170 7 = some (.if_icmp .le 14, 10) := by decide +kernel
theorem c_170_10 : ax_code 170 10 = some (.ldc2_w 0, 13) := by decide +kernel
theorem c_170_13 : ax_code 170 13 = some (.lreturn, 14) := by decide +kernel
theorem c_170_14 : ax_code 170 14 = some (.aload 0, 15) := by decide +kernel
theorem c_170_15 : ax_code 170 15 = some (.getfield 642, 18) := by decide +kernel
theorem c_170_18 : ax_code 170 18 = some (.getfield 257, 21) := by decide +kernel
theorem c_170_21 : ax_code 170 21 = some (.invokevirtual 124, 24) := by decide +kernel
theorem c_170_24 : ax_code 170 24 = some (.ifCond .ne 31, 27) := by decide +kernel
theorem c_170_27 : ax_code 170 27 = some (.ldc2_w 4, 30) := by decide +kernel
theorem c_170_30 : ax_code 170 30 = some (.lreturn, 31) := by decide +kernel
theorem c_170_31 : ax_code 170 31 = some (.aload 0, 32) := by decide +kernel
theorem c_170_32 : ax_code 170 32 = some (.getfield 647, 35) := by decide +kernel
theorem c_170_35 : ax_code 170 35 = some (.aload 0, 36) := by decide +kernel
theorem c_170_36 : ax_code 170 36 = some (.getfield 642, 39) := by decide +kernel
theorem c_170_39 : ax_code 170 39 = some (.getfield 257, 42) := by decide +kernel
theorem c_170_42 : ax_code 170 42 = some (.iload 1, 43) := by decide +kernel
theorem c_170_43 : ax_code 170 43 = some (.invokevirtual 171, 46) := by decide +kernel
theorem c_170_46 : ax_code 170 46 = some (.aload 0, 47) := by decide +kernel
theorem c_170_47 : ax_code 170 47 = some (.getfield 647, 50) := by decide +kernel
theorem c_170_50 : ax_code 170 50 = some (.invokevirtual 122, 53) := by decide +kernel
theorem c_170_53 : ax_code 170 53 = some (.i2l, 54) := by decide +kernel
theorem c_170_54 : ax_code 170 54 = some (.lreturn, 55) := by decide +kernel
theorem c_171_0 : ax_code 171 0 = some (.aload 0, 1) := by decide +kernel
theorem c_171_1 : ax_code 171 1 = some (.invokevirtual 117, 4) := by decide +kernel
theorem c_171_4 : ax_code 171 4 = some (.aload 1, 5) := by decide +kernel
theorem c_171_5 : ax_code 171 5 = some (.invokevirtual 124, 8) := by decide +kernel
theorem c_171_8 : ax_code 171 8 = some (.istore 3, 9) := by decide +kernel
theorem c_171_9 : ax_code 171 9 = some (.iconst 1, 10) := by decide +kernel
theorem c_171_10 : ax_code 171 10 = some (.iload 3, 11) := by decide +kernel
theorem c_171_11 : ax_code 171 11 = some (.ishl, 12) := by decide +kernel
theorem c_171_12 : ax_code 171 12 = some (.iconst 1, 13) := by decide +kernel
theorem c_171_13 : ax_code 171 13 = some (.isub, 14) := by decide +kernel
theorem c_171_14 : ax_code 171 14 = some (.istore 4, 16) := by decide +kernel
theorem c_171_16 : ax_code 171 16 = some (.iconst 0, 17) := by decide +kernel
theorem c_171_17 : ax_code 171 17 = some (.istore 5, 19) := by decide +kernel
theorem c_171_19 : ax_code 171 19 = some (.iload 5, 21) := by decide +kernel
theorem c_171_21 : ax_code 171 21 = some (.iload 3, 22) := by decide +kernel
theorem c_171_22 : ax_code 171 22 = some (.if_icmp .ge 52, 25) := by decide +kernel
theorem c_171_25 : ax_code 171 25 = some (.iload 5, 27) := by decide +kernel
theorem c_171_27 : ax_code 171 27 = some (.iconst 12, 29) := by decide +kernel
theorem c_171_29 : ax_code 171 29 = some (.if_icmp .ge 52, 32) := by decide +kernel
theorem c_171_32 : ax_code 171 32 = some (.aload 0, 33) := by decide +kernel
theorem c_171_33 : ax_code 171 33 = some (.getfield 512, 36) := by decide +kernel
theorem c_171_36 : ax_code 171 36 = some (.iload 5, 38) := by decide +kernel
theorem c_171_38 : ax_code 171 38 = some (.aload 1, 39) := by decide +kernel
theorem c_171_39 : ax_code 171 39 = some (.iload 5, 41) := by decide +kernel
theorem c_171_41 : ax_code 171 41 = some (.iload 2, 42) := by decide +kernel
theorem c_171_42 : ax_code 171 42 = some (.invokestatic 172, 45) := by decide +kernel
theorem c_171_45 : ax_code 171 45 = some (.iastore, 46) := by decide +kernel
theorem c_171_46 : ax_code 171 46 = some (.iinc 5 (1), 49) := by decide +kernel
theorem c_171_49 : ax_code 171 49 = some (.goto 19, 52) := by decide +kernel
theorem c_171_52 : ax_code 171 52 = some (.iconst 1, 53) := by decide +kernel
theorem c_171_53 : ax_code 171 53 = some (.istore 5, 55) := by decide +kernel
theorem c_171_55 : ax_code 171 55 = some (.iload 5, 57) := by decide +kernel
theorem c_171_57 : ax_code 171 57 = some (.iload 4, 59) := by decide +kernel
theorem c_171_59 : ax_code 171 59 = some (.if_icmp .gt 128, 62) := by decide +kernel
theorem c_171_62 : ax_code 171 62 = some (.iload 5, 64) := by decide +kernel
theorem c_171_64 : ax_code 171 64 = some (.iconst 4096, 67) := by decide +kernel
theorem c_171_67 : ax_code 171 67 = some (.if_icmp .ge 128, 70) := by decide +kernel
theorem c_171_70 : ax_code 171 70 = some (.iload 5, 72) := by decide +kernel
theorem c_171_72 : ax_code 171 72 = some (.invokestatic 118, 75) := by decide +kernel
theorem c_171_75 : ax_code 171 75 = some (.istore 6, 77) := by decide +kernel
theorem c_171_77 : ax_code 171 77 = some (.aload 0, 78) := by decide +kernel
theorem c_171_78 : ax_code 171 78 = some (.getfield 513, 81) := by decide +kernel
theorem c_171_81 : ax_code 171 81 = some (.iload 5, 83) := by decide +kernel
theorem c_171_83 : ax_code 171 83 = some (.aload 0, 84) := by decide +kernel
theorem c_171_84 : ax_code 171 84 = some (.getfield 513, 87) := by decide +kernel
theorem c_171_87 : ax_code 171 87 = some (.iload 5, 89) := by decide +kernel
theorem c_171_89 : ax_code 171 89 = some (.iload 5, 91) := by decide +kernel
theorem c_171_91 : ax_code 171 91 = some (.iconst 1, 92) := by decide +kernel
theorem c_171_92 : ax_code 171 92 = some (.isub, 93) := by decide +kernel
theorem c_171_93 : ax_code 171 93 = some (.iand, 94) := by decide +kernel
theorem c_171_94 : ax_code 171 94 = some (.iaload, 95) := by decide +kernel
theorem c_171_95 : ax_code 171 95 = some (.aload 0, 96) := by decide +kernel
theorem c_171_96 : ax_code 171 96 = some (.getfield 512, 99) := by decide +kernel
theorem c_171_99 : ax_code 171 99 = some (.iload 6, 101) := by decide +kernel
theorem c_171_101 : ax_code 171 101 = some (.iaload, 102) := by decide +kernel
theorem c_171_102 : ax_code 171 102 = some (.ior, 103) := by decide +kernel
theorem c_171_103 : ax_code 171 103 = some (.iastore, 104) := by decide +kernel
theorem c_171_104 : ax_code 171 104 = some (.aload 0, 105) := by decide +kernel
theorem c_171_105 : ax_code 171 105 = some (.getfield 513, 108) := by decide +kernel
theorem c_171_108 : ax_code 171 108 = some (.iload 5, 110) := by decide +kernel
theorem c_171_110 : ax_code 171 110 = some (.iaload, 111) := by decide +kernel
theorem c_171_111 : ax_code 171 111 = some (.iload 4, 113) := by decide +kernel
theorem c_171_113 : ax_code 171 113 = some (.if_icmp .ne 122, 116) := by decide +kernel
theorem c_171_116 : ax_code 171 116 = some (.aload 0, 117) := by decide +kernel
theorem c_171_117 : ax_code 171 117 = some (.iload 5, 119) := by decide +kernel
theorem c_171_119 : ax_code 171 119 = some (.invokevirtual 119, 122) := by decide +kernel
theorem c_171_122 : ax_code 171 122 = some (.iinc 5 (1), 125) := by decide +kernel
theorem c_171_125 : ax_code 171 125 = some (.goto 55, 128) := by decide +kernel
theorem c_171_128 : ax_code 171 128 = some (.return_, 129) := by decide +kernel
theorem c_172_0 : ax_code 172 0 = some (.iconst 0, 1) := by decide +kernel
theorem c_172_1 : ax_code 172 1 = some (.istore 3, 2) := by decide +kernel
theorem c_172_2 : ax_code 172 2 = some (.iconst 0, 3) := by decide +kernel
theorem c_172_3 : ax_code 172 3 = some (.istore 4, 5) := by decide +kernel
theorem c_172_5 : ax_code 172 5 = some (.iload 4, 7) := by decide +kernel
theorem c_172_7 : ax_code 172 7 = some (.aload 0, 8) := by decide +kernel
theorem c_172_8 : ax_code 172 8 = some (.invokevirtual 124, 11) := by decide +kernel
theorem c_172_11 : ax_code 172 11 = some (.if_icmp .ge 44, 14) := by decide +kernel
theorem c_172_14 : ax_code 172 14 = some (.iload 4, 16) := by decide +kernel
theorem c_172_16 : ax_code 172 16 = some (.iload 1, 17) := by decide +kernel
theorem c_172_17 : ax_code 172 17 = some (.if_icmp .eq 31, 20) := by decide +kernel
theorem c_172_20 : ax_code 172 20 = some (.aload 0, 21) := by decide +kernel
theorem c_172_21 : ax_code 172 21 = some (.iload 1, 22) := by decide +kernel
theorem c_172_22 : ax_code 172 22 = some (.iload 4, 24) := by decide +kernel
theorem c_172_24 : ax_code 172 24 = some (.invokevirtual 108, 27) := by decide +kernel
theorem c_172_27 : ax_code 172 27 = some (.iload 2, 28) := by decide +kernel
theorem c_172_28 : ax_code 172 28 = some (.if_icmp .gt 38, 31) := by decide +kernel
theorem c_172_31 : ax_code 172 31 = some (.iload 3, 32) := by decide +kernel
theorem c_172_32 : ax_code 172 32 = some (.iconst 1, 33) := by decide +kernel
theorem c_172_33 : ax_code 172 33 = some (.iload 4, 35) := by decide +kernel
theorem c_172_35 : ax_code 172 35 = some (.ishl, 36) := by decide +kernel
theorem c_172_36 : ax_code 172 36 = some (.ior, 37) := by decide +kernel
theorem c_172_37 : ax_code 172 37 = some (.istore 3, 38) := by decide +kernel
theorem c_172_38 : ax_code 172 38 = some (.iinc 4 (1), 41) := by decide +kernel
theorem c_172_41 : ax_code 172 41 = some (.goto 5, 44) := by decide +kernel
theorem c_172_44 : ax_code 172 44 = some (.iload 3, 45) := by decide +kernel
theorem c_172_45 : ax_code 172 45 = some (.ireturn, 46) := by decide +kernel
theorem c_173_0 : ax_code 173 0 = some (.iload 1, 1) := by decide +kernel
theorem c_173_1 : ax_code 173 1 = some (.ifCond .lt 9, 4) := by decide +kernel
theorem c_173_4 : ax_code 173 4 = some (.iload 1, 5) := by decide +kernel
theorem c_173_5 : ax_code 173 5 = some (.iconst 1, 6) := by decide +kernel
theorem c_173_6 : ax_code 173 6 = some (.if_icmp .le 13, 9) := by decide +kernel
theorem c_173_9 : ax_code 173 9 = some (.ldc2_w 0, 12) := by decide +kernel
theorem c_173_12 : ax_code 173 12 = some (.lreturn, 13) := by decide +kernel
theorem c_173_13 : ax_code 173 13 = some (.aload 0, 14) := by decide +kernel
theorem c_173_14 : ax_code 173 14 = some (.getfield 642, 17) := by decide +kernel
theorem c_173_17 : ax_code 173 17 = some (.getfield 256, 20) := by decide +kernel
theorem c_173_20 : ax_code 173 20 = some (.invokevirtual 67, 23) := by decide +kernel
theorem c_173_23 : ax_code 173 23 = some (.ifCond .ne 30, 26) := by decide +kernel
theorem c_173_26 : ax_code 173 26 = some (.ldc2_w 4, 29) := by decide +kernel
theorem c_173_29 : ax_code 173 29 = some (.lreturn, 30) := by decide +kernel
theorem c_173_30 : ax_code 173 30 = some (.aload 0, 31) := by decide +kernel
theorem c_173_31 : ax_code 173 31 = some (.iload 1, 32) := by decide +kernel
theorem c_173_32 : ax_code 173 32 = some (.invokevirtual 174, 35) := by decide +kernel
theorem c_173_35 : ax_code 173 35 = some (.aload 0, 36) := by decide +kernel
theorem c_173_36 : ax_code 173 36 = some (.getfield 642, 39) := by decide +kernel
theorem c_173_39 : ax_code 173 39 = some (.invokevirtual 175, 42) := by decide +kernel
theorem c_173_42 : ax_code 173 42 = some (.lconst 1, 43) := by decide +kernel
theorem c_173_43 : ax_code 173 43 = some (.lreturn, 44) := by decide +kernel
theorem c_174_0 : ax_code 174 0 = some (.iload 1, 1) := by decide +kernel
theorem c_174_1 : ax_code 174 1 = some (.ifCond .ne 11, 4) := by decide +kernel
theorem c_174_4 : ax_code 174 4 = some (.aload 0, 5) := by decide +kernel
theorem c_174_5 : ax_code 174 5 = some (.getfield 643, 8) := by decide +kernel
theorem c_174_8 : ax_code 174 8 = some (.goto 15, 11) := by decide +kernel
theorem c_174_11 : ax_code 174 11 = some (.aload 0, 12) := by decide +kernel
theorem c_174_12 : ax_code 174 12 = some (.getfield 644, 15) := by decide +kernel
theorem c_174_15 : ax_code 174 15 = some (.areturn, 16) := by decide +kernel
theorem c_175_0 : ax_code 175 0 = some (.aload 0, 1) := by decide +kernel
theorem c_175_1 : ax_code 175 1 = some (.getfield 256, 4) := by decide +kernel
theorem c_175_4 : ax_code 175 4 = some (.aload 1, 5) := by decide +kernel
theorem c_175_5 : ax_code 175 5 = some (.getfield 256, 8) := by decide +kernel
theorem c_175_8 : ax_code 175 8 = some (.invokevirtual 62, 11) := by decide +kernel
theorem c_175_11 : ax_code 175 11 = some (.aload 0, 12) := by decide +kernel
theorem c_175_12 : ax_code 175 12 = some (.getfield 257, 15) := by decide +kernel
theorem c_175_15 : ax_code 175 15 = some (.aload 1, 16) := by decide +kernel
theorem c_175_16 : ax_code 175 16 = some (.getfield 257, 19) := by decide +kernel
theorem c_175_19 : ax_code 175 19 = some (.invokevirtual 176, 22) := by decide +kernel
theorem c_175_22 : ax_code 175 22 = some (.return_, 23) := by decide +kernel
theorem c_176_0 : ax_code 176 0 = some (.aload 0, 1) := by decide +kernel
theorem c_176_1 : ax_code 176 1 = some (.aload 1, 2) := by decide +kernel
theorem c_176_2 : ax_code 176 2 = some (.getfield 64, 5) := by decide +kernel
theorem c_176_5 : ax_code 176 5 = some (.putfield 64, 8) := by decide +kernel
theorem c_176_8 : ax_code 176 8 = some (.aload 1, 9) := by decide +kernel
theorem c_176_9 : ax_code 176 9 = some (.getfield 65, 12) := by decide +kernel
theorem c_176_12 : ax_code 176 12 = some (.iconst 0, 13) := by decide +kernel
theorem c_176_13 : ax_code 176 13 = some (.aload 0, 14) := by decide +kernel
theorem c_176_14 : ax_code 176 14 = some (.getfield 65, 17) := by decide +kernel
theorem c_176_17 : ax_code 176 17 = some (.iconst 0, 18) := by decide +kernel
theorem c_176_18 : ax_code 176 18 = some (.iconst 12, 20) := by decide +kernel
theorem c_176_20 : ax_code 176 20 = some (.invokedynamic 3, 23) := by decide +kernel
theorem c_176_23 : ax_code 176 23 = some (.aload 1, 24) := by decide +kernel
theorem c_176_24 : ax_code 176 24 = some (.getfield 66, 27) := by decide +kernel
theorem c_176_27 : ax_code 176 27 = some (.iconst 0, 28) := by decide +kernel
theorem c_176_28 : ax_code 176 28 = some (.aload 0, 29) := by decide +kernel
theorem c_176_29 : ax_code 176 29 = some (.getfield 66, 32) := by decide +kernel
theorem c_176_32 : ax_code 176 32 = some (.iconst 0, 33) := by decide +kernel
theorem c_176_33 : ax_code 176 33 = some (.iconst 12, 35) := by decide +kernel
theorem c_176_35 : ax_code 176 35 = some (.invokedynamic 3, 38) := by decide +kernel
theorem c_176_38 : ax_code 176 38 = some (.aload 1, 39) := by decide +kernel
theorem c_176_39 : ax_code 176 39 = some (.getfield 67, 42) := by decide +kernel
theorem c_176_42 : ax_code 176 42 = some (.iconst 0, 43) := by decide +kernel
theorem c_176_43 : ax_code 176 43 = some (.aload 0, 44) := by decide +kernel
theorem c_176_44 : ax_code 176 44 = some (.getfield 67, 47) := by decide +kernel
theorem c_176_47 : ax_code 176 47 = some (.iconst 0, 48) := by decide +kernel
theorem c_176_48 : ax_code 176 48 = some (.iconst 12, 50) := by decide +kernel
theorem c_176_50 : ax_code 176 50 = some (.invokedynamic 3, 53) := by decide +kernel
theorem c_176_53 : ax_code 176 53 = some (.aload 1, 54) := by decide +kernel
theorem c_176_54 : ax_code 176 54 = some (.getfield 68, 57) := by decide +kernel
theorem c_176_57 : ax_code 176 57 = some (.iconst 0, 58) := by decide +kernel
theorem c_176_58 : ax_code 176 58 = some (.aload 0, 59) := by decide +kernel
theorem c_176_59 : ax_code 176 59 = some (.getfield 68, 62) := by decide +kernel
theorem c_176_62 : ax_code 176 62 = some (.iconst 0, 63) := by decide +kernel
theorem c_176_63 : ax_code 176 63 = some (.iconst 132, 66) := by decide +kernel
theorem c_176_66 : ax_code 176 66 = some (.invokedynamic 3, 69) := by decide +kernel
theorem c_176_69 : ax_code 176 69 = some (.return_, 70) := by decide +kernel
theorem c_177_0 : ax_code 177 0 = some (.iload 1, 1) := by decide +kernel
theorem c_177_1 : ax_code 177 1 = some (.ifCond .lt 9, 4) := by decide +kernel
theorem c_177_4 : ax_code 177 4 = some (.iload 1, 5) := by decide +kernel
theorem c_177_5 : ax_code 177 5 = some (.iconst 1, 6) := by decide +kernel
theorem c_177_6 : ax_code 177 6 = some (.if_icmp .le 13, 9) := by decide +kernel
theorem c_177_9 : ax_code 177 9 = some (.ldc2_w 0, 12) := by decide +kernel
theorem c_177_12 : ax_code 177 12 = some (.lreturn, 13) := by decide +kernel
theorem c_177_13 : ax_code 177 13 = some (.aload 0, 14) := by decide +kernel
theorem c_177_14 : ax_code 177 14 = some (.iload 1, 15) := by decide +kernel
theorem c_177_15 : ax_code 177 15 = some (.invokevirtual 174, 18) := by decide +kernel
theorem c_177_18 : ax_code 177 18 = some (.getfield 256, 21) := by decide +kernel
theorem c_177_21 : ax_code 177 21 = some (.invokevirtual 67, 24) := by decide +kernel
theorem c_177_24 : ax_code 177 24 = some (.ifCond .ne 31, 27) := by decide +kernel
theorem c_177_27 : ax_code 177 27 = some (.ldc2_w 4, 30) := by decide +kernel
theorem c_177_30 : ax_code 177 30 = some (.lreturn, 31) := by decide +kernel
theorem c_177_31 : ax_code 177 31 = some (.aload 0, 32) := by decide +kernel
theorem c_177_32 : ax_code 177 32 = some (.getfield 642, 35) := by decide +kernel
theorem c_177_35 : ax_code 177 35 = some (.aload 0, 36) := by decide +kernel
theorem c_177_36 : ax_code 177 36 = some (.iload 1, 37) := by decide +kernel
theorem c_177_37 : ax_code 177 37 = some (.invokevirtual 174, 40) := by decide +kernel
theorem c_177_40 : ax_code 177 40 = some (.invokevirtual 175, 43) := by decide +kernel
theorem c_177_43 : ax_code 177 43 = some (.lconst 1, 44) := by decide +kernel
theorem c_177_44 : ax_code 177 44 = some (.lreturn, 45) := by decide +kernel
theorem c_178_0 : ax_code 178 0 = some (.aload 0, 1) := by decide +kernel
theorem c_178_1 : ax_code 178 1 = some (.getfield 642, 4) := by decide +kernel
theorem c_178_4 : ax_code 178 4 = some (.getfield 257, 7) := by decide +kernel
theorem c_178_7 : ax_code 178 7 = some (.iload 1, 8) := by decide +kernel
theorem c_178_8 : ax_code 178 8 = some (.invokevirtual 84, 11) := by decide +kernel
theorem c_178_11 : ax_code 178 11 = some (.ifCond .ne 18, 14) := by decide +kernel
theorem c_178_14 : ax_code 178 14 = some (.ldc2_w 0, 17) := by decide +kernel
theorem c_178_17 : ax_code 178 17 = some (.lreturn, 18) := by decide +kernel
theorem c_178_18 : ax_code 178 18 = some (.aload 0, 19) := by decide +kernel
theorem c_178_19 : ax_code 178 19 = some (.getfield 642, 22) := by decide +kernel
theorem c_178_22 : ax_code 178 22 = some (.iload 1, 23) := by decide +kernel
theorem c_178_23 : ax_code 178 23 = some (.invokevirtual 179, 26) := by decide +kernel
theorem c_178_26 : ax_code 178 26 = some (.i2l, 27) := by decide +kernel
theorem c_178_27 : ax_code 178 27 = some (.lreturn, 28) := by decide +kernel
theorem c_179_0 : ax_code 179 0 = some (.aload 0, 1) := by decide +kernel
theorem c_179_1 : ax_code 179 1 = some (.getfield 257, 4) := by decide +kernel
theorem c_179_4 : ax_code 179 4 = some (.iload 1, 5) := by decide +kernel
theorem c_179_5 : ax_code 179 5 = some (.invokevirtual 103, 8) := by decide +kernel
theorem c_179_8 : ax_code 179 8 = some (.ifCond .ne 40, 11) := by decide +kernel
theorem c_179_11 : ax_code 179 11 = some (.aload 0, 12) := by decide +kernel
theorem c_179_12 : ax_code 179 12 = some (.iload 1, 13) := by decide +kernel
theorem c_179_13 : ax_code 179 13 = some (.invokevirtual 113, 16) := by decide +kernel
theorem c_179_16 : ax_code 179 16 = some (.ifCond .eq 21, 19) := by decide +kernel
theorem c_179_19 : ax_code 179 19 = some (.iconst 3, 20) := by decide +kernel
theorem c_179_20 : ax_code 179 20 = some (.ireturn, 21) := by decide +kernel
theorem c_179_21 : ax_code 179 21 = some (.aload 0, 22) := by decide +kernel
theorem c_179_22 : ax_code 179 22 = some (.getfield 257, 25) := by decide +kernel
theorem c_179_25 : ax_code 179 25 = some (.iload 1, 26) := by decide +kernel
theorem c_179_26 : ax_code 179 26 = some (.invokevirtual 102, 29) := by decide +kernel
theorem c_179_29 : ax_code 179 29 = some (.iconst (-1000000), 31) := by decide +kernel
theorem c_179_31 : ax_code 179 31 = some (.if_icmp .ne 38, 34) := by decide +kernel
theorem c_179_34 : ax_code 179 34 = some (.iconst 4, 35) := by decide +kernel
theorem c_179_35 : ax_code 179 35 = some (.goto 39, 38) := by decide +kernel
theorem c_179_38 : ax_code 179 38 = some (.iconst 1, 39) := by decide +kernel
theorem c_179_39 : ax_code 179 39 = some (.ireturn, 40) := by decide +kernel
theorem c_179_40 : ax_code 179 40 = some (.aload 0, 41) := by decide +kernel
theorem c_179_41 : ax_code 179 41 = some (.getfield 257, 44) := by decide +kernel
theorem c_179_44 : ax_code 179 44 = some (.iload 1, 45) := by decide +kernel
theorem c_179_45 : ax_code 179 45 = some (.invokevirtual 102, 48) := by decide +kernel
theorem c_179_48 : ax_code 179 48 = some (.istore 2, 49) := by decide +kernel
theorem c_179_49 : ax_code 179 49 = some (.iload 2, 50) := by decide +kernel
theorem c_179_50 : ax_code 179 50 = some (.iconst (-1000000), 52) := by decide +kernel
theorem c_179_52 : ax_code 179 52 = some (.if_icmp .eq 72, 55) := by decide +kernel
theorem c_179_55 : ax_code 179 55 = some (.aload 0, 56) := by decide +kernel
theorem c_179_56 : ax_code 179 56 = some (.getfield 257, 59) := by decide +kernel
theorem c_179_59 : ax_code 179 59 = some (.iload 1, 60) := by decide +kernel
theorem c_179_60 : ax_code 179 60 = some (.iload 2, 61) := by decide +kernel
theorem c_179_61 : ax_code 179 61 = some (.invokevirtual 108, 64) := by decide +kernel
theorem c_179_64 : ax_code 179 64 = some (.iconst 2, 65) := by decide +kernel
theorem c_179_65 : ax_code 179 65 = some (.if_icmp .lt 72, 68) := by decide +kernel
theorem c_179_68 : ax_code 179 68 = some (.iconst 5, 69) := by decide +kernel
theorem c_179_69 : ax_code 179 69 = some (.goto 73, 72) := by decide +kernel
theorem c_179_72 : ax_code 179 72 = some (.iconst 2, 73) := by decide +kernel
theorem c_179_73 : ax_code 179 73 = some (.ireturn, 74) := by decide +kernel
theorem c_180_0 : ax_code 180 0 = some (.aload 0, 1) := by decide +kernel
theorem c_180_1 : ax_code 180 1 = some (.getfield 642, 4) := by decide +kernel
theorem c_180_4 : ax_code 180 4 = some (.getfield 257, 7) := by decide +kernel
theorem c_180_7 : ax_code 180 7 = some (.iload 1, 8) := by decide +kernel
theorem c_180_8 : ax_code 180 8 = some (.invokevirtual 84, 11) := by decide +kernel
theorem c_180_11 : ax_code 180 11 = some (.ifCond .eq 23, 14) := by decide +kernel
theorem c_180_14 : ax_code 180 14 = some (.iload 2, 15) := by decide +kernel
theorem c_180_15 : ax_code 180 15 = some (.ifCond .lt 23, 18) := by decide +kernel
theorem c_180_18 : ax_code 180 18 = some (.iload 2, 19) := by decide +kernel
theorem c_180_19 : ax_code 180 19 = some (.iconst 5, 20) := by decide +kernel
theorem c_180_20 : ax_code 180 20 = some (.if_icmp .le 27, 23) := by decide +kernel
theorem c_180_23 : ax_code 180 23 = some (.ldc2_w 0, 26) := by decide +kernel
theorem c_180_26 : ax_code 180 26 = some (.lreturn, 27) := by decide +kernel
theorem c_180_27 : ax_code 180 27 = some (.aload 0, 28) := by decide +kernel
theorem c_180_28 : ax_code 180 28 = some (.getfield 642, 31) := by decide +kernel
theorem c_180_31 : ax_code 180 31 = some (.iload 1, 32) := by decide +kernel
theorem c_180_32 : ax_code 180 32 = some (.invokevirtual 179, 35) := by decide +kernel
theorem c_180_35 : ax_code 180 35 = some (.iload 2, 36) := by decide +kernel
theorem c_180_36 : ax_code 180 36 = some (.invokestatic 181, 39) := by decide +kernel
theorem c_180_39 : ax_code 180 39 = some (.ifCond .ne 48, 42) := by decide +kernel
theorem c_180_42 : ax_code 180 42 = some (.aload 0, 43) := by decide +kernel
theorem c_180_43 : ax_code 180 43 = some (.iconst 3, 44) := by decide +kernel
theorem c_180_44 : ax_code 180 44 = some (.invokevirtual 14, 47) := by decide +kernel
theorem c_180_47 : ax_code 180 47 = some (.lreturn, 48) := by decide +kernel
theorem c_180_48 : ax_code 180 48 = some (.aload 0, 49) := by decide +kernel
theorem c_180_49 : ax_code 180 49 = some (.iload 1, 50) := by decide +kernel
theorem c_180_50 : ax_code 180 50 = some (.i2l, 51) := by decide +kernel
theorem c_180_51 : ax_code 180 51 = some (.invokevirtual 16, 54) := by decide +kernel
theorem c_180_54 : ax_code 180 54 = some (.lreturn, 55) := by decide +kernel
theorem c_181_0 : ax_code 181 0 = some (.iload 1, 1) := by decide +kernel
theorem c_181_1 : ax_code 181 1 = some (.tableswitch 67 (0) (2) #[28, 30, 51], 28) := by decide +kernel
theorem c_181_28 : ax_code 181 28 = some (.iconst 1, 29) := by decide +kernel
theorem c_181_29 : ax_code 181 29 = some (.ireturn, 30) := by decide +kernel
theorem c_181_30 : ax_code 181 30 = some (.iload 0, 31) := by decide +kernel
theorem c_181_31 : ax_code 181 31 = some (.iconst 1, 32) := by decide +kernel
theorem c_181_32 : ax_code 181 32 = some (.if_icmp .eq 45, 35) := by decide +kernel
theorem c_181_35 : ax_code 181 35 = some (.iload 0, 36) := by decide +kernel
theorem c_181_36 : ax_code 181 36 = some (.iconst 3, 37) := by decide +kernel
theorem c_181_37 : ax_code 181 37 = some (.if_icmp .eq 45, 40) := by decide +kernel
theorem c_181_40 : ax_code 181 40 = some (.iload 0, 41) := by decide +kernel
theorem c_181_41 : ax_code 181 41 = some (.iconst 4, 42) := by decide +kernel
theorem c_181_42 : ax_code 181 42 = some (.if_icmp .ne 49, 45) := by decide +kernel
theorem c_181_45 : ax_code 181 45 = some (.iconst 1, 46) := by decide +kernel
theorem c_181_46 : ax_code 181 46 = some (.goto 50, 49) := by decide +kernel
theorem c_181_49 : ax_code 181 49 = some (.iconst 0, 50) := by decide +kernel
theorem c_181_50 : ax_code 181 50 = some (.ireturn, 51) := by decide +kernel
theorem c_181_51 : ax_code 181 51 = some (.iload 0, 52) := by decide +kernel
theorem c_181_52 : ax_code 181 52 = some (.iconst 2, 53) := by decide +kernel
theorem c_181_53 : ax_code 181 53 = some (.if_icmp .eq 61, 56) := by decide +kernel
theorem c_181_56 : ax_code 181 56 = some (.iload 0, 57) := by decide +kernel
theorem c_181_57 : ax_code 181 57 = some (.iconst 5, 58) := by decide +kernel
theorem c_181_58 : ax_code 181 58 = some (.if_icmp .ne 65, 61) := by decide +kernel
theorem c_181_61 : ax_code 181 61 = some (.iconst 1, 62) := by decide +kernel
theorem c_181_62 : ax_code 181 62 = some (.goto 66, 65) := by decide +kernel
theorem c_181_65 : ax_code 181 65 = some (.iconst 0, 66) := by decide +kernel
theorem c_181_66 : ax_code 181 66 = some (.ireturn, 67) := by decide +kernel
theorem c_181_67 : ax_code 181 67 = some (.iload 0, 68) := by decide +kernel
theorem c_181_68 : ax_code 181 68 = some (.iload 1, 69) := by decide +kernel
theorem c_181_69 : ax_code 181 69 = some (.if_icmp .ne 76, 72) := by decide +kernel
theorem c_181_72 : ax_code 181 72 = some (.iconst 1, 73) := by decide +kernel
theorem c_181_73 : ax_code 181 73 = some (.goto 77, 76) := by decide +kernel
theorem c_181_76 : ax_code 181 76 = some (.iconst 0, 77) := by decide +kernel
theorem c_181_77 : ax_code 181 77 = some (.ireturn, 78) := by decide +kernel
theorem c_182_0 : ax_code 182 0 = some (.aload 0, 1) := by decide +kernel
theorem c_182_1 : ax_code 182 1 = some (.getfield 642, 4) := by decide +kernel
theorem c_182_4 : ax_code 182 4 = some (.getfield 257, 7) := by decide +kernel
theorem c_182_7 : ax_code 182 7 = some (.iload 1, 8) := by decide +kernel
theorem c_182_8 : ax_code 182 8 = some (.invokevirtual 84, 11) := by decide +kernel
theorem c_182_11 : ax_code 182 11 = some (.ifCond .eq 23, 14) := by decide +kernel
theorem c_182_14 : ax_code 182 14 = some (.iload 2, 15) := by decide +kernel
theorem c_182_15 : ax_code 182 15 = some (.ifCond .lt 23, 18) := by decide +kernel
theorem c_182_18 : ax_code 182 18 = some (.iload 2, 19) := by decide +kernel
theorem c_182_19 : ax_code 182 19 = some (.iconst 1, 20) := by decide +kernel
theorem c_182_20 : ax_code 182 20 = some (.if_icmp .le 27, 23) := by decide +kernel
theorem c_182_23 : ax_code 182 23 = some (.ldc2_w 0, 26) := by decide +kernel
theorem c_182_26 : ax_code 182 26 = some (.lreturn, 27) := by decide +kernel
theorem c_182_27 : ax_code 182 27 = some (.aload 0, 28) := by decide +kernel
theorem c_182_28 : ax_code 182 28 = some (.getfield 649, 31) := by decide +kernel
theorem c_182_31 : ax_code 182 31 = some (.aload 0, 32) := by decide +kernel
theorem c_182_32 : ax_code 182 32 = some (.getfield 642, 35) := by decide +kernel
theorem c_182_35 : ax_code 182 35 = some (.iload 1, 36) := by decide +kernel
theorem c_182_36 : ax_code 182 36 = some (.iload 2, 37) := by decide +kernel
theorem c_182_37 : ax_code 182 37 = some (.invokevirtual 183, 40) := by decide +kernel
theorem c_182_40 : ax_code 182 40 = some (.i2l, 41) := by decide +kernel
theorem c_182_41 : ax_code 182 41 = some (.lreturn, 42) := by decide +kernel
theorem c_183_0 : ax_code 183 0 = some (.aload 0, 1) := by decide +kernel
theorem c_183_1 : ax_code 183 1 = some (.iconst 0, 2) := by decide +kernel
theorem c_183_2 : ax_code 183 2 = some (.putfield 1, 5) := by decide +kernel
theorem c_183_5 : ax_code 183 5 = some (.aload 0, 6) := by decide +kernel
theorem c_183_6 : ax_code 183 6 = some (.iload 2, 7) := by decide +kernel
theorem c_183_7 : ax_code 183 7 = some (.putfield 2, 10) := by decide +kernel
theorem c_183_10 : ax_code 183 10 = some (.aload 0, 11) := by decide +kernel
theorem c_183_11 : ax_code 183 11 = some (.aload 1, 12) := by decide +kernel
theorem c_183_12 : ax_code 183 12 = some (.iload 2, 13) := by decide +kernel
theorem c_183_13 : ax_code 183 13 = some (.invokevirtual 179, 16) := by decide +kernel
theorem c_183_16 : ax_code 183 16 = some (.putfield 3, 19) := by decide +kernel
theorem c_183_19 : ax_code 183 19 = some (.aload 0, 20) := by decide +kernel
theorem c_183_20 : ax_code 183 20 = some (.aload 1, 21) := by decide +kernel
theorem c_183_21 : ax_code 183 21 = some (.getfield 257, 24) := by decide +kernel
theorem c_183_24 : ax_code 183 24 = some (.iload 2, 25) := by decide +kernel
theorem c_183_25 : ax_code 183 25 = some (.invokevirtual 91, 28) := by decide +kernel
theorem c_183_28 : ax_code 183 28 = some (.putfield 4, 31) := by decide +kernel
theorem c_183_31 : ax_code 183 31 = some (.aload 0, 32) := by decide +kernel
theorem c_183_32 : ax_code 183 32 = some (.aload 1, 33) := by decide +kernel
theorem c_183_33 : ax_code 183 33 = some (.getfield 257, 36) := by decide +kernel
theorem c_183_36 : ax_code 183 36 = some (.iload 2, 37) := by decide +kernel
theorem c_183_37 : ax_code 183 37 = some (.invokevirtual 184, 40) := by decide +kernel
theorem c_183_40 : ax_code 183 40 = some (.putfield 5, 43) := by decide +kernel
theorem c_183_43 : ax_code 183 43 = some (.aload 0, 44) := by decide +kernel
theorem c_183_44 : ax_code 183 44 = some (.aload 1, 45) := by decide +kernel
theorem c_183_45 : ax_code 183 45 = some (.getfield 257, 48) := by decide +kernel
theorem c_183_48 : ax_code 183 48 = some (.iload 2, 49) := by decide +kernel
theorem c_183_49 : ax_code 183 49 = some (.invokevirtual 103, 52) := by decide +kernel
theorem c_183_52 : ax_code 183 52 = some (.putfield 6, 55) := by decide +kernel
theorem c_183_55 : ax_code 183 55 = some (.aload 0, 56) := by decide +kernel
theorem c_183_56 : ax_code 183 56 = some (.aload 1, 57) := by decide +kernel
theorem c_183_57 : ax_code 183 57 = some (.iload 2, 58) := by decide +kernel
theorem c_183_58 : ax_code 183 58 = some (.invokevirtual 111, 61) := by decide +kernel
theorem c_183_61 : ax_code 183 61 = some (.putfield 7, 64) := by decide +kernel
theorem c_183_64 : ax_code 183 64 = some (.aload 0, 65) := by decide +kernel
theorem c_183_65 : ax_code 183 65 = some (.aload 0, 66) := by decide +kernel
theorem c_183_66 : ax_code 183 66 = some (.iload 3, 67) := by decide +kernel
theorem c_183_67 : ax_code 183 67 = some (.invokevirtual 185, 70) := by decide +kernel
theorem c_183_70 : ax_code 183 70 = some (.iconst 0, 71) := by decide +kernel
theorem c_183_71 : ax_code 183 71 = some (.invokevirtual 186, 74) := by decide +kernel
theorem c_183_74 : ax_code 183 74 = some (.ireturn, 75) := by decide +kernel
theorem c_184_0 : ax_code 184 0 = some (.iconst 0, 1) := by decide +kernel
theorem c_184_1 : ax_code 184 1 = some (.istore 2, 2) := by decide +kernel
theorem c_184_2 : ax_code 184 2 = some (.iconst 0, 3) := by decide +kernel
theorem c_184_3 : ax_code 184 3 = some (.istore 3, 4) := by decide +kernel
theorem c_184_4 : ax_code 184 4 = some (.iload 3, 5) := by decide +kernel
theorem c_184_5 : ax_code 184 5 = some (.iconst 8, 7) := by decide +kernel
theorem c_184_7 : ax_code 184 7 = some (.if_icmp .ge 28, 10) := by decide +kernel
theorem c_184_10 : ax_code 184 10 = some (.aload 0, 11) := by decide +kernel
theorem c_184_11 : ax_code 184 11 = some (.iload 1, 12) := by decide +kernel
theorem c_184_12 : ax_code 184 12 = some (.iload 3, 13) := by decide +kernel
theorem c_184_13 : ax_code 184 13 = some (.invokevirtual 97, 16) := by decide +kernel
theorem c_184_16 : ax_code 184 16 = some (.ifCond .le 22, 19) := by decide +kernel
theorem c_184_19 : ax_code 184 19 = some (.iinc 2 (1), 22) := by decide +kernel
theorem c_184_22 : ax_code 184 22 = some (.iinc 3 (1), 25) := by decide +kernel
theorem c_184_25 : ax_code 184 25 = some (.goto 4, 28) := by decide +kernel
theorem c_184_28 : ax_code 184 28 = some (.iload 2, 29) := by decide +kernel
theorem c_184_29 : ax_code 184 29 = some (.ireturn, 30) := by decide +kernel
theorem c_185_0 : ax_code 185 0 = some (.aload 0, 1) := by decide +kernel
theorem c_185_1 : ax_code 185 1 = some (.getfield 3, 4) := by decide +kernel
theorem c_185_4 : ax_code 185 4 = some (.tableswitch 100 (1) (5) #[40, 76, 64, 52, 88], 40) := by decide +kernel
theorem c_185_40 : ax_code 185 40 = some (.iload 1, 41) := by decide +kernel
theorem c_185_41 : ax_code 185 41 = some (.ifCond .ne 49, 44) := by decide +kernel
theorem c_185_44 : ax_code 185 44 = some (.iconst 11, 46) := by decide +kernel
theorem c_185_46 : ax_code 185 46 = some (.goto 51, 49) := by decide +kernel
theorem c_185_49 : ax_code 185 49 = some (.iconst 20, 51) := by decide +kernel
theorem c_185_51 : ax_code 185 51 = some (.ireturn, 52) := by decide +kernel
theorem c_185_52 : ax_code 185 52 = some (.iload 1, 53) := by decide +kernel
theorem c_185_53 : ax_code 185 53 = some (.ifCond .ne 61, 56) := by decide +kernel
theorem c_185_56 : ax_code 185 56 = some (.iconst 11, 58) := by decide +kernel
theorem c_185_58 : ax_code 185 58 = some (.goto 63, 61) := by decide +kernel
theorem c_185_61 : ax_code 185 61 = some (.iconst 21, 63) := by decide +kernel
theorem c_185_63 : ax_code 185 63 = some (.ireturn, 64) := by decide +kernel
theorem c_185_64 : ax_code 185 64 = some (.iload 1, 65) := by decide +kernel
theorem c_185_65 : ax_code 185 65 = some (.ifCond .ne 73, 68) := by decide +kernel
theorem c_185_68 : ax_code 185 68 = some (.iconst 12, 70) := by decide +kernel
theorem c_185_70 : ax_code 185 70 = some (.goto 75, 73) := by decide +kernel
theorem c_185_73 : ax_code 185 73 = some (.iconst 24, 75) := by decide +kernel
theorem c_185_75 : ax_code 185 75 = some (.ireturn, 76) := by decide +kernel
theorem c_185_76 : ax_code 185 76 = some (.iload 1, 77) := by decide +kernel
theorem c_185_77 : ax_code 185 77 = some (.ifCond .ne 85, 80) := by decide +kernel
theorem c_185_80 : ax_code 185 80 = some (.iconst 13, 82) := by decide +kernel
theorem c_185_82 : ax_code 185 82 = some (.goto 87, 85) := by decide +kernel
theorem c_185_85 : ax_code 185 85 = some (.iconst 22, 87) := by decide +kernel
theorem c_185_87 : ax_code 185 87 = some (.ireturn, 88) := by decide +kernel
theorem c_185_88 : ax_code 185 88 = some (.iload 1, 89) := by decide +kernel
theorem c_185_89 : ax_code 185 89 = some (.ifCond .ne 97, 92) := by decide +kernel
theorem c_185_92 : ax_code 185 92 = some (.iconst 14, 94) := by decide +kernel
theorem c_185_94 : ax_code 185 94 = some (.goto 99, 97) := by decide +kernel
theorem c_185_97 : ax_code 185 97 = some (.iconst 23, 99) := by decide +kernel
theorem c_185_99 : ax_code 185 99 = some (.ireturn, 100) := by decide +kernel
theorem c_185_100 : ax_code 185 100 = some (.iload 1, 101) := by decide +kernel
theorem c_185_101 : ax_code 185 101 = some (.ifCond .ne 109, 104) := by decide +kernel
theorem c_185_104 : ax_code 185 104 = some (.iconst 10, 106) := by decide +kernel
theorem c_185_106 : ax_code 185 106 = some (.goto 111, 109) := by decide +kernel
theorem c_185_109 : ax_code 185 109 = some (.iconst 20, 111) := by decide +kernel
theorem c_185_111 : ax_code 185 111 = some (.ireturn, 112) := by decide +kernel
theorem c_186_0 : ax_code 186 0 = some (.iload 2, 1) := by decide +kernel
theorem c_186_1 : ax_code 186 1 = some (.iconst 12, 3) := by decide +kernel
theorem c_186_3 : ax_code 186 3 = some (.if_icmp .le 8, 6) := by decide +kernel
theorem c_186_6 : ax_code 186 6 = some (.iconst 0, 7) := by decide +kernel
theorem c_186_7 : ax_code 186 7 = some (.ireturn, 8) := by decide +kernel
theorem c_186_8 : ax_code 186 8 = some (.aload 0, 9) := by decide +kernel
theorem c_186_9 : ax_code 186 9 = some (.iload 1, 10) := by decide +kernel
theorem c_186_10 : ax_code 186 10 = some (.invokevirtual 187, 13) := by decide +kernel
theorem c_186_13 : ax_code 186 13 = some (.iload 2, 14) := by decide +kernel
theorem c_186_14 : ax_code 186 14 = some (.iconst 1, 15) := by decide +kernel
theorem c_186_15 : ax_code 186 15 = some (.iadd, 16) := by decide +kernel
theorem c_186_16 : ax_code 186 16 = some (.istore 3, 17) := by decide +kernel
theorem c_186_17 : ax_code 186 17 = some (.iload 1, 18) := by decide +kernel
theorem c_186_18 : ax_code 186 18 = some (.tableswitch 192 (10) (23) #[88, 93, 112, 122, 135, 192, 192, 192, 192, 192, 146, 151, 164, 183], 88) := by decide +kernel
theorem c_186_88 : ax_code 186 88 = some (.aload 0, 89) := by decide +kernel
theorem c_186_89 : ax_code 186 89 = some (.getfield 5, 92) := by decide +kernel
theorem c_186_92 : ax_code 186 92 = some (.ireturn, 93) := by decide +kernel
theorem c_186_93 : ax_code 186 93 = some (.aload 0, 94) := by decide +kernel
theorem c_186_94 : ax_code 186 94 = some (.iconst 10, 96) := by decide +kernel
theorem c_186_96 : ax_code 186 96 = some (.iload 3, 97) := by decide +kernel
theorem c_186_97 : ax_code 186 97 = some (.invokevirtual 186, 100) := by decide +kernel
theorem c_186_100 : ax_code 186 100 = some (.aload 0, 101) := by decide +kernel
theorem c_186_101 : ax_code 186 101 = some (.aload 0, 102) := by decide +kernel
theorem c_186_102 : ax_code 186 102 = some (.iconst 1, 103) := by decide +kernel
theorem c_186_103 : ax_code 186 103 = some (.invokevirtual 185, 106) := by decide +kernel
theorem c_186_106 : ax_code 186 106 = some (.iload 3, 107) := by decide +kernel
theorem c_186_107 : ax_code 186 107 = some (.invokevirtual 186, 110) := by decide +kernel
theorem c_186_110 : ax_code 186 110 = some (.iadd, 111) := by decide +kernel
theorem c_186_111 : ax_code 186 111 = some (.ireturn, 112) := by decide +kernel
theorem c_186_112 : ax_code 186 112 = some (.iconst 2, 113) := by decide +kernel
theorem c_186_113 : ax_code 186 113 = some (.aload 0, 114) := by decide +kernel
theorem c_186_114 : ax_code 186 114 = some (.iconst 11, 116) := by decide +kernel
theorem c_186_116 : ax_code 186 116 = some (.iload 3, 117) := by decide +kernel
theorem c_186_117 : ax_code 186 117 = some (.invokevirtual 186, 120) := by decide +kernel
theorem c_186_120 : ax_code 186 120 = some (.imul, 121) := by decide +kernel
theorem c_186_121 : ax_code 186 121 = some (.ireturn, 122) := by decide +kernel
theorem c_186_122 : ax_code 186 122 = some (.aload 0, 123) := by decide +kernel
theorem c_186_123 : ax_code 186 123 = some (.iconst 10, 125) := by decide +kernel
theorem c_186_125 : ax_code 186 125 = some (.iload 3, 126) := by decide +kernel
theorem c_186_126 : ax_code 186 126 = some (.invokevirtual 186, 129) := by decide +kernel
theorem c_186_129 : ax_code 186 129 = some (.aload 0, 130) := by decide +kernel
theorem c_186_130 : ax_code 186 130 = some (.getfield 6, 133) := by decide +kernel
theorem c_186_133 : ax_code 186 133 = some (.isub, 134) := by decide +kernel
theorem c_186_134 : ax_code 186 134 = some (.ireturn, 135) := by decide +kernel
theorem c_186_135 : ax_code 186 135 = some (.aload 0, 136) := by decide +kernel
theorem c_186_136 : ax_code 186 136 = some (.iconst 13, 138) := by decide +kernel
theorem c_186_138 : ax_code 186 138 = some (.iload 3, 139) := by decide +kernel
theorem c_186_139 : ax_code 186 139 = some (.invokevirtual 186, 142) := by decide +kernel
theorem c_186_142 : ax_code 186 142 = some (.iconst 100, 144) := by decide +kernel
theorem c_186_144 : ax_code 186 144 = some (.iadd, 145) := by decide +kernel
theorem c_186_145 : ax_code 186 145 = some (.ireturn, 146) := by decide +kernel
theorem c_186_146 : ax_code 186 146 = some (.aload 0, 147) := by decide +kernel
theorem c_186_147 : ax_code 186 147 = some (.getfield 2, 150) := by decide +kernel
theorem c_186_150 : ax_code 186 150 = some (.ireturn, 151) := by decide +kernel
theorem c_186_151 : ax_code 186 151 = some (.aload 0, 152) := by decide +kernel
theorem c_186_152 : ax_code 186 152 = some (.iconst 20, 154) := by decide +kernel
theorem c_186_154 : ax_code 186 154 = some (.iload 3, 155) := by decide +kernel
theorem c_186_155 : ax_code 186 155 = some (.invokevirtual 186, 158) := by decide +kernel
theorem c_186_158 : ax_code 186 158 = some (.aload 0, 159) := by decide +kernel
theorem c_186_159 : ax_code 186 159 = some (.getfield 4, 162) := by decide +kernel
theorem c_186_162 : ax_code 186 162 = some (.iadd, 163) := by decide +kernel
theorem c_186_163 : ax_code 186 163 = some (.ireturn, 164) := by decide +kernel
theorem c_186_164 : ax_code 186 164 = some (.aload 0, 165) := by decide +kernel
theorem c_186_165 : ax_code 186 165 = some (.iconst 20, 167) := by decide +kernel
theorem c_186_167 : ax_code 186 167 = some (.iload 3, 168) := by decide +kernel
theorem c_186_168 : ax_code 186 168 = some (.invokevirtual 186, 171) := by decide +kernel
theorem c_186_171 : ax_code 186 171 = some (.aload 0, 172) := by decide +kernel
theorem c_186_172 : ax_code 186 172 = some (.aload 0, 173) := by decide +kernel
theorem c_186_173 : ax_code 186 173 = some (.iconst 0, 174) := by decide +kernel
theorem c_186_174 : ax_code 186 174 = some (.invokevirtual 185, 177) := by decide +kernel
theorem c_186_177 : ax_code 186 177 = some (.iload 3, 178) := by decide +kernel
theorem c_186_178 : ax_code 186 178 = some (.invokevirtual 186, 181) := by decide +kernel
theorem c_186_181 : ax_code 186 181 = some (.iadd, 182) := by decide +kernel
theorem c_186_182 : ax_code 186 182 = some (.ireturn, 183) := by decide +kernel
theorem c_186_183 : ax_code 186 183 = some (.aload 0, 184) := by decide +kernel
theorem c_186_184 : ax_code 186 184 = some (.iconst 22, 186) := by decide +kernel
theorem c_186_186 : ax_code 186 186 = some (.iload 3, 187) := by decide +kernel
theorem c_186_187 : ax_code 186 187 = some (.invokevirtual 186, 190) := by decide +kernel
theorem c_186_190 : ax_code 186 190 = some (.ineg, 191) := by decide +kernel
theorem c_186_191 : ax_code 186 191 = some (.ireturn, 192) := by decide +kernel
theorem c_186_192 : ax_code 186 192 = some (.aload 0, 193) := by decide +kernel
theorem c_186_193 : ax_code 186 193 = some (.iconst 20, 195) := by decide +kernel
theorem c_186_195 : ax_code 186 195 = some (.iload 3, 196) := by decide +kernel
theorem c_186_196 : ax_code 186 196 = some (.invokevirtual 186, 199) := by decide +kernel
theorem c_186_199 : ax_code 186 199 = some (.aload 0, 200) := by decide +kernel
theorem c_186_200 : ax_code 186 200 = some (.getfield 7, 203) := by decide +kernel
theorem c_186_203 : ax_code 186 203 = some (.iadd, 204) := by decide +kernel
theorem c_186_204 : ax_code 186 204 = some (.ireturn, 205) := by decide +kernel
theorem c_187_0 : ax_code 187 0 = some (.aload 0, 1) := by decide +kernel
theorem c_187_1 : ax_code 187 1 = some (.getfield 1, 4) := by decide +kernel
theorem c_187_4 : ax_code 187 4 = some (.iconst 16, 6) := by decide +kernel
theorem c_187_6 : ax_code 187 6 = some (.if_icmp .ge 29, 9) := by decide +kernel
theorem c_187_9 : ax_code 187 9 = some (.aload 0, 10) := by decide +kernel
theorem c_187_10 : ax_code 187 10 = some (.getfield 0, 13) := by decide +kernel
theorem c_187_13 : ax_code 187 13 = some (.aload 0, 14) := by decide +kernel
theorem c_187_14 : ax_code 187 14 = some (.getfield 1, 17) := by decide +kernel
theorem c_187_17 : ax_code 187 17 = some (.iload 1, 18) := by decide +kernel
theorem c_187_18 : ax_code 187 18 = some (.iastore, 19) := by decide +kernel
theorem c_187_19 : ax_code 187 19 = some (.aload 0, 20) := by decide +kernel
theorem c_187_20 : ax_code 187 20 = some (.dup, 21) := by decide +kernel
theorem c_187_21 : ax_code 187 21 = some (.getfield 1, 24) := by decide +kernel
theorem c_187_24 : ax_code 187 24 = some (.iconst 1, 25) := by decide +kernel
theorem c_187_25 : ax_code 187 25 = some (.iadd, 26) := by decide +kernel
theorem c_187_26 : ax_code 187 26 = some (.putfield 1, 29) := by decide +kernel
theorem c_187_29 : ax_code 187 29 = some (.return_, 30) := by decide +kernel
theorem c_188_0 : ax_code 188 0 = some (.aload 0, 1) := by decide +kernel
theorem c_188_1 : ax_code 188 1 = some (.getfield 649, 4) := by decide +kernel
theorem c_188_4 : ax_code 188 4 = some (.iload 1, 5) := by decide +kernel
theorem c_188_5 : ax_code 188 5 = some (.invokevirtual 189, 8) := by decide +kernel
theorem c_188_8 : ax_code 188 8 = some (.ireturn, 9) := by decide +kernel
theorem c_189_0 : ax_code 189 0 = some (.iload 1, 1) := by decide +kernel
theorem c_189_1 : ax_code 189 1 = some (.ifCond .lt 27, 4) := by decide +kernel
theorem c_189_4 : ax_code 189 4 = some (.iload 1, 5) := by decide +kernel
theorem c_189_5 : ax_code 189 5 = some (.aload 0, 6) := by decide +kernel
theorem c_189_6 : ax_code 189 6 = some (.getfield 1, 9) := by decide +kernel
theorem c_189_9 : ax_code 189 9 = some (.if_icmp .ge 27, 12) := by decide +kernel
theorem c_189_12 : ax_code 189 12 = some (.iload 1, 13) := by decide +kernel
theorem c_189_13 : ax_code 189 13 = some (.iconst 16, 15) := by decide +kernel
theorem c_189_15 : ax_code 189 15 = some (.if_icmp .ge 27, 18) := by decide +kernel
theorem c_189_18 : ax_code 189 18 = some (.aload 0, 19) := by decide +kernel
theorem c_189_19 : ax_code 189 19 = some (.getfield 0, 22) := by decide +kernel
theorem c_189_22 : ax_code 189 22 = some (.iload 1, 23) := by decide +kernel
theorem c_189_23 : ax_code 189 23 = some (.iaload, 24) := by decide +kernel
theorem c_189_24 : ax_code 189 24 = some (.goto 29, 27) := by decide +kernel
theorem c_189_27 : ax_code 189 27 = some (.iconst (-1000000), 29) := by decide +kernel
theorem c_189_29 : ax_code 189 29 = some (.ireturn, 30) := by decide +kernel
theorem c_190_0 : ax_code 190 0 = some (.iload 1, 1) := by decide +kernel
theorem c_190_1 : ax_code 190 1 = some (.tableswitch 106 (0) (5) #[40, 49, 61, 73, 85, 97], 40) := by decide +kernel
theorem c_190_40 : ax_code 190 40 = some (.aload 0, 41) := by decide +kernel
theorem c_190_41 : ax_code 190 41 = some (.getfield 640, 44) := by decide +kernel
theorem c_190_44 : ax_code 190 44 = some (.invokevirtual 191, 47) := by decide +kernel
theorem c_190_47 : ax_code 190 47 = some (.i2l, 48) := by decide +kernel
theorem c_190_48 : ax_code 190 48 = some (.lreturn, 49) := by decide +kernel
theorem c_190_49 : ax_code 190 49 = some (.aload 0, 50) := by decide +kernel
theorem c_190_50 : ax_code 190 50 = some (.getfield 642, 53) := by decide +kernel
theorem c_190_53 : ax_code 190 53 = some (.getfield 256, 56) := by decide +kernel
theorem c_190_56 : ax_code 190 56 = some (.invokevirtual 64, 59) := by decide +kernel
theorem c_190_59 : ax_code 190 59 = some (.i2l, 60) := by decide +kernel
theorem c_190_60 : ax_code 190 60 = some (.lreturn, 61) := by decide +kernel
theorem c_190_61 : ax_code 190 61 = some (.aload 0, 62) := by decide +kernel
theorem c_190_62 : ax_code 190 62 = some (.getfield 642, 65) := by decide +kernel
theorem c_190_65 : ax_code 190 65 = some (.getfield 256, 68) := by decide +kernel
theorem c_190_68 : ax_code 190 68 = some (.invokevirtual 65, 71) := by decide +kernel
theorem c_190_71 : ax_code 190 71 = some (.i2l, 72) := by decide +kernel
theorem c_190_72 : ax_code 190 72 = some (.lreturn, 73) := by decide +kernel
theorem c_190_73 : ax_code 190 73 = some (.aload 0, 74) := by decide +kernel
theorem c_190_74 : ax_code 190 74 = some (.getfield 642, 77) := by decide +kernel
theorem c_190_77 : ax_code 190 77 = some (.getfield 257, 80) := by decide +kernel
theorem c_190_80 : ax_code 190 80 = some (.invokevirtual 124, 83) := by decide +kernel
theorem c_190_83 : ax_code 190 83 = some (.i2l, 84) := by decide +kernel
theorem c_190_84 : ax_code 190 84 = some (.lreturn, 85) := by decide +kernel
theorem c_190_85 : ax_code 190 85 = some (.aload 0, 86) := by decide +kernel
theorem c_190_86 : ax_code 190 86 = some (.getfield 642, 89) := by decide +kernel
theorem c_190_89 : ax_code 190 89 = some (.getfield 257, 92) := by decide +kernel
theorem c_190_92 : ax_code 190 92 = some (.invokevirtual 192, 95) := by decide +kernel
theorem c_190_95 : ax_code 190 95 = some (.i2l, 96) := by decide +kernel
theorem c_190_96 : ax_code 190 96 = some (.lreturn, 97) := by decide +kernel
theorem c_190_97 : ax_code 190 97 = some (.aload 0, 98) := by decide +kernel
theorem c_190_98 : ax_code 190 98 = some (.getfield 641, 101) := by decide +kernel
theorem c_190_101 : ax_code 190 101 = some (.invokevirtual 193, 104) := by decide +kernel
theorem c_190_104 : ax_code 190 104 = some (.i2l, 105) := by decide +kernel
theorem c_190_105 : ax_code 190 105 = some (.lreturn, 106) := by decide +kernel
theorem c_190_106 : ax_code 190 106 = some (.ldc2_w 0, 109) := by decide +kernel
theorem c_190_109 : ax_code 190 109 = some (.lreturn, 110) := by decide +kernel
theorem c_191_0 : ax_code 191 0 = some (.iconst 0, 1) := by decide +kernel
theorem c_191_1 : ax_code 191 1 = some (.istore 1, 2) := by decide +kernel
theorem c_191_2 : ax_code 191 2 = some (.aload 0, 3) := by decide +kernel
theorem c_191_3 : ax_code 191 3 = some (.getfield 449, 6) := by decide +kernel
theorem c_191_6 : ax_code 191 6 = some (.astore 2, 7) := by decide +kernel
theorem c_191_7 : ax_code 191 7 = some (.aload 2, 8) := by decide +kernel
theorem c_191_8 : ax_code 191 8 = some (.arraylength, 9) := by decide +kernel
theorem c_191_9 : ax_code 191 9 = some (.istore 3, 10) := by decide +kernel
theorem c_191_10 : ax_code 191 10 = some (.iconst 0, 11) := by decide +kernel
theorem c_191_11 : ax_code 191 11 = some (.istore 4, 13) := by decide +kernel
theorem c_191_13 : ax_code 191 13 = some (.iload 4, 15) := by decide +kernel
theorem c_191_15 : ax_code 191 15 = some (.iload 3, 16) := by decide +kernel
theorem c_191_16 : ax_code 191 16 = some (.if_icmp .ge 40, 19) := by decide +kernel
theorem c_191_19 : ax_code 191 19 = some (.aload 2, 20) := by decide +kernel
theorem c_191_20 : ax_code 191 20 = some (.iload 4, 22) := by decide +kernel
theorem c_191_22 : ax_code 191 22 = some (.iaload, 23) := by decide +kernel
theorem c_191_23 : ax_code 191 23 = some (.istore 5, 25) := by decide +kernel
theorem c_191_25 : ax_code 191 25 = some (.iload 5, 27) := by decide +kernel
theorem c_191_27 : ax_code 191 27 = some (.iconst (-1), 28) := by decide +kernel
theorem c_191_28 : ax_code 191 28 = some (.if_icmp .eq 34, 31) := by decide +kernel
theorem c_191_31 : ax_code 191 31 = some (.iinc 1 (1), 34) := by decide +kernel
theorem c_191_34 : ax_code 191 34 = some (.iinc 4 (1), 37) := by decide +kernel
theorem c_191_37 : ax_code 191 37 = some (.goto 13, 40) := by decide +kernel
theorem c_191_40 : ax_code 191 40 = some (.iload 1, 41) := by decide +kernel
theorem c_191_41 : ax_code 191 41 = some (.ireturn, 42) := by decide +kernel
theorem c_192_0 : ax_code 192 0 = some (.iconst 0, 1) := by decide +kernel
theorem c_192_1 : ax_code 192 1 = some (.istore 1, 2) := by decide +kernel
theorem c_192_2 : ax_code 192 2 = some (.iconst 0, 3) := by decide +kernel
theorem c_192_3 : ax_code 192 3 = some (.istore 2, 4) := by decide +kernel
theorem c_192_4 : ax_code 192 4 = some (.iload 2, 5) := by decide +kernel
theorem c_192_5 : ax_code 192 5 = some (.aload 0, 6) := by decide +kernel
theorem c_192_6 : ax_code 192 6 = some (.getfield 64, 9) := by decide +kernel
theorem c_192_9 : ax_code 192 9 = some (.if_icmp .ge 26, 12) := by decide +kernel
theorem c_192_12 : ax_code 192 12 = some (.iload 1, 13) := by decide +kernel
theorem c_192_13 : ax_code 192 13 = some (.aload 0, 14) := by decide +kernel
theorem c_192_14 : ax_code 192 14 = some (.iload 2, 15) := by decide +kernel
theorem c_192_15 : ax_code 192 15 = some (.invokevirtual 103, 18) := by decide +kernel
theorem c_192_18 : ax_code 192 18 = some (.iadd, 19) := by decide +kernel
theorem c_192_19 : ax_code 192 19 = some (.istore 1, 20) := by decide +kernel
theorem c_192_20 : ax_code 192 20 = some (.iinc 2 (1), 23) := by decide +kernel
theorem c_192_23 : ax_code 192 23 = some (.goto 4, 26) := by decide +kernel
theorem c_192_26 : ax_code 192 26 = some (.iload 1, 27) := by decide +kernel
theorem c_192_27 : ax_code 192 27 = some (.ireturn, 28) := by decide +kernel
theorem c_193_0 : ax_code 193 0 = some (.aload 0, 1) := by decide +kernel
theorem c_193_1 : ax_code 193 1 = some (.getfield 577, 4) := by decide +kernel
theorem c_193_4 : ax_code 193 4 = some (.ireturn, 5) := by decide +kernel
theorem c_194_0 : ax_code 194 0 = some (.aload 0, 1) := by decide +kernel
theorem c_194_1 : ax_code 194 1 = some (.getfield 650, 4) := by decide +kernel
theorem c_194_4 : ax_code 194 4 = some (.ireturn, 5) := by decide +kernel
theorem c_195_0 : ax_code 195 0 = some (.aload 0, 1) := by decide +kernel
theorem c_195_1 : ax_code 195 1 = some (.invokedynamic 6, 4) := by decide +kernel
theorem c_195_4 : ax_code 195 4 = some (.aload 0, 5) := by decide +kernel
theorem c_195_5 : ax_code 195 5 = some (.iconst 8, 7) := by decide +kernel
theorem c_195_7 : ax_code 195 7 = some (.newarray .int, 9) := by decide +kernel
theorem c_195_9 : ax_code 195 9 = some (.dup, 10) := by decide +kernel
theorem c_195_10 : ax_code 195 10 = some (.iconst 0, 11) := by decide +kernel
theorem c_195_11 : ax_code 195 11 = some (.iconst (-1), 12) := by decide +kernel
theorem c_195_12 : ax_code 195 12 = some (.iastore, 13) := by decide +kernel
theorem c_195_13 : ax_code 195 13 = some (.dup, 14) := by decide +kernel
theorem c_195_14 : ax_code 195 14 = some (.iconst 1, 15) := by decide +kernel
theorem c_195_15 : ax_code 195 15 = some (.iconst (-1), 16) := by decide +kernel
theorem c_195_16 : ax_code 195 16 = some (.iastore, 17) := by decide +kernel
theorem c_195_17 : ax_code 195 17 = some (.dup, 18) := by decide +kernel
theorem c_195_18 : ax_code 195 18 = some (.iconst 2, 19) := by decide +kernel
theorem c_195_19 : ax_code 195 19 = some (.iconst (-1), 20) := by decide +kernel
theorem c_195_20 : ax_code 195 20 = some (.iastore, 21) := by decide +kernel
theorem c_195_21 : ax_code 195 21 = some (.dup, 22) := by decide +kernel
theorem c_195_22 : ax_code 195 22 = some (.iconst 3, 23) := by decide +kernel
theorem c_195_23 : ax_code 195 23 = some (.iconst (-1), 24) := by decide +kernel
theorem c_195_24 : ax_code 195 24 = some (.iastore, 25) := by decide +kernel
theorem c_195_25 : ax_code 195 25 = some (.dup, 26) := by decide +kernel
theorem c_195_26 : ax_code 195 26 = some (.iconst 4, 27) := by decide +kernel
theorem c_195_27 : ax_code 195 27 = some (.iconst (-1), 28) := by decide +kernel
theorem c_195_28 : ax_code 195 28 = some (.iastore, 29) := by decide +kernel
theorem c_195_29 : ax_code 195 29 = some (.dup, 30) := by decide +kernel
theorem c_195_30 : ax_code 195 30 = some (.iconst 5, 31) := by decide +kernel
theorem c_195_31 : ax_code 195 31 = some (.iconst (-1), 32) := by decide +kernel
theorem c_195_32 : ax_code 195 32 = some (.iastore, 33) := by decide +kernel
theorem c_195_33 : ax_code 195 33 = some (.dup, 34) := by decide +kernel
theorem c_195_34 : ax_code 195 34 = some (.iconst 6, 36) := by decide +kernel
theorem c_195_36 : ax_code 195 36 = some (.iconst (-1), 37) := by decide +kernel
theorem c_195_37 : ax_code 195 37 = some (.iastore, 38) := by decide +kernel
theorem c_195_38 : ax_code 195 38 = some (.dup, 39) := by decide +kernel
theorem c_195_39 : ax_code 195 39 = some (.iconst 7, 41) := by decide +kernel
theorem c_195_41 : ax_code 195 41 = some (.iconst (-1), 42) := by decide +kernel
theorem c_195_42 : ax_code 195 42 = some (.iastore, 43) := by decide +kernel
theorem c_195_43 : ax_code 195 43 = some (.putfield 706, 46) := by decide +kernel
theorem c_195_46 : ax_code 195 46 = some (.aload 0, 47) := by decide +kernel
theorem c_195_47 : ax_code 195 47 = some (.iconst 8, 49) := by decide +kernel
theorem c_195_49 : ax_code 195 49 = some (.newarray .int, 51) := by decide +kernel
theorem c_195_51 : ax_code 195 51 = some (.putfield 707, 54) := by decide +kernel
theorem c_195_54 : ax_code 195 54 = some (.aload 0, 55) := by decide +kernel
theorem c_195_55 : ax_code 195 55 = some (.iconst 320, 58) := by decide +kernel
theorem c_195_58 : ax_code 195 58 = some (.newarray .int, 60) := by decide +kernel
theorem c_195_60 : ax_code 195 60 = some (.putfield 708, 63) := by decide +kernel
theorem c_195_63 : ax_code 195 63 = some (.aload 0, 64) := by decide +kernel
theorem c_195_64 : ax_code 195 64 = some (.iconst 102, 66) := by decide +kernel
theorem c_195_66 : ax_code 195 66 = some (.newarray .int, 68) := by decide +kernel
theorem c_195_68 : ax_code 195 68 = some (.putfield 709, 71) := by decide +kernel
theorem c_195_71 : ax_code 195 71 = some (.aload 0, 72) := by decide +kernel
theorem c_195_72 : ax_code 195 72 = some (.iconst 102, 74) := by decide +kernel
theorem c_195_74 : ax_code 195 74 = some (.newarray .int, 76) := by decide +kernel
theorem c_195_76 : ax_code 195 76 = some (.putfield 710, 79) := by decide +kernel
theorem c_195_79 : ax_code 195 79 = some (.aload 0, 80) := by decide +kernel
theorem c_195_80 : ax_code 195 80 = some (.iconst 181, 83) := by decide +kernel
theorem c_195_83 : ax_code 195 83 = some (.newarray .int, 85) := by decide +kernel
theorem c_195_85 : ax_code 195 85 = some (.putfield 712, 88) := by decide +kernel
theorem c_195_88 : ax_code 195 88 = some (.aload 0, 89) := by decide +kernel
theorem c_195_89 : ax_code 195 89 = some (.iconst 500, 92) := by decide +kernel
theorem c_195_92 : ax_code 195 92 = some (.newarray .int, 94) := by decide +kernel
theorem c_195_94 : ax_code 195 94 = some (.putfield 713, 97) := by decide +kernel
theorem c_195_97 : ax_code 195 97 = some (.aload 0, 98) := by decide +kernel
theorem c_195_98 : ax_code 195 98 = some (.iconst 15, 100) := by decide +kernel
theorem c_195_100 : ax_code 195 100 = some (.newarray .int, 102) := by decide +kernel
theorem c_195_102 : ax_code 195 102 = some (.putfield 723, 105) := by decide +kernel
theorem c_195_105 : ax_code 195 105 = some (.aload 0, 106) := by decide +kernel
theorem c_195_106 : ax_code 195 106 = some (.iconst 6, 108) := by decide +kernel
theorem c_195_108 : ax_code 195 108 = some (.newarray .int, 110) := by decide +kernel
theorem c_195_110 : ax_code 195 110 = some (.putfield 728, 113) := by decide +kernel
theorem c_195_113 : ax_code 195 113 = some (.aload 0, 114) := by decide +kernel
theorem c_195_114 : ax_code 195 114 = some (.iconst 11, 116) := by decide +kernel
theorem c_195_116 : ax_code 195 116 = some (.newarray .int, 118) := by decide +kernel
theorem c_195_118 : ax_code 195 118 = some (.putfield 730, 121) := by decide +kernel
theorem c_195_121 : ax_code 195 121 = some (.aload 0, 122) := by decide +kernel
theorem c_195_122 : ax_code 195 122 = some (.iconst 11, 124) := by decide +kernel
theorem c_195_124 : ax_code 195 124 = some (.newarray .int, 126) := by decide +kernel
theorem c_195_126 : ax_code 195 126 = some (.putfield 731, 129) := by decide +kernel
theorem c_195_129 : ax_code 195 129 = some (.aload 0, 130) := by decide +kernel
theorem c_195_130 : ax_code 195 130 = some (.iconst 11, 132) := by decide +kernel
theorem c_195_132 : ax_code 195 132 = some (.newarray .int, 134) := by decide +kernel
theorem c_195_134 : ax_code 195 134 = some (.putfield 732, 137) := by decide +kernel
theorem c_195_137 : ax_code 195 137 = some (.aload 0, 138) := by decide +kernel
theorem c_195_138 : ax_code 195 138 = some (.iconst 11, 140) := by decide +kernel
theorem c_195_140 : ax_code 195 140 = some (.newarray .int, 142) := by decide +kernel
theorem c_195_142 : ax_code 195 142 = some (.putfield 734, 145) := by decide +kernel
theorem c_195_145 : ax_code 195 145 = some (.aload 0, 146) := by decide +kernel
theorem c_195_146 : ax_code 195 146 = some (.iconst 11, 148) := by decide +kernel
theorem c_195_148 : ax_code 195 148 = some (.newarray .int, 150) := by decide +kernel
theorem c_195_150 : ax_code 195 150 = some (.putfield 735, 153) := by decide +kernel
theorem c_195_153 : ax_code 195 153 = some (.aload 0, 154) := by decide +kernel
theorem c_195_154 : ax_code 195 154 = some (.iconst 6, 156) := by decide +kernel
theorem c_195_156 : ax_code 195 156 = some (.newarray .int, 158) := by decide +kernel
theorem c_195_158 : ax_code 195 158 = some (.putfield 736, 161) := by decide +kernel
theorem c_195_161 : ax_code 195 161 = some (.aload 0, 162) := by decide +kernel
theorem c_195_162 : ax_code 195 162 = some (.iconst 945, 165) := by decide +kernel
theorem c_195_165 : ax_code 195 165 = some (.newarray .boolean, 167) := by decide +kernel
theorem c_195_167 : ax_code 195 167 = some (.putfield 740, 170) := by decide +kernel
theorem c_195_170 : ax_code 195 170 = some (.aload 0, 171) := by decide +kernel
theorem c_195_171 : ax_code 195 171 = some (.iconst 4096, 174) := by decide +kernel
theorem c_195_174 : ax_code 195 174 = some (.newarray .boolean, 176) := by decide +kernel
theorem c_195_176 : ax_code 195 176 = some (.putfield 741, 179) := by decide +kernel
theorem c_195_179 : ax_code 195 179 = some (.aload 0, 180) := by decide +kernel
theorem c_195_180 : ax_code 195 180 = some (.iconst 12, 182) := by decide +kernel
theorem c_195_182 : ax_code 195 182 = some (.newarray .int, 184) := by decide +kernel
theorem c_195_184 : ax_code 195 184 = some (.putfield 742, 187) := by decide +kernel
theorem c_195_187 : ax_code 195 187 = some (.aload 0, 188) := by decide +kernel
theorem c_195_188 : ax_code 195 188 = some (.iconst 2, 189) := by decide +kernel
theorem c_195_189 : ax_code 195 189 = some (.newarray .boolean, 191) := by decide +kernel
theorem c_195_191 : ax_code 195 191 = some (.putfield 743, 194) := by decide +kernel
theorem c_195_194 : ax_code 195 194 = some (.aload 0, 195) := by decide +kernel
theorem c_195_195 : ax_code 195 195 = some (.iconst 204, 198) := by decide +kernel
theorem c_195_198 : ax_code 195 198 = some (.newarray .int, 200) := by decide +kernel
theorem c_195_200 : ax_code 195 200 = some (.putfield 744, 203) := by decide +kernel
theorem c_195_203 : ax_code 195 203 = some (.aload 0, 204) := by decide +kernel
theorem c_195_204 : ax_code 195 204 = some (.iconst 362, 207) := by decide +kernel
theorem c_195_207 : ax_code 195 207 = some (.newarray .int, 209) := by decide +kernel
theorem c_195_209 : ax_code 195 209 = some (.putfield 745, 212) := by decide +kernel
theorem c_195_212 : ax_code 195 212 = some (.aload 0, 213) := by decide +kernel
theorem c_195_213 : ax_code 195 213 = some (.iconst 16, 215) := by decide +kernel
theorem c_195_215 : ax_code 195 215 = some (.newarray .int, 217) := by decide +kernel
theorem c_195_217 : ax_code 195 217 = some (.putfield 746, 220) := by decide +kernel
theorem c_195_220 : ax_code 195 220 = some (.return_, 221) := by decide +kernel
