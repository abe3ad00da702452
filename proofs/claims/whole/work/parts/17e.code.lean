/-! instructions, made plain -/
theorem c_237_0 : ax_code 237 0 = some (.iload 0, 1) := by decide +kernel
theorem c_237_1 : ax_code 237 1 = some (.i2l, 2) := by decide +kernel
theorem c_237_2 : ax_code 237 2 = some (.lconst 0, 3) := by decide +kernel
theorem c_237_3 : ax_code 237 3 = some (.ldc2_w 26, 6) := by decide +kernel
theorem c_237_6 : ax_code 237 6 = some (.invokestatic 198, 9) := by decide +kernel
theorem c_237_9 : ax_code 237 9 = some (.ireturn, 10) := by decide +kernel
theorem c_238_0 : ax_code 238 0 = some (.aload 0, 1) := by decide +kernel
theorem c_238_1 : ax_code 238 1 = some (.iconst 0, 2) := by decide +kernel
theorem c_238_2 : ax_code 238 2 = some (.putfield 704, 5) := by decide +kernel
theorem c_238_5 : ax_code 238 5 = some (.aload 0, 6) := by decide +kernel
theorem c_238_6 : ax_code 238 6 = some (.iload 1, 7) := by decide +kernel
theorem c_238_7 : ax_code 238 7 = some (.invokevirtual 231, 10) := by decide +kernel
theorem c_238_10 : ax_code 238 10 = some (.ifCond .eq 25, 13) := by decide +kernel
theorem c_238_13 : ax_code 238 13 = some (.iload 2, 14) := by decide +kernel
theorem c_238_14 : ax_code 238 14 = some (.i2l, 15) := by decide +kernel
theorem c_238_15 : ax_code 238 15 = some (.lconst 0, 16) := by decide +kernel
theorem c_238_16 : ax_code 238 16 = some (.ldc2_w 27, 19) := by decide +kernel
theorem c_238_19 : ax_code 238 19 = some (.invokestatic 198, 22) := by decide +kernel
theorem c_238_22 : ax_code 238 22 = some (.ifCond .ne 29, 25) := by decide +kernel
theorem c_238_25 : ax_code 238 25 = some (.ldc2_w 0, 28) := by decide +kernel
theorem c_238_28 : ax_code 238 28 = some (.lreturn, 29) := by decide +kernel
theorem c_238_29 : ax_code 238 29 = some (.iconst 0, 30) := by decide +kernel
theorem c_238_30 : ax_code 238 30 = some (.istore 3, 31) := by decide +kernel
theorem c_238_31 : ax_code 238 31 = some (.iconst 0, 32) := by decide +kernel
theorem c_238_32 : ax_code 238 32 = some (.istore 4, 34) := by decide +kernel
theorem c_238_34 : ax_code 238 34 = some (.iload 4, 36) := by decide +kernel
theorem c_238_36 : ax_code 238 36 = some (.aload 0, 37) := by decide +kernel
theorem c_238_37 : ax_code 238 37 = some (.getfield 712, 40) := by decide +kernel
theorem c_238_40 : ax_code 238 40 = some (.iconst 0, 41) := by decide +kernel
theorem c_238_41 : ax_code 238 41 = some (.iaload, 42) := by decide +kernel
theorem c_238_42 : ax_code 238 42 = some (.if_icmp .ge 70, 45) := by decide +kernel
theorem c_238_45 : ax_code 238 45 = some (.iload 3, 46) := by decide +kernel
theorem c_238_46 : ax_code 238 46 = some (.aload 0, 47) := by decide +kernel
theorem c_238_47 : ax_code 238 47 = some (.iload 4, 49) := by decide +kernel
theorem c_238_49 : ax_code 238 49 = some (.iconst 3, 50) := by decide +kernel
theorem c_238_50 : ax_code 238 50 = some (.invokevirtual 232, 53) := by decide +kernel
theorem c_238_53 : ax_code 238 53 = some (.iload 1, 54) := by decide +kernel
theorem c_238_54 : ax_code 238 54 = some (.if_icmp .ne 61, 57) := by decide +kernel
theorem c_238_57 : ax_code 238 57 = some (.iconst 1, 58) := by decide +kernel
theorem c_238_58 : ax_code 238 58 = some (.goto 62, 61) := by decide +kernel
theorem c_238_61 : ax_code 238 61 = some (.iconst 0, 62) := by decide +kernel
theorem c_238_62 : ax_code 238 62 = some (.iadd, 63) := by decide +kernel
theorem c_238_63 : ax_code 238 63 = some (.istore 3, 64) := by decide +kernel
theorem c_238_64 : ax_code 238 64 = some (.iinc 4 (1), 67) := by decide +kernel
theorem c_238_67 : ax_code 238 67 = some (.goto 34, 70) := by decide +kernel
theorem c_238_70 : ax_code 238 70 = some (.iload 2, 71) := by decide +kernel
theorem c_238_71 : ax_code 238 71 = some (.tableswitch 130 (0) (3) #[100, 100, 110, 119], 100) := by decide +kernel
theorem c_238_100 : ax_code 238 100 = some (.aload 0, 101) := by decide +kernel
theorem c_238_101 : ax_code 238 101 = some (.iload 1, 102) := by decide +kernel
theorem c_238_102 : ax_code 238 102 = some (.iconst 1, 103) := by decide +kernel
theorem c_238_103 : ax_code 238 103 = some (.iload 2, 104) := by decide +kernel
theorem c_238_104 : ax_code 238 104 = some (.iadd, 105) := by decide +kernel
theorem c_238_105 : ax_code 238 105 = some (.invokevirtual 232, 108) := by decide +kernel
theorem c_238_108 : ax_code 238 108 = some (.i2l, 109) := by decide +kernel
theorem c_238_109 : ax_code 238 109 = some (.lreturn, 110) := by decide +kernel
theorem c_238_110 : ax_code 238 110 = some (.aload 0, 111) := by decide +kernel
theorem c_238_111 : ax_code 238 111 = some (.iload 1, 112) := by decide +kernel
theorem c_238_112 : ax_code 238 112 = some (.iconst (-1000000), 114) := by decide +kernel
theorem c_238_114 : ax_code 238 114 = some (.invokevirtual 239, 117) := by decide +kernel
theorem c_238_117 : ax_code 238 117 = some (.i2l, 118) := by decide +kernel
theorem c_238_118 : ax_code 238 118 = some (.lreturn, 119) := by decide +kernel
theorem c_238_119 : ax_code 238 119 = some (.aload 0, 120) := by decide +kernel
theorem c_238_120 : ax_code 238 120 = some (.iload 1, 121) := by decide +kernel
theorem c_238_121 : ax_code 238 121 = some (.iconst 4, 122) := by decide +kernel
theorem c_238_122 : ax_code 238 122 = some (.invokevirtual 232, 125) := by decide +kernel
theorem c_238_125 : ax_code 238 125 = some (.invokestatic 240, 128) := by decide +kernel
theorem c_238_128 : ax_code 238 128 = some (.i2l, 129) := by decide +kernel
theorem c_238_129 : ax_code 238 129 = some (.lreturn, 130) := by decide +kernel
theorem c_238_130 : ax_code 238 130 = some (.iload 3, 131) := by decide +kernel
theorem c_238_131 : ax_code 238 131 = some (.i2l, 132) := by decide +kernel
theorem c_238_132 : ax_code 238 132 = some (.lreturn, 133) := by decide +kernel
theorem c_239_0 : ax_code 239 0 = some (.aload 0, 1) := by decide +kernel
theorem c_239_1 : ax_code 239 1 = some (.iload 1, 2) := by decide +kernel
theorem c_239_2 : ax_code 239 2 = some (.iconst 3, 3) := by decide +kernel
theorem c_239_3 : ax_code 239 3 = some (.invokevirtual 232, 6) := by decide +kernel
theorem c_239_6 : ax_code 239 6 = some (.istore 3, 7) := by decide +kernel
theorem c_239_7 : ax_code 239 7 = some (.iload 3, 8) := by decide +kernel
theorem c_239_8 : ax_code 239 8 = some (.ifCond .ge 15, 11) := by decide +kernel
theorem c_239_11 : ax_code 239 11 = some (.iload 2, 12) := by decide +kernel
theorem c_239_12 : ax_code 239 12 = some (.goto 16, 15) := by decide +kernel
theorem c_239_15 : ax_code 239 15 = some (.iload 3, 16) := by decide +kernel
theorem c_239_16 : ax_code 239 16 = some (.ireturn, 17) := by decide +kernel
theorem c_240_0 : ax_code 240 0 = some (.iconst 0, 1) := by decide +kernel
theorem c_240_1 : ax_code 240 1 = some (.istore 1, 2) := by decide +kernel
theorem c_240_2 : ax_code 240 2 = some (.iload 0, 3) := by decide +kernel
theorem c_240_3 : ax_code 240 3 = some (.istore 2, 4) := by decide +kernel
theorem c_240_4 : ax_code 240 4 = some (.iload 2, 5) := by decide +kernel
theorem c_240_5 : ax_code 240 5 = some (.ifCond .eq 20, 8) := by decide +kernel
theorem c_240_8 : ax_code 240 8 = some (.iinc 1 (1), 11) := by decide +kernel
theorem c_240_11 : ax_code 240 11 = some (.iload 2, 12) := by decide +kernel
theorem c_240_12 : ax_code 240 12 = some (.iload 2, 13) := by decide +kernel
theorem c_240_13 : ax_code 240 13 = some (.iconst 1, 14) := by decide +kernel
theorem c_240_14 : ax_code 240 14 = some (.isub, 15) := by decide +kernel
theorem c_240_15 : ax_code 240 15 = some (.iand, 16) := by decide +kernel
theorem c_240_16 : ax_code 240 16 = some (.istore 2, 17) := by decide +kernel
theorem c_240_17 : ax_code 240 17 = some (.goto 4, 20) := by decide +kernel
theorem c_240_20 : ax_code 240 20 = some (.iload 1, 21) := by decide +kernel
theorem c_240_21 : ax_code 240 21 = some (.ireturn, 22) := by decide +kernel
theorem c_241_0 : ax_code 241 0 = some (.aload 0, 1) := by decide +kernel
theorem c_241_1 : ax_code 241 1 = some (.iconst 0, 2) := by decide +kernel
theorem c_241_2 : ax_code 241 2 = some (.putfield 704, 5) := by decide +kernel
theorem c_241_5 : ax_code 241 5 = some (.aload 0, 6) := by decide +kernel
theorem c_241_6 : ax_code 241 6 = some (.iload 1, 7) := by decide +kernel
theorem c_241_7 : ax_code 241 7 = some (.invokevirtual 231, 10) := by decide +kernel
theorem c_241_10 : ax_code 241 10 = some (.ifCond .eq 20, 13) := by decide +kernel
theorem c_241_13 : ax_code 241 13 = some (.iload 2, 14) := by decide +kernel
theorem c_241_14 : ax_code 241 14 = some (.invokestatic 237, 17) := by decide +kernel
theorem c_241_17 : ax_code 241 17 = some (.ifCond .ne 24, 20) := by decide +kernel
theorem c_241_20 : ax_code 241 20 = some (.ldc2_w 0, 23) := by decide +kernel
theorem c_241_23 : ax_code 241 23 = some (.lreturn, 24) := by decide +kernel
theorem c_241_24 : ax_code 241 24 = some (.aload 0, 25) := by decide +kernel
theorem c_241_25 : ax_code 241 25 = some (.iload 1, 26) := by decide +kernel
theorem c_241_26 : ax_code 241 26 = some (.iload 2, 27) := by decide +kernel
theorem c_241_27 : ax_code 241 27 = some (.invokevirtual 234, 30) := by decide +kernel
theorem c_241_30 : ax_code 241 30 = some (.ifCond .eq 37, 33) := by decide +kernel
theorem c_241_33 : ax_code 241 33 = some (.iconst 1, 34) := by decide +kernel
theorem c_241_34 : ax_code 241 34 = some (.goto 38, 37) := by decide +kernel
theorem c_241_37 : ax_code 241 37 = some (.iconst 0, 38) := by decide +kernel
theorem c_241_38 : ax_code 241 38 = some (.istore 3, 39) := by decide +kernel
theorem c_241_39 : ax_code 241 39 = some (.aload 0, 40) := by decide +kernel
theorem c_241_40 : ax_code 241 40 = some (.getfield 712, 43) := by decide +kernel
theorem c_241_43 : ax_code 241 43 = some (.iconst 15, 45) := by decide +kernel
theorem c_241_45 : ax_code 241 45 = some (.iload 1, 46) := by decide +kernel
theorem c_241_46 : ax_code 241 46 = some (.imul, 47) := by decide +kernel
theorem c_241_47 : ax_code 241 47 = some (.iconst 4, 48) := by decide +kernel
theorem c_241_48 : ax_code 241 48 = some (.iadd, 49) := by decide +kernel
theorem c_241_49 : ax_code 241 49 = some (.dup2, 50) := by decide +kernel
theorem c_241_50 : ax_code 241 50 = some (.iaload, 51) := by decide +kernel
theorem c_241_51 : ax_code 241 51 = some (.iconst 1, 52) := by decide +kernel
theorem c_241_52 : ax_code 241 52 = some (.iload 2, 53) := by decide +kernel
theorem c_241_53 : ax_code 241 53 = some (.ishl, 54) := by decide +kernel
theorem c_241_54 : ax_code 241 54 = some (.ior, 55) := by decide +kernel
theorem c_241_55 : ax_code 241 55 = some (.iastore, 56) := by decide +kernel
theorem c_241_56 : ax_code 241 56 = some (.aload 0, 57) := by decide +kernel
theorem c_241_57 : ax_code 241 57 = some (.getfield 712, 60) := by decide +kernel
theorem c_241_60 : ax_code 241 60 = some (.iconst 15, 62) := by decide +kernel
theorem c_241_62 : ax_code 241 62 = some (.iload 1, 63) := by decide +kernel
theorem c_241_63 : ax_code 241 63 = some (.imul, 64) := by decide +kernel
theorem c_241_64 : ax_code 241 64 = some (.iconst 5, 65) := by decide +kernel
theorem c_241_65 : ax_code 241 65 = some (.iadd, 66) := by decide +kernel
theorem c_241_66 : ax_code 241 66 = some (.iload 2, 67) := by decide +kernel
theorem c_241_67 : ax_code 241 67 = some (.iadd, 68) := by decide +kernel
theorem c_241_68 : ax_code 241 68 = some (.iconst 0, 69) := by decide +kernel
theorem c_241_69 : ax_code 241 69 = some (.iastore, 70) := by decide +kernel
theorem c_241_70 : ax_code 241 70 = some (.iload 3, 71) := by decide +kernel
theorem c_241_71 : ax_code 241 71 = some (.i2l, 72) := by decide +kernel
theorem c_241_72 : ax_code 241 72 = some (.lreturn, 73) := by decide +kernel
theorem c_242_0 : ax_code 242 0 = some (.aload 0, 1) := by decide +kernel
theorem c_242_1 : ax_code 242 1 = some (.iconst 0, 2) := by decide +kernel
theorem c_242_2 : ax_code 242 2 = some (.putfield 704, 5) := by decide +kernel
theorem c_242_5 : ax_code 242 5 = some (.iload 1, 6) := by decide +kernel
theorem c_242_6 : ax_code 242 6 = some (.i2l, 7) := by decide +kernel
theorem c_242_7 : ax_code 242 7 = some (.lconst 0, 8) := by decide +kernel
theorem c_242_8 : ax_code 242 8 = some (.ldc2_w 18, 11) := by decide +kernel
theorem c_242_11 : ax_code 242 11 = some (.invokestatic 198, 14) := by decide +kernel
theorem c_242_14 : ax_code 242 14 = some (.ifCond .eq 31, 17) := by decide +kernel
theorem c_242_17 : ax_code 242 17 = some (.iload 2, 18) := by decide +kernel
theorem c_242_18 : ax_code 242 18 = some (.invokestatic 229, 21) := by decide +kernel
theorem c_242_21 : ax_code 242 21 = some (.ifCond .eq 31, 24) := by decide +kernel
theorem c_242_24 : ax_code 242 24 = some (.iload 3, 25) := by decide +kernel
theorem c_242_25 : ax_code 242 25 = some (.invokestatic 230, 28) := by decide +kernel
theorem c_242_28 : ax_code 242 28 = some (.ifCond .ne 37, 31) := by decide +kernel
theorem c_242_31 : ax_code 242 31 = some (.ldc2_w 0, 34) := by decide +kernel
theorem c_242_34 : ax_code 242 34 = some (.goto 58, 37) := by decide +kernel
theorem c_242_37 : ax_code 242 37 = some (.aload 0, 38) := by decide +kernel
theorem c_242_38 : ax_code 242 38 = some (.getfield 711, 41) := by decide +kernel
theorem c_242_41 : ax_code 242 41 = some (.ifCond .ne 50, 44) := by decide +kernel
theorem c_242_44 : ax_code 242 44 = some (.ldc2_w 4, 47) := by decide +kernel
theorem c_242_47 : ax_code 242 47 = some (.goto 58, 50) := by decide +kernel
theorem c_242_50 : ax_code 242 50 = some (.aload 0, 51) := by decide +kernel
theorem c_242_51 : ax_code 242 51 = some (.iload 1, 52) := by decide +kernel
theorem c_242_52 : ax_code 242 52 = some (.iload 2, 53) := by decide +kernel
theorem c_242_53 : ax_code 242 53 = some (.iload 3, 54) := by decide +kernel
theorem c_242_54 : ax_code 242 54 = some (.invokevirtual 224, 57) := by decide +kernel
theorem c_242_57 : ax_code 242 57 = some (.i2l, 58) := by decide +kernel
theorem c_242_58 : ax_code 242 58 = some (.lreturn, 59) := by decide +kernel
theorem c_243_0 : ax_code 243 0 = some (.aload 0, 1) := by decide +kernel
theorem c_243_1 : ax_code 243 1 = some (.iconst 0, 2) := by decide +kernel
theorem c_243_2 : ax_code 243 2 = some (.putfield 704, 5) := by decide +kernel
theorem c_243_5 : ax_code 243 5 = some (.aload 0, 6) := by decide +kernel
theorem c_243_6 : ax_code 243 6 = some (.iload 1, 7) := by decide +kernel
theorem c_243_7 : ax_code 243 7 = some (.invokevirtual 231, 10) := by decide +kernel
theorem c_243_10 : ax_code 243 10 = some (.ifCond .eq 31, 13) := by decide +kernel
theorem c_243_13 : ax_code 243 13 = some (.aload 0, 14) := by decide +kernel
theorem c_243_14 : ax_code 243 14 = some (.iload 2, 15) := by decide +kernel
theorem c_243_15 : ax_code 243 15 = some (.invokevirtual 231, 18) := by decide +kernel
theorem c_243_18 : ax_code 243 18 = some (.ifCond .eq 31, 21) := by decide +kernel
theorem c_243_21 : ax_code 243 21 = some (.aload 0, 22) := by decide +kernel
theorem c_243_22 : ax_code 243 22 = some (.iload 1, 23) := by decide +kernel
theorem c_243_23 : ax_code 243 23 = some (.iload 2, 24) := by decide +kernel
theorem c_243_24 : ax_code 243 24 = some (.invokevirtual 244, 27) := by decide +kernel
theorem c_243_27 : ax_code 243 27 = some (.i2l, 28) := by decide +kernel
theorem c_243_28 : ax_code 243 28 = some (.goto 34, 31) := by decide +kernel
theorem c_243_31 : ax_code 243 31 = some (.ldc2_w 0, 34) := by decide +kernel
theorem c_243_34 : ax_code 243 34 = some (.lreturn, 35) := by decide +kernel
theorem c_244_0 : ax_code 244 0 = some (.iconst 0, 1) := by decide +kernel
theorem c_244_1 : ax_code 244 1 = some (.istore 3, 2) := by decide +kernel
theorem c_244_2 : ax_code 244 2 = some (.iconst 0, 3) := by decide +kernel
theorem c_244_3 : ax_code 244 3 = some (.istore 4, 5) := by decide +kernel
theorem c_244_5 : ax_code 244 5 = some (.iload 4, 7) := by decide +kernel
theorem c_244_7 : ax_code 244 7 = some (.iconst 11, 9) := by decide +kernel
theorem c_244_9 : ax_code 244 9 = some (.if_icmp .ge 37, 12) := by decide +kernel
theorem c_244_12 : ax_code 244 12 = some (.iload 3, 13) := by decide +kernel
theorem c_244_13 : ax_code 244 13 = some (.aload 0, 14) := by decide +kernel
theorem c_244_14 : ax_code 244 14 = some (.iload 1, 15) := by decide +kernel
theorem c_244_15 : ax_code 244 15 = some (.iload 2, 16) := by decide +kernel
theorem c_244_16 : ax_code 244 16 = some (.iload 4, 18) := by decide +kernel
theorem c_244_18 : ax_code 244 18 = some (.invokevirtual 245, 21) := by decide +kernel
theorem c_244_21 : ax_code 244 21 = some (.ifCond .eq 28, 24) := by decide +kernel
theorem c_244_24 : ax_code 244 24 = some (.iconst 1, 25) := by decide +kernel
theorem c_244_25 : ax_code 244 25 = some (.goto 29, 28) := by decide +kernel
theorem c_244_28 : ax_code 244 28 = some (.iconst 0, 29) := by decide +kernel
theorem c_244_29 : ax_code 244 29 = some (.iadd, 30) := by decide +kernel
theorem c_244_30 : ax_code 244 30 = some (.istore 3, 31) := by decide +kernel
theorem c_244_31 : ax_code 244 31 = some (.iinc 4 (1), 34) := by decide +kernel
theorem c_244_34 : ax_code 244 34 = some (.goto 5, 37) := by decide +kernel
theorem c_244_37 : ax_code 244 37 = some (.iload 3, 38) := by decide +kernel
theorem c_244_38 : ax_code 244 38 = some (.ireturn, 39) := by decide +kernel
theorem c_245_0 : ax_code 245 0 = some (.aload 0, 1) := by decide +kernel
theorem c_245_1 : ax_code 245 1 = some (.iload 1, 2) := by decide +kernel
theorem c_245_2 : ax_code 245 2 = some (.iload 3, 3) := by decide +kernel
theorem c_245_3 : ax_code 245 3 = some (.invokevirtual 234, 6) := by decide +kernel
theorem c_245_6 : ax_code 245 6 = some (.ifCond .eq 37, 9) := by decide +kernel
theorem c_245_9 : ax_code 245 9 = some (.aload 0, 10) := by decide +kernel
theorem c_245_10 : ax_code 245 10 = some (.iload 2, 11) := by decide +kernel
theorem c_245_11 : ax_code 245 11 = some (.iload 3, 12) := by decide +kernel
theorem c_245_12 : ax_code 245 12 = some (.invokevirtual 234, 15) := by decide +kernel
theorem c_245_15 : ax_code 245 15 = some (.ifCond .eq 37, 18) := by decide +kernel
theorem c_245_18 : ax_code 245 18 = some (.aload 0, 19) := by decide +kernel
theorem c_245_19 : ax_code 245 19 = some (.iload 1, 20) := by decide +kernel
theorem c_245_20 : ax_code 245 20 = some (.iload 3, 21) := by decide +kernel
theorem c_245_21 : ax_code 245 21 = some (.invokevirtual 235, 24) := by decide +kernel
theorem c_245_24 : ax_code 245 24 = some (.aload 0, 25) := by decide +kernel
theorem c_245_25 : ax_code 245 25 = some (.iload 2, 26) := by decide +kernel
theorem c_245_26 : ax_code 245 26 = some (.iload 3, 27) := by decide +kernel
theorem c_245_27 : ax_code 245 27 = some (.invokevirtual 235, 30) := by decide +kernel
theorem c_245_30 : ax_code 245 30 = some (.if_icmp .eq 37, 33) := by decide +kernel
theorem c_245_33 : ax_code 245 33 = some (.iconst 1, 34) := by decide +kernel
theorem c_245_34 : ax_code 245 34 = some (.goto 38, 37) := by decide +kernel
theorem c_245_37 : ax_code 245 37 = some (.iconst 0, 38) := by decide +kernel
theorem c_245_38 : ax_code 245 38 = some (.ireturn, 39) := by decide +kernel
theorem c_246_0 : ax_code 246 0 = some (.aload 0, 1) := by decide +kernel
theorem c_246_1 : ax_code 246 1 = some (.iconst 0, 2) := by decide +kernel
theorem c_246_2 : ax_code 246 2 = some (.putfield 704, 5) := by decide +kernel
theorem c_246_5 : ax_code 246 5 = some (.aload 0, 6) := by decide +kernel
theorem c_246_6 : ax_code 246 6 = some (.iload 1, 7) := by decide +kernel
theorem c_246_7 : ax_code 246 7 = some (.invokevirtual 231, 10) := by decide +kernel
theorem c_246_10 : ax_code 246 10 = some (.ifCond .eq 23, 13) := by decide +kernel
theorem c_246_13 : ax_code 246 13 = some (.iload 2, 14) := by decide +kernel
theorem c_246_14 : ax_code 246 14 = some (.i2l, 15) := by decide +kernel
theorem c_246_15 : ax_code 246 15 = some (.lconst 0, 16) := by decide +kernel
theorem c_246_16 : ax_code 246 16 = some (.lconst 1, 17) := by decide +kernel
theorem c_246_17 : ax_code 246 17 = some (.invokestatic 198, 20) := by decide +kernel
theorem c_246_20 : ax_code 246 20 = some (.ifCond .ne 29, 23) := by decide +kernel
theorem c_246_23 : ax_code 246 23 = some (.ldc2_w 0, 26) := by decide +kernel
theorem c_246_26 : ax_code 246 26 = some (.goto 59, 29) := by decide +kernel
theorem c_246_29 : ax_code 246 29 = some (.iload 2, 30) := by decide +kernel
theorem c_246_30 : ax_code 246 30 = some (.ifCond .ne 44, 33) := by decide +kernel
theorem c_246_33 : ax_code 246 33 = some (.aload 0, 34) := by decide +kernel
theorem c_246_34 : ax_code 246 34 = some (.iload 1, 35) := by decide +kernel
theorem c_246_35 : ax_code 246 35 = some (.iload 1, 36) := by decide +kernel
theorem c_246_36 : ax_code 246 36 = some (.iconst 0, 37) := by decide +kernel
theorem c_246_37 : ax_code 246 37 = some (.invokevirtual 247, 40) := by decide +kernel
theorem c_246_40 : ax_code 246 40 = some (.i2l, 41) := by decide +kernel
theorem c_246_41 : ax_code 246 41 = some (.goto 59, 44) := by decide +kernel
theorem c_246_44 : ax_code 246 44 = some (.aload 0, 45) := by decide +kernel
theorem c_246_45 : ax_code 246 45 = some (.iload 1, 46) := by decide +kernel
theorem c_246_46 : ax_code 246 46 = some (.iload 1, 47) := by decide +kernel
theorem c_246_47 : ax_code 246 47 = some (.iconst 0, 48) := by decide +kernel
theorem c_246_48 : ax_code 246 48 = some (.invokevirtual 249, 51) := by decide +kernel
theorem c_246_51 : ax_code 246 51 = some (.ifCond .eq 58, 54) := by decide +kernel
theorem c_246_54 : ax_code 246 54 = some (.lconst 1, 55) := by decide +kernel
theorem c_246_55 : ax_code 246 55 = some (.goto 59, 58) := by decide +kernel
theorem c_246_58 : ax_code 246 58 = some (.lconst 0, 59) := by decide +kernel
theorem c_246_59 : ax_code 246 59 = some (.lreturn, 60) := by decide +kernel
theorem c_247_0 : ax_code 247 0 = some (.iconst 0, 1) := by decide +kernel
theorem c_247_1 : ax_code 247 1 = some (.istore 4, 3) := by decide +kernel
theorem c_247_3 : ax_code 247 3 = some (.iconst 0, 4) := by decide +kernel
theorem c_247_4 : ax_code 247 4 = some (.istore 5, 6) := by decide +kernel
theorem c_247_6 : ax_code 247 6 = some (.iload 5, 8) := by decide +kernel
theorem c_247_8 : ax_code 247 8 = some (.iconst 11, 10) := by decide +kernel
theorem c_247_10 : ax_code 247 10 = some (.if_icmp .ge 150, 13) := by decide +kernel
theorem c_247_13 : ax_code 247 13 = some (.iload 3, 14) := by decide +kernel
theorem c_247_14 : ax_code 247 14 = some (.iload 5, 16) := by decide +kernel
theorem c_247_16 : ax_code 247 16 = some (.ishr, 17) := by decide +kernel
theorem c_247_17 : ax_code 247 17 = some (.iconst 1, 18) := by decide +kernel
theorem c_247_18 : ax_code 247 18 = some (.iand, 19) := by decide +kernel
theorem c_247_19 : ax_code 247 19 = some (.iconst 1, 20) := by decide +kernel
theorem c_247_20 : ax_code 247 20 = some (.if_icmp .ne 33, 23) := by decide +kernel
theorem c_247_23 : ax_code 247 23 = some (.aload 0, 24) := by decide +kernel
theorem c_247_24 : ax_code 247 24 = some (.iload 2, 25) := by decide +kernel
theorem c_247_25 : ax_code 247 25 = some (.iload 5, 27) := by decide +kernel
theorem c_247_27 : ax_code 247 27 = some (.invokevirtual 235, 30) := by decide +kernel
theorem c_247_30 : ax_code 247 30 = some (.goto 40, 33) := by decide +kernel
theorem c_247_33 : ax_code 247 33 = some (.aload 0, 34) := by decide +kernel
theorem c_247_34 : ax_code 247 34 = some (.iload 1, 35) := by decide +kernel
theorem c_247_35 : ax_code 247 35 = some (.iload 5, 37) := by decide +kernel
theorem c_247_37 : ax_code 247 37 = some (.invokevirtual 235, 40) := by decide +kernel
theorem c_247_40 : ax_code 247 40 = some (.istore 6, 42) := by decide +kernel
theorem c_247_42 : ax_code 247 42 = some (.iload 4, 44) := by decide +kernel
theorem c_247_44 : ax_code 247 44 = some (.iload 5, 46) := by decide +kernel
theorem c_247_46 : ax_code 247 46 = some (.iconst 8, 48) := by decide +kernel
theorem c_247_48 : ax_code 247 48 = some (.if_icmp .ge 67, 51) := by decide +kernel
theorem c_247_51 : ax_code 247 51 = some (.aload 0, 52) := by decide +kernel
theorem c_247_52 : ax_code 247 52 = some (.getfield 709, 55) := by decide +kernel
theorem c_247_55 : ax_code 247 55 = some (.iconst 90, 57) := by decide +kernel
theorem c_247_57 : ax_code 247 57 = some (.iload 5, 59) := by decide +kernel
theorem c_247_59 : ax_code 247 59 = some (.iadd, 60) := by decide +kernel
theorem c_247_60 : ax_code 247 60 = some (.iaload, 61) := by decide +kernel
theorem c_247_61 : ax_code 247 61 = some (.iload 6, 63) := by decide +kernel
theorem c_247_63 : ax_code 247 63 = some (.imul, 64) := by decide +kernel
theorem c_247_64 : ax_code 247 64 = some (.goto 141, 67) := by decide +kernel
theorem c_247_67 : ax_code 247 67 = some (.iload 5, 69) := by decide +kernel
theorem c_247_69 : ax_code 247 69 = some (.iconst 8, 71) := by decide +kernel
theorem c_247_71 : ax_code 247 71 = some (.if_icmp .ne 93, 74) := by decide +kernel
theorem c_247_74 : ax_code 247 74 = some (.iconst (-10), 76) := by decide +kernel
theorem c_247_76 : ax_code 247 76 = some (.iload 6, 78) := by decide +kernel
theorem c_247_78 : ax_code 247 78 = some (.aload 0, 79) := by decide +kernel
theorem c_247_79 : ax_code 247 79 = some (.getfield 709, 82) := by decide +kernel
theorem c_247_82 : ax_code 247 82 = some (.iconst 98, 84) := by decide +kernel
theorem c_247_84 : ax_code 247 84 = some (.iaload, 85) := by decide +kernel
theorem c_247_85 : ax_code 247 85 = some (.isub, 86) := by decide +kernel
theorem c_247_86 : ax_code 247 86 = some (.invokestatic 248, 89) := by decide +kernel
theorem c_247_89 : ax_code 247 89 = some (.imul, 90) := by decide +kernel
theorem c_247_90 : ax_code 247 90 = some (.goto 141, 93) := by decide +kernel
theorem c_247_93 : ax_code 247 93 = some (.iload 5, 95) := by decide +kernel
theorem c_247_95 : ax_code 247 95 = some (.iconst 9, 97) := by decide +kernel
theorem c_247_97 : ax_code 247 97 = some (.if_icmp .ne 117, 100) := by decide +kernel
theorem c_247_100 : ax_code 247 100 = some (.iload 6, 102) := by decide +kernel
theorem c_247_102 : ax_code 247 102 = some (.aload 0, 103) := by decide +kernel
theorem c_247_103 : ax_code 247 103 = some (.getfield 709, 106) := by decide +kernel
theorem c_247_106 : ax_code 247 106 = some (.iconst 99, 108) := by decide +kernel
theorem c_247_108 : ax_code 247 108 = some (.iaload, 109) := by decide +kernel
theorem c_247_109 : ax_code 247 109 = some (.isub, 110) := by decide +kernel
theorem c_247_110 : ax_code 247 110 = some (.invokestatic 248, 113) := by decide +kernel
theorem c_247_113 : ax_code 247 113 = some (.ineg, 114) := by decide +kernel
theorem c_247_114 : ax_code 247 114 = some (.goto 141, 117) := by decide +kernel
theorem c_247_117 : ax_code 247 117 = some (.iload 6, 119) := by decide +kernel
theorem c_247_119 : ax_code 247 119 = some (.aload 0, 120) := by decide +kernel
theorem c_247_120 : ax_code 247 120 = some (.getfield 709, 123) := by decide +kernel
theorem c_247_123 : ax_code 247 123 = some (.iconst 100, 125) := by decide +kernel
theorem c_247_125 : ax_code 247 125 = some (.iaload, 126) := by decide +kernel
theorem c_247_126 : ax_code 247 126 = some (.if_icmp .ge 134, 129) := by decide +kernel
theorem c_247_129 : ax_code 247 129 = some (.iload 6, 131) := by decide +kernel
theorem c_247_131 : ax_code 247 131 = some (.goto 141, 134) := by decide +kernel
theorem c_247_134 : ax_code 247 134 = some (.aload 0, 135) := by decide +kernel
theorem c_247_135 : ax_code 247 135 = some (.getfield 709, 138) := by decide +kernel
theorem c_247_138 : ax_code 247 138 = some (.iconst 100, 140) := by decide +kernel
theorem c_247_140 : ax_code 247 140 = some (.iaload, 141) := by decide +kernel
theorem c_247_141 : ax_code 247 141 = some (.iadd, 142) := by decide +kernel
theorem c_247_142 : ax_code 247 142 = some (.istore 4, 144) := by decide +kernel
theorem c_247_144 : ax_code 247 144 = some (.iinc 5 (1), 147) := by decide +kernel
theorem c_247_147 : ax_code 247 147 = some (.goto 6, 150) := by decide +kernel
theorem c_247_150 : ax_code 247 150 = some (.iload 4, 152) := by decide +kernel
theorem c_247_152 : ax_code 247 152 = some (.ireturn, 153) := by decide +kernel
theorem c_248_0 : ax_code 248 0 = some (.iload 0, 1) := by decide +kernel
theorem c_248_1 : ax_code 248 1 = some (.ifCond .ge 9, 4) := by decide +kernel
theorem c_248_4 : ax_code 248 4 = some (.iload 0, 5) := by decide +kernel
theorem c_248_5 : ax_code 248 5 = some (.ineg, 6) := by decide +kernel
theorem c_248_6 : ax_code 248 6 = some (.goto 10, 9) := by decide +kernel
theorem c_248_9 : ax_code 248 9 = some (.iload 0, 10) := by decide +kernel
theorem c_248_10 : ax_code 248 10 = some (.ireturn, 11) := by decide +kernel
theorem c_249_0 : ax_code 249 0 = some (.aload 0, 1) := by decide +kernel
theorem c_249_1 : ax_code 249 1 = some (.iload 1, 2) := by decide +kernel
theorem c_249_2 : ax_code 249 2 = some (.iload 2, 3) := by decide +kernel
theorem c_249_3 : ax_code 249 3 = some (.iload 3, 4) := by decide +kernel
theorem c_249_4 : ax_code 249 4 = some (.invokevirtual 247, 7) := by decide +kernel
theorem c_249_7 : ax_code 249 7 = some (.aload 0, 8) := by decide +kernel
theorem c_249_8 : ax_code 249 8 = some (.getfield 709, 11) := by decide +kernel
theorem c_249_11 : ax_code 249 11 = some (.iconst 101, 13) := by decide +kernel
theorem c_249_13 : ax_code 249 13 = some (.iaload, 14) := by decide +kernel
theorem c_249_14 : ax_code 249 14 = some (.if_icmp .ge 21, 17) := by decide +kernel
theorem c_249_17 : ax_code 249 17 = some (.iconst 1, 18) := by decide +kernel
theorem c_249_18 : ax_code 249 18 = some (.goto 22, 21) := by decide +kernel
theorem c_249_21 : ax_code 249 21 = some (.iconst 0, 22) := by decide +kernel
theorem c_249_22 : ax_code 249 22 = some (.ireturn, 23) := by decide +kernel
theorem c_250_0 : ax_code 250 0 = some (.aload 0, 1) := by decide +kernel
theorem c_250_1 : ax_code 250 1 = some (.iconst 0, 2) := by decide +kernel
theorem c_250_2 : ax_code 250 2 = some (.putfield 704, 5) := by decide +kernel
theorem c_250_5 : ax_code 250 5 = some (.aload 0, 6) := by decide +kernel
theorem c_250_6 : ax_code 250 6 = some (.iload 1, 7) := by decide +kernel
theorem c_250_7 : ax_code 250 7 = some (.invokevirtual 231, 10) := by decide +kernel
theorem c_250_10 : ax_code 250 10 = some (.ifCond .eq 33, 13) := by decide +kernel
theorem c_250_13 : ax_code 250 13 = some (.aload 0, 14) := by decide +kernel
theorem c_250_14 : ax_code 250 14 = some (.iload 2, 15) := by decide +kernel
theorem c_250_15 : ax_code 250 15 = some (.invokevirtual 231, 18) := by decide +kernel
theorem c_250_18 : ax_code 250 18 = some (.ifCond .eq 33, 21) := by decide +kernel
theorem c_250_21 : ax_code 250 21 = some (.iload 3, 22) := by decide +kernel
theorem c_250_22 : ax_code 250 22 = some (.i2l, 23) := by decide +kernel
theorem c_250_23 : ax_code 250 23 = some (.lconst 0, 24) := by decide +kernel
theorem c_250_24 : ax_code 250 24 = some (.ldc2_w 8, 27) := by decide +kernel
theorem c_250_27 : ax_code 250 27 = some (.invokestatic 198, 30) := by decide +kernel
theorem c_250_30 : ax_code 250 30 = some (.ifCond .ne 37, 33) := by decide +kernel
theorem c_250_33 : ax_code 250 33 = some (.ldc2_w 0, 36) := by decide +kernel
theorem c_250_36 : ax_code 250 36 = some (.lreturn, 37) := by decide +kernel
theorem c_250_37 : ax_code 250 37 = some (.aload 0, 38) := by decide +kernel
theorem c_250_38 : ax_code 250 38 = some (.iload 1, 39) := by decide +kernel
theorem c_250_39 : ax_code 250 39 = some (.iload 1, 40) := by decide +kernel
theorem c_250_40 : ax_code 250 40 = some (.iconst 0, 41) := by decide +kernel
theorem c_250_41 : ax_code 250 41 = some (.invokevirtual 249, 44) := by decide +kernel
theorem c_250_44 : ax_code 250 44 = some (.ifCond .ne 57, 47) := by decide +kernel
theorem c_250_47 : ax_code 250 47 = some (.aload 0, 48) := by decide +kernel
theorem c_250_48 : ax_code 250 48 = some (.iload 2, 49) := by decide +kernel
theorem c_250_49 : ax_code 250 49 = some (.iload 2, 50) := by decide +kernel
theorem c_250_50 : ax_code 250 50 = some (.iconst 0, 51) := by decide +kernel
theorem c_250_51 : ax_code 250 51 = some (.invokevirtual 249, 54) := by decide +kernel
theorem c_250_54 : ax_code 250 54 = some (.ifCond .ne 61, 57) := by decide +kernel
theorem c_250_57 : ax_code 250 57 = some (.ldc2_w 4, 60) := by decide +kernel
theorem c_250_60 : ax_code 250 60 = some (.lreturn, 61) := by decide +kernel
theorem c_250_61 : ax_code 250 61 = some (.iconst 0, 62) := by decide +kernel
theorem c_250_62 : ax_code 250 62 = some (.istore 4, 64) := by decide +kernel
theorem c_250_64 : ax_code 250 64 = some (.iconst 0, 65) := by decide +kernel
theorem c_250_65 : ax_code 250 65 = some (.istore 5, 67) := by decide +kernel
theorem c_250_67 : ax_code 250 67 = some (.iload 5, 69) := by decide +kernel
theorem c_250_69 : ax_code 250 69 = some (.iconst 11, 71) := by decide +kernel
theorem c_250_71 : ax_code 250 71 = some (.if_icmp .ge 104, 74) := by decide +kernel
theorem c_250_74 : ax_code 250 74 = some (.iload 4, 76) := by decide +kernel
theorem c_250_76 : ax_code 250 76 = some (.aload 0, 77) := by decide +kernel
theorem c_250_77 : ax_code 250 77 = some (.iload 1, 78) := by decide +kernel
theorem c_250_78 : ax_code 250 78 = some (.iload 2, 79) := by decide +kernel
theorem c_250_79 : ax_code 250 79 = some (.iload 5, 81) := by decide +kernel
theorem c_250_81 : ax_code 250 81 = some (.invokevirtual 245, 84) := by decide +kernel
theorem c_250_84 : ax_code 250 84 = some (.ifCond .eq 94, 87) := by decide +kernel
theorem c_250_87 : ax_code 250 87 = some (.iconst 1, 88) := by decide +kernel
theorem c_250_88 : ax_code 250 88 = some (.iload 5, 90) := by decide +kernel
theorem c_250_90 : ax_code 250 90 = some (.ishl, 91) := by decide +kernel
theorem c_250_91 : ax_code 250 91 = some (.goto 95, 94) := by decide +kernel
theorem c_250_94 : ax_code 250 94 = some (.iconst 0, 95) := by decide +kernel
theorem c_250_95 : ax_code 250 95 = some (.ior, 96) := by decide +kernel
theorem c_250_96 : ax_code 250 96 = some (.istore 4, 98) := by decide +kernel
theorem c_250_98 : ax_code 250 98 = some (.iinc 5 (1), 101) := by decide +kernel
theorem c_250_101 : ax_code 250 101 = some (.goto 67, 104) := by decide +kernel
theorem c_250_104 : ax_code 250 104 = some (.iconst (-1000000), 106) := by decide +kernel
theorem c_250_106 : ax_code 250 106 = some (.istore 5, 108) := by decide +kernel
theorem c_250_108 : ax_code 250 108 = some (.iconst 0, 109) := by decide +kernel
theorem c_250_109 : ax_code 250 109 = some (.istore 6, 111) := by decide +kernel
theorem c_250_111 : ax_code 250 111 = some (.iconst 1, 112) := by decide +kernel
theorem c_250_112 : ax_code 250 112 = some (.istore 7, 114) := by decide +kernel
theorem c_250_114 : ax_code 250 114 = some (.iload 7, 116) := by decide +kernel
theorem c_250_116 : ax_code 250 116 = some (.iconst 2048, 119) := by decide +kernel
theorem c_250_119 : ax_code 250 119 = some (.if_icmp .ge 223, 122) := by decide +kernel
theorem c_250_122 : ax_code 250 122 = some (.iload 7, 124) := by decide +kernel
theorem c_250_124 : ax_code 250 124 = some (.iload 4, 126) := by decide +kernel
theorem c_250_126 : ax_code 250 126 = some (.iconst (-1), 127) := by decide +kernel
theorem c_250_127 : ax_code 250 127 = some (.ixor, 128) := by decide +kernel
theorem c_250_128 : ax_code 250 128 = some (.iand, 129) := by decide +kernel
theorem c_250_129 : ax_code 250 129 = some (.ifCond .ne 217, 132) := by decide +kernel
theorem c_250_132 : ax_code 250 132 = some (.aload 0, 133) := by decide +kernel
theorem c_250_133 : ax_code 250 133 = some (.iload 1, 134) := by decide +kernel
theorem c_250_134 : ax_code 250 134 = some (.iload 2, 135) := by decide +kernel
theorem c_250_135 : ax_code 250 135 = some (.iload 7, 137) := by decide +kernel
theorem c_250_137 : ax_code 250 137 = some (.invokevirtual 249, 140) := by decide +kernel
theorem c_250_140 : ax_code 250 140 = some (.ifCond .eq 217, 143) := by decide +kernel
theorem c_250_143 : ax_code 250 143 = some (.iload 5, 145) := by decide +kernel
theorem c_250_145 : ax_code 250 145 = some (.iconst (-1000000), 147) := by decide +kernel
theorem c_250_147 : ax_code 250 147 = some (.if_icmp .eq 163, 150) := by decide +kernel
theorem c_250_150 : ax_code 250 150 = some (.iload 7, 152) := by decide +kernel
theorem c_250_152 : ax_code 250 152 = some (.invokestatic 240, 155) := by decide +kernel
theorem c_250_155 : ax_code 250 155 = some (.iload 5, 157) := by decide +kernel
theorem c_250_157 : ax_code 250 157 = some (.invokestatic 240, 160) := by decide +kernel
theorem c_250_160 : ax_code 250 160 = some (.if_icmp .ge 167, 163) := by decide +kernel
theorem c_250_163 : ax_code 250 163 = some (.iconst 1, 164) := by decide +kernel
theorem c_250_164 : ax_code 250 164 = some (.goto 168, 167) := by decide +kernel
theorem c_250_167 : ax_code 250 167 = some (.iconst 0, 168) := by decide +kernel
theorem c_250_168 : ax_code 250 168 = some (.istore 8, 170) := by decide +kernel
theorem c_250_170 : ax_code 250 170 = some (.iload 8, 172) := by decide +kernel
theorem c_250_172 : ax_code 250 172 = some (.ifCond .eq 179, 175) := by decide +kernel
theorem c_250_175 : ax_code 250 175 = some (.iconst 1, 176) := by decide +kernel
theorem c_250_176 : ax_code 250 176 = some (.goto 201, 179) := by decide +kernel
theorem c_250_179 : ax_code 250 179 = some (.iload 7, 181) := by decide +kernel
theorem c_250_181 : ax_code 250 181 = some (.invokestatic 240, 184) := by decide +kernel
theorem c_250_184 : ax_code 250 184 = some (.iload 5, 186) := by decide +kernel
theorem c_250_186 : ax_code 250 186 = some (.invokestatic 240, 189) := by decide +kernel
theorem c_250_189 : ax_code 250 189 = some (.if_icmp .ne 199, 192) := by decide +kernel
theorem c_250_192 : ax_code 250 192 = some (.iload 6, 194) := by decide +kernel
theorem c_250_194 : ax_code 250 194 = some (.iconst 1, 195) := by decide +kernel
theorem c_250_195 : ax_code 250 195 = some (.iadd, 196) := by decide +kernel
theorem c_250_196 : ax_code 250 196 = some (.goto 201, 199) := by decide +kernel
theorem c_250_199 : ax_code 250 199 = some (.iload 6, 201) := by decide +kernel
theorem c_250_201 : ax_code 250 201 = some (.istore 6, 203) := by decide +kernel
theorem c_250_203 : ax_code 250 203 = some (.iload 8, 205) := by decide +kernel
theorem c_250_205 : ax_code 250 205 = some (.ifCond .eq 213, 208) := by decide +kernel
theorem c_250_208 : ax_code 250 208 = some (.iload 7, 210) := by decide +kernel
theorem c_250_210 : ax_code 250 210 = some (.goto 215, 213) := by decide +kernel
theorem c_250_213 : ax_code 250 213 = some (.iload 5, 215) := by decide +kernel
theorem c_250_215 : ax_code 250 215 = some (.istore 5, 217) := by decide +kernel
theorem c_250_217 : ax_code 250 217 = some (.iinc 7 (1), 220) := by decide +kernel
theorem c_250_220 : ax_code 250 220 = some (.goto 114, 223) := by decide +kernel
theorem c_250_223 : ax_code 250 223 = some (.iload 3, 224) := by decide +kernel
theorem c_250_224 : ax_code 250 224 = some (.iconst 2, 225) := by decide +kernel
theorem c_250_225 : ax_code 250 225 = some (.if_icmp .ne 234, 228) := by decide +kernel
theorem c_250_228 : ax_code 250 228 = some (.iload 6, 230) := by decide +kernel
theorem c_250_230 : ax_code 250 230 = some (.i2l, 231) := by decide +kernel
theorem c_250_231 : ax_code 250 231 = some (.goto 263, 234) := by decide +kernel
theorem c_250_234 : ax_code 250 234 = some (.iload 5, 236) := by decide +kernel
theorem c_250_236 : ax_code 250 236 = some (.iconst (-1000000), 238) := by decide +kernel
theorem c_250_238 : ax_code 250 238 = some (.if_icmp .ne 247, 241) := by decide +kernel
theorem c_250_241 : ax_code 250 241 = some (.ldc2_w 5, 244) := by decide +kernel
theorem c_250_244 : ax_code 250 244 = some (.goto 263, 247) := by decide +kernel
theorem c_250_247 : ax_code 250 247 = some (.iload 3, 248) := by decide +kernel
theorem c_250_248 : ax_code 250 248 = some (.ifCond .ne 257, 251) := by decide +kernel
theorem c_250_251 : ax_code 250 251 = some (.iload 5, 253) := by decide +kernel
theorem c_250_253 : ax_code 250 253 = some (.i2l, 254) := by decide +kernel
theorem c_250_254 : ax_code 250 254 = some (.goto 263, 257) := by decide +kernel
theorem c_250_257 : ax_code 250 257 = some (.iload 5, 259) := by decide +kernel
theorem c_250_259 : ax_code 250 259 = some (.invokestatic 240, 262) := by decide +kernel
theorem c_250_262 : ax_code 250 262 = some (.i2l, 263) := by decide +kernel
theorem c_250_263 : ax_code 250 263 = some (.lreturn, 264) := by decide +kernel
theorem c_251_0 : ax_code 251 0 = some (.aload 0, 1) := by decide +kernel
theorem c_251_1 : ax_code 251 1 = some (.iconst 0, 2) := by decide +kernel
theorem c_251_2 : ax_code 251 2 = some (.putfield 704, 5) := by decide +kernel
theorem c_251_5 : ax_code 251 5 = some (.iload 1, 6) := by decide +kernel
theorem c_251_6 : ax_code 251 6 = some (.i2l, 7) := by decide +kernel
theorem c_251_7 : ax_code 251 7 = some (.lconst 0, 8) := by decide +kernel
theorem c_251_8 : ax_code 251 8 = some (.lconst 1, 9) := by decide +kernel
theorem c_251_9 : ax_code 251 9 = some (.invokestatic 198, 12) := by decide +kernel
theorem c_251_12 : ax_code 251 12 = some (.ifCond .ne 19, 15) := by decide +kernel
theorem c_251_15 : ax_code 251 15 = some (.ldc2_w 0, 18) := by decide +kernel
theorem c_251_18 : ax_code 251 18 = some (.lreturn, 19) := by decide +kernel
theorem c_251_19 : ax_code 251 19 = some (.aload 0, 20) := by decide +kernel
theorem c_251_20 : ax_code 251 20 = some (.getfield 712, 23) := by decide +kernel
theorem c_251_23 : ax_code 251 23 = some (.iconst 0, 24) := by decide +kernel
theorem c_251_24 : ax_code 251 24 = some (.iaload, 25) := by decide +kernel
theorem c_251_25 : ax_code 251 25 = some (.ifCond .ne 32, 28) := by decide +kernel
theorem c_251_28 : ax_code 251 28 = some (.ldc2_w 4, 31) := by decide +kernel
theorem c_251_31 : ax_code 251 31 = some (.lreturn, 32) := by decide +kernel
theorem c_251_32 : ax_code 251 32 = some (.lconst 0, 33) := by decide +kernel
theorem c_251_33 : ax_code 251 33 = some (.lstore 2, 34) := by decide +kernel
theorem c_251_34 : ax_code 251 34 = some (.lconst 1, 35) := by decide +kernel
theorem c_251_35 : ax_code 251 35 = some (.lstore 4, 37) := by decide +kernel
theorem c_251_37 : ax_code 251 37 = some (.iconst 0, 38) := by decide +kernel
theorem c_251_38 : ax_code 251 38 = some (.istore 6, 40) := by decide +kernel
theorem c_251_40 : ax_code 251 40 = some (.iload 6, 42) := by decide +kernel
theorem c_251_42 : ax_code 251 42 = some (.aload 0, 43) := by decide +kernel
theorem c_251_43 : ax_code 251 43 = some (.getfield 712, 46) := by decide +kernel
theorem c_251_46 : ax_code 251 46 = some (.iconst 0, 47) := by decide +kernel
theorem c_251_47 : ax_code 251 47 = some (.iaload, 48) := by decide +kernel
theorem c_251_48 : ax_code 251 48 = some (.if_icmp .ge 92, 51) := by decide +kernel
theorem c_251_51 : ax_code 251 51 = some (.aload 0, 52) := by decide +kernel
theorem c_251_52 : ax_code 251 52 = some (.iload 6, 54) := by decide +kernel
theorem c_251_54 : ax_code 251 54 = some (.invokevirtual 252, 57) := by decide +kernel
theorem c_251_57 : ax_code 251 57 = some (.lload 2, 58) := by decide +kernel
theorem c_251_58 : ax_code 251 58 = some (.aload 0, 59) := by decide +kernel
theorem c_251_59 : ax_code 251 59 = some (.getfield 725, 62) := by decide +kernel
theorem c_251_62 : ax_code 251 62 = some (.i2l, 63) := by decide +kernel
theorem c_251_63 : ax_code 251 63 = some (.ladd, 64) := by decide +kernel
theorem c_251_64 : ax_code 251 64 = some (.lstore 2, 65) := by decide +kernel
theorem c_251_65 : ax_code 251 65 = some (.lload 4, 67) := by decide +kernel
theorem c_251_67 : ax_code 251 67 = some (.aload 0, 68) := by decide +kernel
theorem c_251_68 : ax_code 251 68 = some (.getfield 726, 71) := by decide +kernel
theorem c_251_71 : ax_code 251 71 = some (.ifCond .ne 78, 74) := by decide +kernel
theorem c_251_74 : ax_code 251 74 = some (.lconst 1, 75) := by decide +kernel
theorem c_251_75 : ax_code 251 75 = some (.goto 83, 78) := by decide +kernel
theorem c_251_78 : ax_code 251 78 = some (.aload 0, 79) := by decide +kernel
theorem c_251_79 : ax_code 251 79 = some (.getfield 726, 82) := by decide +kernel
theorem c_251_82 : ax_code 251 82 = some (.i2l, 83) := by decide +kernel
theorem c_251_83 : ax_code 251 83 = some (.lmul, 84) := by decide +kernel
theorem c_251_84 : ax_code 251 84 = some (.lstore 4, 86) := by decide +kernel
theorem c_251_86 : ax_code 251 86 = some (.iinc 6 (1), 89) := by decide +kernel
theorem c_251_89 : ax_code 251 89 = some (.goto 40, 92) := by decide +kernel
theorem c_251_92 : ax_code 251 92 = some (.iload 1, 93) := by decide +kernel
theorem c_251_93 : ax_code 251 93 = some (.ifCond .ne 100, 96) := by decide +kernel
theorem c_251_96 : ax_code 251 96 = some (.lload 2, 97) := by decide +kernel
theorem c_251_97 : ax_code 251 97 = some (.goto 102, 100) := by decide +kernel
theorem c_251_100 : ax_code 251 100 = some (.lload 4, 102) := by decide +kernel
theorem c_251_102 : ax_code 251 102 = some (.lreturn, 103) := by decide +kernel
theorem c_252_0 : ax_code 252 0 = some (.aload 0, 1) := by decide +kernel
theorem c_252_1 : ax_code 252 1 = some (.iconst 0, 2) := by decide +kernel
theorem c_252_2 : ax_code 252 2 = some (.putfield 725, 5) := by decide +kernel
theorem c_252_5 : ax_code 252 5 = some (.aload 0, 6) := by decide +kernel
theorem c_252_6 : ax_code 252 6 = some (.iconst 0, 7) := by decide +kernel
theorem c_252_7 : ax_code 252 7 = some (.putfield 726, 10) := by decide +kernel
theorem c_252_10 : ax_code 252 10 = some (.aload 0, 11) := by decide +kernel
theorem c_252_11 : ax_code 252 11 = some (.iconst (-1000000), 13) := by decide +kernel
theorem c_252_13 : ax_code 252 13 = some (.putfield 727, 16) := by decide +kernel
theorem c_252_16 : ax_code 252 16 = some (.iconst 0, 17) := by decide +kernel
theorem c_252_17 : ax_code 252 17 = some (.istore 2, 18) := by decide +kernel
theorem c_252_18 : ax_code 252 18 = some (.iload 2, 19) := by decide +kernel
theorem c_252_19 : ax_code 252 19 = some (.aload 0, 20) := by decide +kernel
theorem c_252_20 : ax_code 252 20 = some (.getfield 712, 23) := by decide +kernel
theorem c_252_23 : ax_code 252 23 = some (.iconst 0, 24) := by decide +kernel
theorem c_252_24 : ax_code 252 24 = some (.iaload, 25) := by decide +kernel
theorem c_252_25 : ax_code 252 25 = some (.if_icmp .ge 140, 28) := by decide +kernel
theorem c_252_28 : ax_code 252 28 = some (.aload 0, 29) := by decide +kernel
theorem c_252_29 : ax_code 252 29 = some (.iload 2, 30) := by decide +kernel
theorem c_252_30 : ax_code 252 30 = some (.iload 1, 31) := by decide +kernel
theorem c_252_31 : ax_code 252 31 = some (.invokevirtual 253, 34) := by decide +kernel
theorem c_252_34 : ax_code 252 34 = some (.ifCond .eq 134, 37) := by decide +kernel
theorem c_252_37 : ax_code 252 37 = some (.aload 0, 38) := by decide +kernel
theorem c_252_38 : ax_code 252 38 = some (.iload 2, 39) := by decide +kernel
theorem c_252_39 : ax_code 252 39 = some (.iload 1, 40) := by decide +kernel
theorem c_252_40 : ax_code 252 40 = some (.invokevirtual 244, 43) := by decide +kernel
theorem c_252_43 : ax_code 252 43 = some (.istore 3, 44) := by decide +kernel
theorem c_252_44 : ax_code 252 44 = some (.aload 0, 45) := by decide +kernel
theorem c_252_45 : ax_code 252 45 = some (.getfield 726, 48) := by decide +kernel
theorem c_252_48 : ax_code 252 48 = some (.ifCond .eq 59, 51) := by decide +kernel
theorem c_252_51 : ax_code 252 51 = some (.iload 3, 52) := by decide +kernel
theorem c_252_52 : ax_code 252 52 = some (.aload 0, 53) := by decide +kernel
theorem c_252_53 : ax_code 252 53 = some (.getfield 725, 56) := by decide +kernel
theorem c_252_56 : ax_code 252 56 = some (.if_icmp .ge 63, 59) := by decide +kernel
theorem c_252_59 : ax_code 252 59 = some (.iconst 1, 60) := by decide +kernel
theorem c_252_60 : ax_code 252 60 = some (.goto 64, 63) := by decide +kernel
theorem c_252_63 : ax_code 252 63 = some (.iconst 0, 64) := by decide +kernel
theorem c_252_64 : ax_code 252 64 = some (.istore 4, 66) := by decide +kernel
theorem c_252_66 : ax_code 252 66 = some (.aload 0, 67) := by decide +kernel
theorem c_252_67 : ax_code 252 67 = some (.iload 4, 69) := by decide +kernel
theorem c_252_69 : ax_code 252 69 = some (.ifCond .eq 76, 72) := by decide +kernel
theorem c_252_72 : ax_code 252 72 = some (.iconst 1, 73) := by decide +kernel
theorem c_252_73 : ax_code 252 73 = some (.goto 97, 76) := by decide +kernel
theorem c_252_76 : ax_code 252 76 = some (.iload 3, 77) := by decide +kernel
theorem c_252_77 : ax_code 252 77 = some (.aload 0, 78) := by decide +kernel
theorem c_252_78 : ax_code 252 78 = some (.getfield 725, 81) := by decide +kernel
theorem c_252_81 : ax_code 252 81 = some (.if_icmp .ne 93, 84) := by decide +kernel
theorem c_252_84 : ax_code 252 84 = some (.aload 0, 85) := by decide +kernel
theorem c_252_85 : ax_code 252 85 = some (.getfield 726, 88) := by decide +kernel
theorem c_252_88 : ax_code 252 88 = some (.iconst 1, 89) := by decide +kernel
theorem c_252_89 : ax_code 252 89 = some (.iadd, 90) := by decide +kernel
theorem c_252_90 : ax_code 252 90 = some (.goto 97, 93) := by decide +kernel
theorem c_252_93 : ax_code 252 93 = some (.aload 0, 94) := by decide +kernel
theorem c_252_94 : ax_code 252 94 = some (.getfield 726, 97) := by decide +kernel
theorem c_252_97 : ax_code 252 97 = some (.putfield 726, 100) := by decide +kernel
theorem c_252_100 : ax_code 252 100 = some (.aload 0, 101) := by decide +kernel
theorem c_252_101 : ax_code 252 101 = some (.iload 4, 103) := by decide +kernel
theorem c_252_103 : ax_code 252 103 = some (.ifCond .eq 110, 106) := by decide +kernel
theorem c_252_106 : ax_code 252 106 = some (.iload 2, 107) := by decide +kernel
theorem c_252_107 : ax_code 252 107 = some (.goto 114, 110) := by decide +kernel
theorem c_252_110 : ax_code 252 110 = some (.aload 0, 111) := by decide +kernel
theorem c_252_111 : ax_code 252 111 = some (.getfield 727, 114) := by decide +kernel
theorem c_252_114 : ax_code 252 114 = some (.putfield 727, 117) := by decide +kernel
theorem c_252_117 : ax_code 252 117 = some (.aload 0, 118) := by decide +kernel
theorem c_252_118 : ax_code 252 118 = some (.iload 4, 120) := by decide +kernel
theorem c_252_120 : ax_code 252 120 = some (.ifCond .eq 127, 123) := by decide +kernel
theorem c_252_123 : ax_code 252 123 = some (.iload 3, 124) := by decide +kernel
theorem c_252_124 : ax_code 252 124 = some (.goto 131, 127) := by decide +kernel
theorem c_252_127 : ax_code 252 127 = some (.aload 0, 128) := by decide +kernel
theorem c_252_128 : ax_code 252 128 = some (.getfield 725, 131) := by decide +kernel
theorem c_252_131 : ax_code 252 131 = some (.putfield 725, 134) := by decide +kernel
theorem c_252_134 : ax_code 252 134 = some (.iinc 2 (1), 137) := by decide +kernel
theorem c_252_137 : ax_code 252 137 = some (.goto 18, 140) := by decide +kernel
theorem c_252_140 : ax_code 252 140 = some (.return_, 141) := by decide +kernel
theorem c_253_0 : ax_code 253 0 = some (.aload 0, 1) := by decide +kernel
theorem c_253_1 : ax_code 253 1 = some (.iload 1, 2) := by decide +kernel
theorem c_253_2 : ax_code 253 2 = some (.iconst 2, 3) := by decide +kernel
theorem c_253_3 : ax_code 253 3 = some (.invokevirtual 232, 6) := by decide +kernel
theorem c_253_6 : ax_code 253 6 = some (.istore 3, 7) := by decide +kernel
theorem c_253_7 : ax_code 253 7 = some (.aload 0, 8) := by decide +kernel
theorem c_253_8 : ax_code 253 8 = some (.iload 2, 9) := by decide +kernel
theorem c_253_9 : ax_code 253 9 = some (.iconst 2, 10) := by decide +kernel
theorem c_253_10 : ax_code 253 10 = some (.invokevirtual 232, 13) := by decide +kernel
theorem c_253_13 : ax_code 253 13 = some (.istore 4, 15) := by decide +kernel
theorem c_253_15 : ax_code 253 15 = some (.iload 3, 16) := by decide +kernel
theorem c_253_16 : ax_code 253 16 = some (.iload 4, 18) := by decide +kernel
theorem c_253_18 : ax_code 253 18 = some (.if_icmp .lt 32, 21) := by decide +kernel
theorem c_253_21 : ax_code 253 21 = some (.iload 3, 22) := by decide +kernel
theorem c_253_22 : ax_code 253 22 = some (.iload 4, 24) := by decide +kernel
theorem c_253_24 : ax_code 253 24 = some (.if_icmp .ne 36, 27) := by decide +kernel
theorem c_253_27 : ax_code 253 27 = some (.iload 1, 28) := by decide +kernel
theorem c_253_28 : ax_code 253 28 = some (.iload 2, 29) := by decide +kernel
theorem c_253_29 : ax_code 253 29 = some (.if_icmp .ge 36, 32) := by decide +kernel
theorem c_253_32 : ax_code 253 32 = some (.iconst 1, 33) := by decide +kernel
theorem c_253_33 : ax_code 253 33 = some (.goto 37, 36) := by decide +kernel
theorem c_253_36 : ax_code 253 36 = some (.iconst 0, 37) := by decide +kernel
theorem c_253_37 : ax_code 253 37 = some (.ireturn, 38) := by decide +kernel
theorem c_254_0 : ax_code 254 0 = some (.aload 0, 1) := by decide +kernel
theorem c_254_1 : ax_code 254 1 = some (.iconst 0, 2) := by decide +kernel
theorem c_254_2 : ax_code 254 2 = some (.putfield 704, 5) := by decide +kernel
theorem c_254_5 : ax_code 254 5 = some (.aload 0, 6) := by decide +kernel
theorem c_254_6 : ax_code 254 6 = some (.iload 1, 7) := by decide +kernel
theorem c_254_7 : ax_code 254 7 = some (.invokevirtual 231, 10) := by decide +kernel
theorem c_254_10 : ax_code 254 10 = some (.ifCond .ne 17, 13) := by decide +kernel
theorem c_254_13 : ax_code 254 13 = some (.ldc2_w 0, 16) := by decide +kernel
theorem c_254_16 : ax_code 254 16 = some (.lreturn, 17) := by decide +kernel
theorem c_254_17 : ax_code 254 17 = some (.aload 0, 18) := by decide +kernel
theorem c_254_18 : ax_code 254 18 = some (.iload 1, 19) := by decide +kernel
theorem c_254_19 : ax_code 254 19 = some (.invokevirtual 252, 22) := by decide +kernel
theorem c_254_22 : ax_code 254 22 = some (.aload 0, 23) := by decide +kernel
theorem c_254_23 : ax_code 254 23 = some (.getfield 727, 26) := by decide +kernel
theorem c_254_26 : ax_code 254 26 = some (.i2l, 27) := by decide +kernel
theorem c_254_27 : ax_code 254 27 = some (.lreturn, 28) := by decide +kernel
theorem c_255_0 : ax_code 255 0 = some (.aload 0, 1) := by decide +kernel
theorem c_255_1 : ax_code 255 1 = some (.iconst 0, 2) := by decide +kernel
theorem c_255_2 : ax_code 255 2 = some (.putfield 704, 5) := by decide +kernel
theorem c_255_5 : ax_code 255 5 = some (.aload 0, 6) := by decide +kernel
theorem c_255_6 : ax_code 255 6 = some (.iload 1, 7) := by decide +kernel
theorem c_255_7 : ax_code 255 7 = some (.invokevirtual 231, 10) := by decide +kernel
theorem c_255_10 : ax_code 255 10 = some (.ifCond .eq 25, 13) := by decide +kernel
theorem c_255_13 : ax_code 255 13 = some (.iload 2, 14) := by decide +kernel
theorem c_255_14 : ax_code 255 14 = some (.i2l, 15) := by decide +kernel
theorem c_255_15 : ax_code 255 15 = some (.lconst 0, 16) := by decide +kernel
theorem c_255_16 : ax_code 255 16 = some (.ldc2_w 8, 19) := by decide +kernel
theorem c_255_19 : ax_code 255 19 = some (.invokestatic 198, 22) := by decide +kernel
theorem c_255_22 : ax_code 255 22 = some (.ifCond .ne 29, 25) := by decide +kernel
theorem c_255_25 : ax_code 255 25 = some (.ldc2_w 0, 28) := by decide +kernel
theorem c_255_28 : ax_code 255 28 = some (.lreturn, 29) := by decide +kernel
theorem c_255_29 : ax_code 255 29 = some (.iconst (-1000000), 31) := by decide +kernel
theorem c_255_31 : ax_code 255 31 = some (.istore 3, 32) := by decide +kernel
theorem c_255_32 : ax_code 255 32 = some (.iconst (-1000000), 34) := by decide +kernel
theorem c_255_34 : ax_code 255 34 = some (.istore 4, 36) := by decide +kernel
theorem c_255_36 : ax_code 255 36 = some (.iconst (-1000000), 38) := by decide +kernel
theorem c_255_38 : ax_code 255 38 = some (.istore 5, 40) := by decide +kernel
theorem c_255_40 : ax_code 255 40 = some (.iconst 0, 41) := by decide +kernel
theorem c_255_41 : ax_code 255 41 = some (.istore 6, 43) := by decide +kernel
theorem c_255_43 : ax_code 255 43 = some (.iload 6, 45) := by decide +kernel
theorem c_255_45 : ax_code 255 45 = some (.aload 0, 46) := by decide +kernel
theorem c_255_46 : ax_code 255 46 = some (.getfield 712, 49) := by decide +kernel
theorem c_255_49 : ax_code 255 49 = some (.iconst 0, 50) := by decide +kernel
theorem c_255_50 : ax_code 255 50 = some (.iaload, 51) := by decide +kernel
theorem c_255_51 : ax_code 255 51 = some (.if_icmp .ge 189, 54) := by decide +kernel
theorem c_255_54 : ax_code 255 54 = some (.iload 6, 56) := by decide +kernel
theorem c_255_56 : ax_code 255 56 = some (.iconst 1, 57) := by decide +kernel
theorem c_255_57 : ax_code 255 57 = some (.iadd, 58) := by decide +kernel
theorem c_255_58 : ax_code 255 58 = some (.istore 7, 60) := by decide +kernel
theorem c_255_60 : ax_code 255 60 = some (.iload 7, 62) := by decide +kernel
theorem c_255_62 : ax_code 255 62 = some (.aload 0, 63) := by decide +kernel
theorem c_255_63 : ax_code 255 63 = some (.getfield 712, 66) := by decide +kernel
theorem c_255_66 : ax_code 255 66 = some (.iconst 0, 67) := by decide +kernel
theorem c_255_67 : ax_code 255 67 = some (.iaload, 68) := by decide +kernel
theorem c_255_68 : ax_code 255 68 = some (.if_icmp .ge 183, 71) := by decide +kernel
theorem c_255_71 : ax_code 255 71 = some (.aload 0, 72) := by decide +kernel
theorem c_255_72 : ax_code 255 72 = some (.iload 6, 74) := by decide +kernel
theorem c_255_74 : ax_code 255 74 = some (.iload 1, 75) := by decide +kernel
theorem c_255_75 : ax_code 255 75 = some (.invokevirtual 253, 78) := by decide +kernel
theorem c_255_78 : ax_code 255 78 = some (.ifCond .eq 177, 81) := by decide +kernel
theorem c_255_81 : ax_code 255 81 = some (.aload 0, 82) := by decide +kernel
theorem c_255_82 : ax_code 255 82 = some (.iload 7, 84) := by decide +kernel
theorem c_255_84 : ax_code 255 84 = some (.iload 1, 85) := by decide +kernel
theorem c_255_85 : ax_code 255 85 = some (.invokevirtual 253, 88) := by decide +kernel
theorem c_255_88 : ax_code 255 88 = some (.ifCond .eq 177, 91) := by decide +kernel
theorem c_255_91 : ax_code 255 91 = some (.iconst 1, 92) := by decide +kernel
theorem c_255_92 : ax_code 255 92 = some (.istore 8, 94) := by decide +kernel
theorem c_255_94 : ax_code 255 94 = some (.iconst 0, 95) := by decide +kernel
theorem c_255_95 : ax_code 255 95 = some (.istore 9, 97) := by decide +kernel
theorem c_255_97 : ax_code 255 97 = some (.iload 9, 99) := by decide +kernel
theorem c_255_99 : ax_code 255 99 = some (.iconst 11, 101) := by decide +kernel
theorem c_255_101 : ax_code 255 101 = some (.if_icmp .ge 154, 104) := by decide +kernel
theorem c_255_104 : ax_code 255 104 = some (.iload 8, 106) := by decide +kernel
theorem c_255_106 : ax_code 255 106 = some (.aload 0, 107) := by decide +kernel
theorem c_255_107 : ax_code 255 107 = some (.iload 1, 108) := by decide +kernel
theorem c_255_108 : ax_code 255 108 = some (.iload 9, 110) := by decide +kernel
theorem c_255_110 : ax_code 255 110 = some (.invokevirtual 234, 113) := by decide +kernel
theorem c_255_113 : ax_code 255 113 = some (.ifCond .eq 144, 116) := by decide +kernel
theorem c_255_116 : ax_code 255 116 = some (.aload 0, 117) := by decide +kernel
theorem c_255_117 : ax_code 255 117 = some (.iload 6, 119) := by decide +kernel
theorem c_255_119 : ax_code 255 119 = some (.iload 1, 120) := by decide +kernel
theorem c_255_120 : ax_code 255 120 = some (.iload 9, 122) := by decide +kernel
theorem c_255_122 : ax_code 255 122 = some (.invokevirtual 256, 125) := by decide +kernel
theorem c_255_125 : ax_code 255 125 = some (.ifCond .ne 144, 128) := by decide +kernel
theorem c_255_128 : ax_code 255 128 = some (.aload 0, 129) := by decide +kernel
theorem c_255_129 : ax_code 255 129 = some (.iload 7, 131) := by decide +kernel
theorem c_255_131 : ax_code 255 131 = some (.iload 1, 132) := by decide +kernel
theorem c_255_132 : ax_code 255 132 = some (.iload 9, 134) := by decide +kernel
theorem c_255_134 : ax_code 255 134 = some (.invokevirtual 256, 137) := by decide +kernel
theorem c_255_137 : ax_code 255 137 = some (.ifCond .ne 144, 140) := by decide +kernel
theorem c_255_140 : ax_code 255 140 = some (.iconst 1, 141) := by decide +kernel
theorem c_255_141 : ax_code 255 141 = some (.goto 145, 144) := by decide +kernel
theorem c_255_144 : ax_code 255 144 = some (.iconst 0, 145) := by decide +kernel
theorem c_255_145 : ax_code 255 145 = some (.iadd, 146) := by decide +kernel
theorem c_255_146 : ax_code 255 146 = some (.istore 8, 148) := by decide +kernel
theorem c_255_148 : ax_code 255 148 = some (.iinc 9 (1), 151) := by decide +kernel
theorem c_255_151 : ax_code 255 151 = some (.goto 97, 154) := by decide +kernel
theorem c_255_154 : ax_code 255 154 = some (.iload 3, 155) := by decide +kernel
theorem c_255_155 : ax_code 255 155 = some (.iconst (-1000000), 157) := by decide +kernel
theorem c_255_157 : ax_code 255 157 = some (.if_icmp .eq 166, 160) := by decide +kernel
theorem c_255_160 : ax_code 255 160 = some (.iload 8, 162) := by decide +kernel
theorem c_255_162 : ax_code 255 162 = some (.iload 3, 163) := by decide +kernel
theorem c_255_163 : ax_code 255 163 = some (.if_icmp .ge 177, 166) := by decide +kernel
theorem c_255_166 : ax_code 255 166 = some (.iload 8, 168) := by decide +kernel
theorem c_255_168 : ax_code 255 168 = some (.istore 3, 169) := by decide +kernel
theorem c_255_169 : ax_code 255 169 = some (.iload 6, 171) := by decide +kernel
theorem c_255_171 : ax_code 255 171 = some (.istore 4, 173) := by decide +kernel
theorem c_255_173 : ax_code 255 173 = some (.iload 7, 175) := by decide +kernel
theorem c_255_175 : ax_code 255 175 = some (.istore 5, 177) := by decide +kernel
theorem c_255_177 : ax_code 255 177 = some (.iinc 7 (1), 180) := by decide +kernel
theorem c_255_180 : ax_code 255 180 = some (.goto 60, 183) := by decide +kernel
theorem c_255_183 : ax_code 255 183 = some (.iinc 6 (1), 186) := by decide +kernel
theorem c_255_186 : ax_code 255 186 = some (.goto 43, 189) := by decide +kernel
theorem c_255_189 : ax_code 255 189 = some (.iload 2, 190) := by decide +kernel
theorem c_255_190 : ax_code 255 190 = some (.ifCond .ne 198, 193) := by decide +kernel
theorem c_255_193 : ax_code 255 193 = some (.iload 3, 194) := by decide +kernel
theorem c_255_194 : ax_code 255 194 = some (.i2l, 195) := by decide +kernel
theorem c_255_195 : ax_code 255 195 = some (.goto 212, 198) := by decide +kernel
theorem c_255_198 : ax_code 255 198 = some (.iload 2, 199) := by decide +kernel
theorem c_255_199 : ax_code 255 199 = some (.iconst 1, 200) := by decide +kernel
theorem c_255_200 : ax_code 255 200 = some (.if_icmp .ne 209, 203) := by decide +kernel
theorem c_255_203 : ax_code 255 203 = some (.iload 4, 205) := by decide +kernel
theorem c_255_205 : ax_code 255 205 = some (.i2l, 206) := by decide +kernel
theorem c_255_206 : ax_code 255 206 = some (.goto 212, 209) := by decide +kernel
theorem c_255_209 : ax_code 255 209 = some (.iload 5, 211) := by decide +kernel
theorem c_255_211 : ax_code 255 211 = some (.i2l, 212) := by decide +kernel
theorem c_255_212 : ax_code 255 212 = some (.lreturn, 213) := by decide +kernel
theorem c_256_0 : ax_code 256 0 = some (.aload 0, 1) := by decide +kernel
theorem c_256_1 : ax_code 256 1 = some (.iload 1, 2) := by decide +kernel
theorem c_256_2 : ax_code 256 2 = some (.iload 3, 3) := by decide +kernel
theorem c_256_3 : ax_code 256 3 = some (.invokevirtual 234, 6) := by decide +kernel
theorem c_256_6 : ax_code 256 6 = some (.ifCond .eq 37, 9) := by decide +kernel
theorem c_256_9 : ax_code 256 9 = some (.aload 0, 10) := by decide +kernel
theorem c_256_10 : ax_code 256 10 = some (.iload 2, 11) := by decide +kernel
theorem c_256_11 : ax_code 256 11 = some (.iload 3, 12) := by decide +kernel
theorem c_256_12 : ax_code 256 12 = some (.invokevirtual 234, 15) := by decide +kernel
theorem c_256_15 : ax_code 256 15 = some (.ifCond .eq 37, 18) := by decide +kernel
theorem c_256_18 : ax_code 256 18 = some (.aload 0, 19) := by decide +kernel
theorem c_256_19 : ax_code 256 19 = some (.iload 1, 20) := by decide +kernel
theorem c_256_20 : ax_code 256 20 = some (.iload 3, 21) := by decide +kernel
theorem c_256_21 : ax_code 256 21 = some (.invokevirtual 235, 24) := by decide +kernel
theorem c_256_24 : ax_code 256 24 = some (.aload 0, 25) := by decide +kernel
theorem c_256_25 : ax_code 256 25 = some (.iload 2, 26) := by decide +kernel
theorem c_256_26 : ax_code 256 26 = some (.iload 3, 27) := by decide +kernel
theorem c_256_27 : ax_code 256 27 = some (.invokevirtual 235, 30) := by decide +kernel
theorem c_256_30 : ax_code 256 30 = some (.if_icmp .ne 37, 33) := by decide +kernel
theorem c_256_33 : ax_code 256 33 = some (.iconst 1, 34) := by decide +kernel
theorem c_256_34 : ax_code 256 34 = some (.goto 38, 37) := by decide +kernel
theorem c_256_37 : ax_code 256 37 = some (.iconst 0, 38) := by decide +kernel
theorem c_256_38 : ax_code 256 38 = some (.ireturn, 39) := by decide +kernel
theorem c_257_0 : ax_code 257 0 = some (.aload 0, 1) := by decide +kernel
theorem c_257_1 : ax_code 257 1 = some (.iconst 0, 2) := by decide +kernel
theorem c_257_2 : ax_code 257 2 = some (.putfield 704, 5) := by decide +kernel
theorem c_257_5 : ax_code 257 5 = some (.aload 0, 6) := by decide +kernel
theorem c_257_6 : ax_code 257 6 = some (.iload 1, 7) := by decide +kernel
theorem c_257_7 : ax_code 257 7 = some (.invokevirtual 258, 10) := by decide +kernel
theorem c_257_10 : ax_code 257 10 = some (.ifCond .eq 25, 13) := by decide +kernel
theorem c_257_13 : ax_code 257 13 = some (.iload 2, 14) := by decide +kernel
theorem c_257_14 : ax_code 257 14 = some (.i2l, 15) := by decide +kernel
theorem c_257_15 : ax_code 257 15 = some (.lconst 0, 16) := by decide +kernel
theorem c_257_16 : ax_code 257 16 = some (.ldc2_w 8, 19) := by decide +kernel
theorem c_257_19 : ax_code 257 19 = some (.invokestatic 198, 22) := by decide +kernel
theorem c_257_22 : ax_code 257 22 = some (.ifCond .ne 29, 25) := by decide +kernel
theorem c_257_25 : ax_code 257 25 = some (.ldc2_w 0, 28) := by decide +kernel
theorem c_257_28 : ax_code 257 28 = some (.lreturn, 29) := by decide +kernel
theorem c_257_29 : ax_code 257 29 = some (.iload 2, 30) := by decide +kernel
theorem c_257_30 : ax_code 257 30 = some (.iconst 2, 31) := by decide +kernel
theorem c_257_31 : ax_code 257 31 = some (.if_icmp .ne 40, 34) := by decide +kernel
theorem c_257_34 : ax_code 257 34 = some (.aload 0, 35) := by decide +kernel
theorem c_257_35 : ax_code 257 35 = some (.invokevirtual 259, 38) := by decide +kernel
theorem c_257_38 : ax_code 257 38 = some (.i2l, 39) := by decide +kernel
theorem c_257_39 : ax_code 257 39 = some (.lreturn, 40) := by decide +kernel
theorem c_257_40 : ax_code 257 40 = some (.aload 0, 41) := by decide +kernel
theorem c_257_41 : ax_code 257 41 = some (.invokevirtual 260, 44) := by decide +kernel
theorem c_257_44 : ax_code 257 44 = some (.iload 2, 45) := by decide +kernel
theorem c_257_45 : ax_code 257 45 = some (.ifCond .ne 56, 48) := by decide +kernel
theorem c_257_48 : ax_code 257 48 = some (.aload 0, 49) := by decide +kernel
theorem c_257_49 : ax_code 257 49 = some (.getfield 738, 52) := by decide +kernel
theorem c_257_52 : ax_code 257 52 = some (.i2l, 53) := by decide +kernel
theorem c_257_53 : ax_code 257 53 = some (.goto 61, 56) := by decide +kernel
theorem c_257_56 : ax_code 257 56 = some (.aload 0, 57) := by decide +kernel
theorem c_257_57 : ax_code 257 57 = some (.getfield 739, 60) := by decide +kernel
theorem c_257_60 : ax_code 257 60 = some (.i2l, 61) := by decide +kernel
theorem c_257_61 : ax_code 257 61 = some (.lreturn, 62) := by decide +kernel
theorem c_258_0 : ax_code 258 0 = some (.iload 1, 1) := by decide +kernel
theorem c_258_1 : ax_code 258 1 = some (.i2l, 2) := by decide +kernel
theorem c_258_2 : ax_code 258 2 = some (.lconst 0, 3) := by decide +kernel
theorem c_258_3 : ax_code 258 3 = some (.iconst 1, 4) := by decide +kernel
theorem c_258_4 : ax_code 258 4 = some (.aload 0, 5) := by decide +kernel
theorem c_258_5 : ax_code 258 5 = some (.getfield 712, 8) := by decide +kernel
theorem c_258_8 : ax_code 258 8 = some (.iconst 0, 9) := by decide +kernel
theorem c_258_9 : ax_code 258 9 = some (.iaload, 10) := by decide +kernel
theorem c_258_10 : ax_code 258 10 = some (.ishl, 11) := by decide +kernel
theorem c_258_11 : ax_code 258 11 = some (.iconst 1, 12) := by decide +kernel
theorem c_258_12 : ax_code 258 12 = some (.isub, 13) := by decide +kernel
theorem c_258_13 : ax_code 258 13 = some (.i2l, 14) := by decide +kernel
theorem c_258_14 : ax_code 258 14 = some (.invokestatic 198, 17) := by decide +kernel
theorem c_258_17 : ax_code 258 17 = some (.ifCond .eq 37, 20) := by decide +kernel
theorem c_258_20 : ax_code 258 20 = some (.iload 1, 21) := by decide +kernel
theorem c_258_21 : ax_code 258 21 = some (.invokestatic 240, 24) := by decide +kernel
theorem c_258_24 : ax_code 258 24 = some (.i2l, 25) := by decide +kernel
theorem c_258_25 : ax_code 258 25 = some (.ldc2_w 8, 28) := by decide +kernel
theorem c_258_28 : ax_code 258 28 = some (.ldc2_w 25, 31) := by decide +kernel
theorem c_258_31 : ax_code 258 31 = some (.invokestatic 198, 34) := by decide +kernel
theorem c_258_34 : ax_code 258 34 = some (.ifCond .ne 39, 37) := by decide +kernel
theorem c_258_37 : ax_code 258 37 = some (.iconst 0, 38) := by decide +kernel
theorem c_258_38 : ax_code 258 38 = some (.ireturn, 39) := by decide +kernel
theorem c_258_39 : ax_code 258 39 = some (.aload 0, 40) := by decide +kernel
theorem c_258_40 : ax_code 258 40 = some (.iconst 0, 41) := by decide +kernel
theorem c_258_41 : ax_code 258 41 = some (.putfield 729, 44) := by decide +kernel
theorem c_258_44 : ax_code 258 44 = some (.iconst 0, 45) := by decide +kernel
theorem c_258_45 : ax_code 258 45 = some (.istore 2, 46) := by decide +kernel
theorem c_258_46 : ax_code 258 46 = some (.iload 2, 47) := by decide +kernel
theorem c_258_47 : ax_code 258 47 = some (.aload 0, 48) := by decide +kernel
theorem c_258_48 : ax_code 258 48 = some (.getfield 712, 51) := by decide +kernel
theorem c_258_51 : ax_code 258 51 = some (.iconst 0, 52) := by decide +kernel
theorem c_258_52 : ax_code 258 52 = some (.iaload, 53) := by decide +kernel
theorem c_258_53 : ax_code 258 53 = some (.if_icmp .ge 91, 56) := by decide +kernel
theorem c_258_56 : ax_code 258 56 = some (.iload 1, 57) := by decide +kernel
theorem c_258_57 : ax_code 258 57 = some (.iload 2, 58) := by decide +kernel
theorem c_258_58 : ax_code 258 58 = some (.ishr, 59) := by decide +kernel
theorem c_258_59 : ax_code 258 59 = some (.iconst 1, 60) := by decide +kernel
theorem c_258_60 : ax_code 258 60 = some (.iand, 61) := by decide +kernel
theorem c_258_61 : ax_code 258 61 = some (.iconst 1, 62) := by decide +kernel
theorem c_258_62 : ax_code 258 62 = some (.if_icmp .ne 85, 65) := by decide +kernel
theorem c_258_65 : ax_code 258 65 = some (.aload 0, 66) := by decide +kernel
theorem c_258_66 : ax_code 258 66 = some (.getfield 728, 69) := by decide +kernel
theorem c_258_69 : ax_code 258 69 = some (.aload 0, 70) := by decide +kernel
theorem c_258_70 : ax_code 258 70 = some (.getfield 729, 73) := by decide +kernel
theorem c_258_73 : ax_code 258 73 = some (.iload 2, 74) := by decide +kernel
theorem c_258_74 : ax_code 258 74 = some (.iastore, 75) := by decide +kernel
theorem c_258_75 : ax_code 258 75 = some (.aload 0, 76) := by decide +kernel
theorem c_258_76 : ax_code 258 76 = some (.dup, 77) := by decide +kernel
theorem c_258_77 : ax_code 258 77 = some (.getfield 729, 80) := by decide +kernel
theorem c_258_80 : ax_code 258 80 = some (.iconst 1, 81) := by decide +kernel
theorem c_258_81 : ax_code 258 81 = some (.iadd, 82) := by decide +kernel
theorem c_258_82 : ax_code 258 82 = some (.putfield 729, 85) := by decide +kernel
theorem c_258_85 : ax_code 258 85 = some (.iinc 2 (1), 88) := by decide +kernel
theorem c_258_88 : ax_code 258 88 = some (.goto 46, 91) := by decide +kernel
theorem c_258_91 : ax_code 258 91 = some (.iconst 1, 92) := by decide +kernel
theorem c_258_92 : ax_code 258 92 = some (.ireturn, 93) := by decide +kernel
theorem c_259_0 : ax_code 259 0 = some (.iconst 1, 1) := by decide +kernel
theorem c_259_1 : ax_code 259 1 = some (.istore 1, 2) := by decide +kernel
theorem c_259_2 : ax_code 259 2 = some (.iconst 2, 3) := by decide +kernel
theorem c_259_3 : ax_code 259 3 = some (.istore 2, 4) := by decide +kernel
theorem c_259_4 : ax_code 259 4 = some (.iload 2, 5) := by decide +kernel
theorem c_259_5 : ax_code 259 5 = some (.aload 0, 6) := by decide +kernel
theorem c_259_6 : ax_code 259 6 = some (.getfield 729, 9) := by decide +kernel
theorem c_259_9 : ax_code 259 9 = some (.if_icmp .ge 26, 12) := by decide +kernel
theorem c_259_12 : ax_code 259 12 = some (.iload 1, 13) := by decide +kernel
theorem c_259_13 : ax_code 259 13 = some (.iconst 2, 14) := by decide +kernel
theorem c_259_14 : ax_code 259 14 = some (.iload 2, 15) := by decide +kernel
theorem c_259_15 : ax_code 259 15 = some (.imul, 16) := by decide +kernel
theorem c_259_16 : ax_code 259 16 = some (.iconst 1, 17) := by decide +kernel
theorem c_259_17 : ax_code 259 17 = some (.isub, 18) := by decide +kernel
theorem c_259_18 : ax_code 259 18 = some (.imul, 19) := by decide +kernel
theorem c_259_19 : ax_code 259 19 = some (.istore 1, 20) := by decide +kernel
theorem c_259_20 : ax_code 259 20 = some (.iinc 2 (1), 23) := by decide +kernel
theorem c_259_23 : ax_code 259 23 = some (.goto 4, 26) := by decide +kernel
theorem c_259_26 : ax_code 259 26 = some (.iload 1, 27) := by decide +kernel
theorem c_259_27 : ax_code 259 27 = some (.ireturn, 28) := by decide +kernel
theorem c_260_0 : ax_code 260 0 = some (.aload 0, 1) := by decide +kernel
theorem c_260_1 : ax_code 260 1 = some (.invokevirtual 259, 4) := by decide +kernel
theorem c_260_4 : ax_code 260 4 = some (.istore 1, 5) := by decide +kernel
theorem c_260_5 : ax_code 260 5 = some (.aload 0, 6) := by decide +kernel
theorem c_260_6 : ax_code 260 6 = some (.iconst (-1000000), 8) := by decide +kernel
theorem c_260_8 : ax_code 260 8 = some (.putfield 738, 11) := by decide +kernel
theorem c_260_11 : ax_code 260 11 = some (.aload 0, 12) := by decide +kernel
theorem c_260_12 : ax_code 260 12 = some (.iconst 0, 13) := by decide +kernel
theorem c_260_13 : ax_code 260 13 = some (.putfield 739, 16) := by decide +kernel
theorem c_260_16 : ax_code 260 16 = some (.iconst 0, 17) := by decide +kernel
theorem c_260_17 : ax_code 260 17 = some (.istore 2, 18) := by decide +kernel
theorem c_260_18 : ax_code 260 18 = some (.iload 2, 19) := by decide +kernel
theorem c_260_19 : ax_code 260 19 = some (.iload 1, 20) := by decide +kernel
theorem c_260_20 : ax_code 260 20 = some (.if_icmp .ge 130, 23) := by decide +kernel
theorem c_260_23 : ax_code 260 23 = some (.aload 0, 24) := by decide +kernel
theorem c_260_24 : ax_code 260 24 = some (.iload 2, 25) := by decide +kernel
theorem c_260_25 : ax_code 260 25 = some (.invokevirtual 261, 28) := by decide +kernel
theorem c_260_28 : ax_code 260 28 = some (.aload 0, 29) := by decide +kernel
theorem c_260_29 : ax_code 260 29 = some (.invokevirtual 263, 32) := by decide +kernel
theorem c_260_32 : ax_code 260 32 = some (.istore 3, 33) := by decide +kernel
theorem c_260_33 : ax_code 260 33 = some (.aload 0, 34) := by decide +kernel
theorem c_260_34 : ax_code 260 34 = some (.getfield 738, 37) := by decide +kernel
theorem c_260_37 : ax_code 260 37 = some (.iconst (-1000000), 39) := by decide +kernel
theorem c_260_39 : ax_code 260 39 = some (.if_icmp .eq 50, 42) := by decide +kernel
theorem c_260_42 : ax_code 260 42 = some (.iload 3, 43) := by decide +kernel
theorem c_260_43 : ax_code 260 43 = some (.aload 0, 44) := by decide +kernel
theorem c_260_44 : ax_code 260 44 = some (.getfield 738, 47) := by decide +kernel
theorem c_260_47 : ax_code 260 47 = some (.if_icmp .ge 83, 50) := by decide +kernel
theorem c_260_50 : ax_code 260 50 = some (.iconst 0, 51) := by decide +kernel
theorem c_260_51 : ax_code 260 51 = some (.istore 4, 53) := by decide +kernel
theorem c_260_53 : ax_code 260 53 = some (.iload 4, 55) := by decide +kernel
theorem c_260_55 : ax_code 260 55 = some (.iload 2, 56) := by decide +kernel
theorem c_260_56 : ax_code 260 56 = some (.if_icmp .ge 73, 59) := by decide +kernel
theorem c_260_59 : ax_code 260 59 = some (.aload 0, 60) := by decide +kernel
theorem c_260_60 : ax_code 260 60 = some (.getfield 740, 63) := by decide +kernel
theorem c_260_63 : ax_code 260 63 = some (.iload 4, 65) := by decide +kernel
theorem c_260_65 : ax_code 260 65 = some (.iconst 0, 66) := by decide +kernel
theorem c_260_66 : ax_code 260 66 = some (.bastore, 67) := by decide +kernel
theorem c_260_67 : ax_code 260 67 = some (.iinc 4 (1), 70) := by decide +kernel
theorem c_260_70 : ax_code 260 70 = some (.goto 53, 73) := by decide +kernel
theorem c_260_73 : ax_code 260 73 = some (.aload 0, 74) := by decide +kernel
theorem c_260_74 : ax_code 260 74 = some (.iload 3, 75) := by decide +kernel
theorem c_260_75 : ax_code 260 75 = some (.putfield 738, 78) := by decide +kernel
theorem c_260_78 : ax_code 260 78 = some (.aload 0, 79) := by decide +kernel
theorem c_260_79 : ax_code 260 79 = some (.iconst 0, 80) := by decide +kernel
theorem c_260_80 : ax_code 260 80 = some (.putfield 739, 83) := by decide +kernel
theorem c_260_83 : ax_code 260 83 = some (.aload 0, 84) := by decide +kernel
theorem c_260_84 : ax_code 260 84 = some (.getfield 740, 87) := by decide +kernel
theorem c_260_87 : ax_code 260 87 = some (.iload 2, 88) := by decide +kernel
theorem c_260_88 : ax_code 260 88 = some (.iload 3, 89) := by decide +kernel
theorem c_260_89 : ax_code 260 89 = some (.aload 0, 90) := by decide +kernel
theorem c_260_90 : ax_code 260 90 = some (.getfield 738, 93) := by decide +kernel
theorem c_260_93 : ax_code 260 93 = some (.if_icmp .ne 100, 96) := by decide +kernel
theorem c_260_96 : ax_code 260 96 = some (.iconst 1, 97) := by decide +kernel
theorem c_260_97 : ax_code 260 97 = some (.goto 101, 100) := by decide +kernel
theorem c_260_100 : ax_code 260 100 = some (.iconst 0, 101) := by decide +kernel
theorem c_260_101 : ax_code 260 101 = some (.bastore, 102) := by decide +kernel
theorem c_260_102 : ax_code 260 102 = some (.aload 0, 103) := by decide +kernel
theorem c_260_103 : ax_code 260 103 = some (.dup, 104) := by decide +kernel
theorem c_260_104 : ax_code 260 104 = some (.getfield 739, 107) := by decide +kernel
theorem c_260_107 : ax_code 260 107 = some (.iload 3, 108) := by decide +kernel
theorem c_260_108 : ax_code 260 108 = some (.aload 0, 109) := by decide +kernel
theorem c_260_109 : ax_code 260 109 = some (.getfield 738, 112) := by decide +kernel
theorem c_260_112 : ax_code 260 112 = some (.if_icmp .ne 119, 115) := by decide +kernel
theorem c_260_115 : ax_code 260 115 = some (.iconst 1, 116) := by decide +kernel
theorem c_260_116 : ax_code 260 116 = some (.goto 120, 119) := by decide +kernel
theorem c_260_119 : ax_code 260 119 = some (.iconst 0, 120) := by decide +kernel
theorem c_260_120 : ax_code 260 120 = some (.iadd, 121) := by decide +kernel
theorem c_260_121 : ax_code 260 121 = some (.putfield 739, 124) := by decide +kernel
theorem c_260_124 : ax_code 260 124 = some (.iinc 2 (1), 127) := by decide +kernel
theorem c_260_127 : ax_code 260 127 = some (.goto 18, 130) := by decide +kernel
theorem c_260_130 : ax_code 260 130 = some (.return_, 131) := by decide +kernel
theorem c_261_0 : ax_code 261 0 = some (.aload 0, 1) := by decide +kernel
theorem c_261_1 : ax_code 261 1 = some (.getfield 730, 4) := by decide +kernel
theorem c_261_4 : ax_code 261 4 = some (.iconst 0, 5) := by decide +kernel
theorem c_261_5 : ax_code 261 5 = some (.iconst (-1), 6) := by decide +kernel
theorem c_261_6 : ax_code 261 6 = some (.iastore, 7) := by decide +kernel
theorem c_261_7 : ax_code 261 7 = some (.aload 0, 8) := by decide +kernel
theorem c_261_8 : ax_code 261 8 = some (.iconst 0, 9) := by decide +kernel
theorem c_261_9 : ax_code 261 9 = some (.putfield 733, 12) := by decide +kernel
theorem c_261_12 : ax_code 261 12 = some (.aload 0, 13) := by decide +kernel
theorem c_261_13 : ax_code 261 13 = some (.iconst 1, 14) := by decide +kernel
theorem c_261_14 : ax_code 261 14 = some (.iconst 6, 16) := by decide +kernel
theorem c_261_16 : ax_code 261 16 = some (.iconst 0, 17) := by decide +kernel
theorem c_261_17 : ax_code 261 17 = some (.invokevirtual 262, 20) := by decide +kernel
theorem c_261_20 : ax_code 261 20 = some (.iload 1, 21) := by decide +kernel
theorem c_261_21 : ax_code 261 21 = some (.istore 2, 22) := by decide +kernel
theorem c_261_22 : ax_code 261 22 = some (.iconst 2, 23) := by decide +kernel
theorem c_261_23 : ax_code 261 23 = some (.istore 3, 24) := by decide +kernel
theorem c_261_24 : ax_code 261 24 = some (.iload 3, 25) := by decide +kernel
theorem c_261_25 : ax_code 261 25 = some (.aload 0, 26) := by decide +kernel
theorem c_261_26 : ax_code 261 26 = some (.getfield 729, 29) := by decide +kernel
theorem c_261_29 : ax_code 261 29 = some (.if_icmp .ge 81, 32) := by decide +kernel
theorem c_261_32 : ax_code 261 32 = some (.iload 2, 33) := by decide +kernel
theorem c_261_33 : ax_code 261 33 = some (.iconst 2, 34) := by decide +kernel
theorem c_261_34 : ax_code 261 34 = some (.iload 3, 35) := by decide +kernel
theorem c_261_35 : ax_code 261 35 = some (.imul, 36) := by decide +kernel
theorem c_261_36 : ax_code 261 36 = some (.iconst 1, 37) := by decide +kernel
theorem c_261_37 : ax_code 261 37 = some (.isub, 38) := by decide +kernel
theorem c_261_38 : ax_code 261 38 = some (.irem, 39) := by decide +kernel
theorem c_261_39 : ax_code 261 39 = some (.istore 4, 41) := by decide +kernel
theorem c_261_41 : ax_code 261 41 = some (.iload 2, 42) := by decide +kernel
theorem c_261_42 : ax_code 261 42 = some (.iconst 2, 43) := by decide +kernel
theorem c_261_43 : ax_code 261 43 = some (.iload 3, 44) := by decide +kernel
theorem c_261_44 : ax_code 261 44 = some (.imul, 45) := by decide +kernel
theorem c_261_45 : ax_code 261 45 = some (.iconst 1, 46) := by decide +kernel
theorem c_261_46 : ax_code 261 46 = some (.isub, 47) := by decide +kernel
theorem c_261_47 : ax_code 261 47 = some (.idiv, 48) := by decide +kernel
theorem c_261_48 : ax_code 261 48 = some (.istore 2, 49) := by decide +kernel
theorem c_261_49 : ax_code 261 49 = some (.aload 0, 50) := by decide +kernel
theorem c_261_50 : ax_code 261 50 = some (.iload 3, 51) := by decide +kernel
theorem c_261_51 : ax_code 261 51 = some (.iconst 5, 52) := by decide +kernel
theorem c_261_52 : ax_code 261 52 = some (.iload 3, 53) := by decide +kernel
theorem c_261_53 : ax_code 261 53 = some (.iadd, 54) := by decide +kernel
theorem c_261_54 : ax_code 261 54 = some (.iload 4, 56) := by decide +kernel
theorem c_261_56 : ax_code 261 56 = some (.iload 3, 57) := by decide +kernel
theorem c_261_57 : ax_code 261 57 = some (.if_icmp .ge 65, 60) := by decide +kernel
theorem c_261_60 : ax_code 261 60 = some (.iload 4, 62) := by decide +kernel
theorem c_261_62 : ax_code 261 62 = some (.goto 72, 65) := by decide +kernel
theorem c_261_65 : ax_code 261 65 = some (.iconst 6, 67) := by decide +kernel
theorem c_261_67 : ax_code 261 67 = some (.iload 4, 69) := by decide +kernel
theorem c_261_69 : ax_code 261 69 = some (.iadd, 70) := by decide +kernel
theorem c_261_70 : ax_code 261 70 = some (.iload 3, 71) := by decide +kernel
theorem c_261_71 : ax_code 261 71 = some (.isub, 72) := by decide +kernel
theorem c_261_72 : ax_code 261 72 = some (.invokevirtual 262, 75) := by decide +kernel
theorem c_261_75 : ax_code 261 75 = some (.iinc 3 (1), 78) := by decide +kernel
theorem c_261_78 : ax_code 261 78 = some (.goto 24, 81) := by decide +kernel
theorem c_261_81 : ax_code 261 81 = some (.iconst 0, 82) := by decide +kernel
theorem c_261_82 : ax_code 261 82 = some (.istore 3, 83) := by decide +kernel
theorem c_261_83 : ax_code 261 83 = some (.iload 3, 84) := by decide +kernel
theorem c_261_84 : ax_code 261 84 = some (.iconst 11, 86) := by decide +kernel
theorem c_261_86 : ax_code 261 86 = some (.if_icmp .ge 102, 89) := by decide +kernel
theorem c_261_89 : ax_code 261 89 = some (.aload 0, 90) := by decide +kernel
theorem c_261_90 : ax_code 261 90 = some (.getfield 734, 93) := by decide +kernel
theorem c_261_93 : ax_code 261 93 = some (.iload 3, 94) := by decide +kernel
theorem c_261_94 : ax_code 261 94 = some (.iconst 0, 95) := by decide +kernel
theorem c_261_95 : ax_code 261 95 = some (.iastore, 96) := by decide +kernel
theorem c_261_96 : ax_code 261 96 = some (.iinc 3 (1), 99) := by decide +kernel
theorem c_261_99 : ax_code 261 99 = some (.goto 83, 102) := by decide +kernel
theorem c_261_102 : ax_code 261 102 = some (.iconst 0, 103) := by decide +kernel
theorem c_261_103 : ax_code 261 103 = some (.istore 3, 104) := by decide +kernel
theorem c_261_104 : ax_code 261 104 = some (.iload 3, 105) := by decide +kernel
theorem c_261_105 : ax_code 261 105 = some (.aload 0, 106) := by decide +kernel
theorem c_261_106 : ax_code 261 106 = some (.getfield 729, 109) := by decide +kernel
theorem c_261_109 : ax_code 261 109 = some (.if_icmp .ge 156, 112) := by decide +kernel
theorem c_261_112 : ax_code 261 112 = some (.iload 3, 113) := by decide +kernel
theorem c_261_113 : ax_code 261 113 = some (.istore 4, 115) := by decide +kernel
theorem c_261_115 : ax_code 261 115 = some (.iload 4, 117) := by decide +kernel
theorem c_261_117 : ax_code 261 117 = some (.ifCond .lt 150, 120) := by decide +kernel
theorem c_261_120 : ax_code 261 120 = some (.aload 0, 121) := by decide +kernel
theorem c_261_121 : ax_code 261 121 = some (.getfield 734, 124) := by decide +kernel
theorem c_261_124 : ax_code 261 124 = some (.iload 4, 126) := by decide +kernel
theorem c_261_126 : ax_code 261 126 = some (.dup2, 127) := by decide +kernel
theorem c_261_127 : ax_code 261 127 = some (.iaload, 128) := by decide +kernel
theorem c_261_128 : ax_code 261 128 = some (.iconst 1, 129) := by decide +kernel
theorem c_261_129 : ax_code 261 129 = some (.aload 0, 130) := by decide +kernel
theorem c_261_130 : ax_code 261 130 = some (.getfield 728, 133) := by decide +kernel
theorem c_261_133 : ax_code 261 133 = some (.iload 3, 134) := by decide +kernel
theorem c_261_134 : ax_code 261 134 = some (.iaload, 135) := by decide +kernel
theorem c_261_135 : ax_code 261 135 = some (.ishl, 136) := by decide +kernel
theorem c_261_136 : ax_code 261 136 = some (.ior, 137) := by decide +kernel
theorem c_261_137 : ax_code 261 137 = some (.iastore, 138) := by decide +kernel
theorem c_261_138 : ax_code 261 138 = some (.aload 0, 139) := by decide +kernel
theorem c_261_139 : ax_code 261 139 = some (.getfield 730, 142) := by decide +kernel
theorem c_261_142 : ax_code 261 142 = some (.iload 4, 144) := by decide +kernel
theorem c_261_144 : ax_code 261 144 = some (.iaload, 145) := by decide +kernel
theorem c_261_145 : ax_code 261 145 = some (.istore 4, 147) := by decide +kernel
theorem c_261_147 : ax_code 261 147 = some (.goto 115, 150) := by decide +kernel
theorem c_261_150 : ax_code 261 150 = some (.iinc 3 (1), 153) := by decide +kernel
theorem c_261_153 : ax_code 261 153 = some (.goto 104, 156) := by decide +kernel
theorem c_261_156 : ax_code 261 156 = some (.return_, 157) := by decide +kernel
theorem c_262_0 : ax_code 262 0 = some (.aload 0, 1) := by decide +kernel
theorem c_262_1 : ax_code 262 1 = some (.getfield 730, 4) := by decide +kernel
theorem c_262_4 : ax_code 262 4 = some (.iload 3, 5) := by decide +kernel
theorem c_262_5 : ax_code 262 5 = some (.iaload, 6) := by decide +kernel
theorem c_262_6 : ax_code 262 6 = some (.istore 4, 8) := by decide +kernel
theorem c_262_8 : ax_code 262 8 = some (.aload 0, 9) := by decide +kernel
theorem c_262_9 : ax_code 262 9 = some (.getfield 730, 12) := by decide +kernel
theorem c_262_12 : ax_code 262 12 = some (.iload 2, 13) := by decide +kernel
theorem c_262_13 : ax_code 262 13 = some (.iload 4, 15) := by decide +kernel
theorem c_262_15 : ax_code 262 15 = some (.iastore, 16) := by decide +kernel
theorem c_262_16 : ax_code 262 16 = some (.aload 0, 17) := by decide +kernel
theorem c_262_17 : ax_code 262 17 = some (.getfield 731, 20) := by decide +kernel
theorem c_262_20 : ax_code 262 20 = some (.iload 2, 21) := by decide +kernel
theorem c_262_21 : ax_code 262 21 = some (.iload 3, 22) := by decide +kernel
theorem c_262_22 : ax_code 262 22 = some (.iastore, 23) := by decide +kernel
theorem c_262_23 : ax_code 262 23 = some (.aload 0, 24) := by decide +kernel
theorem c_262_24 : ax_code 262 24 = some (.getfield 732, 27) := by decide +kernel
theorem c_262_27 : ax_code 262 27 = some (.iload 2, 28) := by decide +kernel
theorem c_262_28 : ax_code 262 28 = some (.iload 1, 29) := by decide +kernel
theorem c_262_29 : ax_code 262 29 = some (.iastore, 30) := by decide +kernel
theorem c_262_30 : ax_code 262 30 = some (.aload 0, 31) := by decide +kernel
theorem c_262_31 : ax_code 262 31 = some (.getfield 730, 34) := by decide +kernel
theorem c_262_34 : ax_code 262 34 = some (.iload 3, 35) := by decide +kernel
theorem c_262_35 : ax_code 262 35 = some (.iload 2, 36) := by decide +kernel
theorem c_262_36 : ax_code 262 36 = some (.iastore, 37) := by decide +kernel
theorem c_262_37 : ax_code 262 37 = some (.aload 0, 38) := by decide +kernel
theorem c_262_38 : ax_code 262 38 = some (.getfield 730, 41) := by decide +kernel
theorem c_262_41 : ax_code 262 41 = some (.iload 1, 42) := by decide +kernel
theorem c_262_42 : ax_code 262 42 = some (.iload 2, 43) := by decide +kernel
theorem c_262_43 : ax_code 262 43 = some (.iastore, 44) := by decide +kernel
theorem c_262_44 : ax_code 262 44 = some (.iload 4, 46) := by decide +kernel
theorem c_262_46 : ax_code 262 46 = some (.ifCond .ge 57, 49) := by decide +kernel
theorem c_262_49 : ax_code 262 49 = some (.aload 0, 50) := by decide +kernel
theorem c_262_50 : ax_code 262 50 = some (.iload 2, 51) := by decide +kernel
theorem c_262_51 : ax_code 262 51 = some (.putfield 733, 54) := by decide +kernel
theorem c_262_54 : ax_code 262 54 = some (.goto 87, 57) := by decide +kernel
theorem c_262_57 : ax_code 262 57 = some (.aload 0, 58) := by decide +kernel
theorem c_262_58 : ax_code 262 58 = some (.getfield 731, 61) := by decide +kernel
theorem c_262_61 : ax_code 262 61 = some (.iload 4, 63) := by decide +kernel
theorem c_262_63 : ax_code 262 63 = some (.iaload, 64) := by decide +kernel
theorem c_262_64 : ax_code 262 64 = some (.iload 3, 65) := by decide +kernel
theorem c_262_65 : ax_code 262 65 = some (.if_icmp .ne 79, 68) := by decide +kernel
theorem c_262_68 : ax_code 262 68 = some (.aload 0, 69) := by decide +kernel
theorem c_262_69 : ax_code 262 69 = some (.getfield 731, 72) := by decide +kernel
theorem c_262_72 : ax_code 262 72 = some (.iload 4, 74) := by decide +kernel
theorem c_262_74 : ax_code 262 74 = some (.iload 2, 75) := by decide +kernel
theorem c_262_75 : ax_code 262 75 = some (.iastore, 76) := by decide +kernel
theorem c_262_76 : ax_code 262 76 = some (.goto 87, 79) := by decide +kernel
theorem c_262_79 : ax_code 262 79 = some (.aload 0, 80) := by decide +kernel
theorem c_262_80 : ax_code 262 80 = some (.getfield 732, 83) := by decide +kernel
theorem c_262_83 : ax_code 262 83 = some (.iload 4, 85) := by decide +kernel
theorem c_262_85 : ax_code 262 85 = some (.iload 2, 86) := by decide +kernel
theorem c_262_86 : ax_code 262 86 = some (.iastore, 87) := by decide +kernel
theorem c_262_87 : ax_code 262 87 = some (.return_, 88) := by decide +kernel
theorem c_263_0 : ax_code 263 0 = some (.iconst 0, 1) := by decide +kernel
theorem c_263_1 : ax_code 263 1 = some (.istore 1, 2) := by decide +kernel
theorem c_263_2 : ax_code 263 2 = some (.iconst 0, 3) := by decide +kernel
theorem c_263_3 : ax_code 263 3 = some (.istore 2, 4) := by decide +kernel
theorem c_263_4 : ax_code 263 4 = some (.iload 2, 5) := by decide +kernel
theorem c_263_5 : ax_code 263 5 = some (.iconst 11, 7) := by decide +kernel
theorem c_263_7 : ax_code 263 7 = some (.if_icmp .ge 24, 10) := by decide +kernel
theorem c_263_10 : ax_code 263 10 = some (.iload 1, 11) := by decide +kernel
theorem c_263_11 : ax_code 263 11 = some (.aload 0, 12) := by decide +kernel
theorem c_263_12 : ax_code 263 12 = some (.iload 2, 13) := by decide +kernel
theorem c_263_13 : ax_code 263 13 = some (.invokevirtual 264, 16) := by decide +kernel
theorem c_263_16 : ax_code 263 16 = some (.iadd, 17) := by decide +kernel
theorem c_263_17 : ax_code 263 17 = some (.istore 1, 18) := by decide +kernel
theorem c_263_18 : ax_code 263 18 = some (.iinc 2 (1), 21) := by decide +kernel
theorem c_263_21 : ax_code 263 21 = some (.goto 4, 24) := by decide +kernel
theorem c_263_24 : ax_code 263 24 = some (.iload 1, 25) := by decide +kernel
theorem c_263_25 : ax_code 263 25 = some (.ireturn, 26) := by decide +kernel
theorem c_264_0 : ax_code 264 0 = some (.aload 0, 1) := by decide +kernel
theorem c_264_1 : ax_code 264 1 = some (.iload 1, 2) := by decide +kernel
theorem c_264_2 : ax_code 264 2 = some (.invokevirtual 265, 5) := by decide +kernel
theorem c_264_5 : ax_code 264 5 = some (.aload 0, 6) := by decide +kernel
theorem c_264_6 : ax_code 264 6 = some (.getfield 737, 9) := by decide +kernel
theorem c_264_9 : ax_code 264 9 = some (.ifCond .ne 14, 12) := by decide +kernel
theorem c_264_12 : ax_code 264 12 = some (.iconst 0, 13) := by decide +kernel
theorem c_264_13 : ax_code 264 13 = some (.ireturn, 14) := by decide +kernel
theorem c_264_14 : ax_code 264 14 = some (.iconst 0, 15) := by decide +kernel
theorem c_264_15 : ax_code 264 15 = some (.istore 2, 16) := by decide +kernel
theorem c_264_16 : ax_code 264 16 = some (.iload 2, 17) := by decide +kernel
theorem c_264_17 : ax_code 264 17 = some (.aload 0, 18) := by decide +kernel
theorem c_264_18 : ax_code 264 18 = some (.getfield 729, 21) := by decide +kernel
theorem c_264_21 : ax_code 264 21 = some (.if_icmp .ge 112, 24) := by decide +kernel
theorem c_264_24 : ax_code 264 24 = some (.aload 0, 25) := by decide +kernel
theorem c_264_25 : ax_code 264 25 = some (.getfield 735, 28) := by decide +kernel
theorem c_264_28 : ax_code 264 28 = some (.iload 2, 29) := by decide +kernel
theorem c_264_29 : ax_code 264 29 = some (.iconst 1, 30) := by decide +kernel
theorem c_264_30 : ax_code 264 30 = some (.aload 0, 31) := by decide +kernel
theorem c_264_31 : ax_code 264 31 = some (.getfield 737, 34) := by decide +kernel
theorem c_264_34 : ax_code 264 34 = some (.ishl, 35) := by decide +kernel
theorem c_264_35 : ax_code 264 35 = some (.iconst 1, 36) := by decide +kernel
theorem c_264_36 : ax_code 264 36 = some (.isub, 37) := by decide +kernel
theorem c_264_37 : ax_code 264 37 = some (.iastore, 38) := by decide +kernel
theorem c_264_38 : ax_code 264 38 = some (.iconst 0, 39) := by decide +kernel
theorem c_264_39 : ax_code 264 39 = some (.istore 3, 40) := by decide +kernel
theorem c_264_40 : ax_code 264 40 = some (.iload 3, 41) := by decide +kernel
theorem c_264_41 : ax_code 264 41 = some (.aload 0, 42) := by decide +kernel
theorem c_264_42 : ax_code 264 42 = some (.getfield 737, 45) := by decide +kernel
theorem c_264_45 : ax_code 264 45 = some (.if_icmp .ge 106, 48) := by decide +kernel
theorem c_264_48 : ax_code 264 48 = some (.aload 0, 49) := by decide +kernel
theorem c_264_49 : ax_code 264 49 = some (.getfield 735, 52) := by decide +kernel
theorem c_264_52 : ax_code 264 52 = some (.iload 2, 53) := by decide +kernel
theorem c_264_53 : ax_code 264 53 = some (.aload 0, 54) := by decide +kernel
theorem c_264_54 : ax_code 264 54 = some (.aload 0, 55) := by decide +kernel
theorem c_264_55 : ax_code 264 55 = some (.getfield 728, 58) := by decide +kernel
theorem c_264_58 : ax_code 264 58 = some (.iload 2, 59) := by decide +kernel
theorem c_264_59 : ax_code 264 59 = some (.iaload, 60) := by decide +kernel
theorem c_264_60 : ax_code 264 60 = some (.iload 1, 61) := by decide +kernel
theorem c_264_61 : ax_code 264 61 = some (.invokevirtual 234, 64) := by decide +kernel
theorem c_264_64 : ax_code 264 64 = some (.ifCond .eq 93, 67) := by decide +kernel
theorem c_264_67 : ax_code 264 67 = some (.aload 0, 68) := by decide +kernel
theorem c_264_68 : ax_code 264 68 = some (.aload 0, 69) := by decide +kernel
theorem c_264_69 : ax_code 264 69 = some (.getfield 728, 72) := by decide +kernel
theorem c_264_72 : ax_code 264 72 = some (.iload 2, 73) := by decide +kernel
theorem c_264_73 : ax_code 264 73 = some (.iaload, 74) := by decide +kernel
theorem c_264_74 : ax_code 264 74 = some (.iload 1, 75) := by decide +kernel
theorem c_264_75 : ax_code 264 75 = some (.invokevirtual 235, 78) := by decide +kernel
theorem c_264_78 : ax_code 264 78 = some (.aload 0, 79) := by decide +kernel
theorem c_264_79 : ax_code 264 79 = some (.getfield 736, 82) := by decide +kernel
theorem c_264_82 : ax_code 264 82 = some (.iload 3, 83) := by decide +kernel
theorem c_264_83 : ax_code 264 83 = some (.iaload, 84) := by decide +kernel
theorem c_264_84 : ax_code 264 84 = some (.if_icmp .ne 93, 87) := by decide +kernel
theorem c_264_87 : ax_code 264 87 = some (.iconst 1, 88) := by decide +kernel
theorem c_264_88 : ax_code 264 88 = some (.iload 3, 89) := by decide +kernel
theorem c_264_89 : ax_code 264 89 = some (.ishl, 90) := by decide +kernel
theorem c_264_90 : ax_code 264 90 = some (.goto 99, 93) := by decide +kernel
theorem c_264_93 : ax_code 264 93 = some (.aload 0, 94) := by decide +kernel
theorem c_264_94 : ax_code 264 94 = some (.getfield 735, 97) := by decide +kernel
theorem c_264_97 : ax_code 264 97 = some (.iload 2, 98) := by decide +kernel
theorem c_264_98 : ax_code 264 98 = some (.iaload, 99) := by decide +kernel
theorem c_264_99 : ax_code 264 99 = some (.iastore, 100) := by decide +kernel
theorem c_264_100 : ax_code 264 100 = some (.iinc 3 (1), 103) := by decide +kernel
theorem c_264_103 : ax_code 264 103 = some (.goto 40, 106) := by decide +kernel
theorem c_264_106 : ax_code 264 106 = some (.iinc 2 (1), 109) := by decide +kernel
theorem c_264_109 : ax_code 264 109 = some (.goto 16, 112) := by decide +kernel
theorem c_264_112 : ax_code 264 112 = some (.iconst 0, 113) := by decide +kernel
theorem c_264_113 : ax_code 264 113 = some (.istore 2, 114) := by decide +kernel
theorem c_264_114 : ax_code 264 114 = some (.iconst 2, 115) := by decide +kernel
theorem c_264_115 : ax_code 264 115 = some (.istore 3, 116) := by decide +kernel
theorem c_264_116 : ax_code 264 116 = some (.iload 3, 117) := by decide +kernel
theorem c_264_117 : ax_code 264 117 = some (.aload 0, 118) := by decide +kernel
theorem c_264_118 : ax_code 264 118 = some (.getfield 729, 121) := by decide +kernel
theorem c_264_121 : ax_code 264 121 = some (.if_icmp .gt 247, 124) := by decide +kernel
theorem c_264_124 : ax_code 264 124 = some (.iconst 6, 126) := by decide +kernel
theorem c_264_126 : ax_code 264 126 = some (.istore 4, 128) := by decide +kernel
theorem c_264_128 : ax_code 264 128 = some (.iload 4, 130) := by decide +kernel
theorem c_264_130 : ax_code 264 130 = some (.iconst 5, 131) := by decide +kernel
theorem c_264_131 : ax_code 264 131 = some (.aload 0, 132) := by decide +kernel
theorem c_264_132 : ax_code 264 132 = some (.getfield 729, 135) := by decide +kernel
theorem c_264_135 : ax_code 264 135 = some (.iadd, 136) := by decide +kernel
theorem c_264_136 : ax_code 264 136 = some (.if_icmp .ge 241, 139) := by decide +kernel
theorem c_264_139 : ax_code 264 139 = some (.aload 0, 140) := by decide +kernel
theorem c_264_140 : ax_code 264 140 = some (.getfield 734, 143) := by decide +kernel
theorem c_264_143 : ax_code 264 143 = some (.iload 4, 145) := by decide +kernel
theorem c_264_145 : ax_code 264 145 = some (.iaload, 146) := by decide +kernel
theorem c_264_146 : ax_code 264 146 = some (.invokestatic 240, 149) := by decide +kernel
theorem c_264_149 : ax_code 264 149 = some (.iload 3, 150) := by decide +kernel
theorem c_264_150 : ax_code 264 150 = some (.if_icmp .ne 235, 153) := by decide +kernel
theorem c_264_153 : ax_code 264 153 = some (.aload 0, 154) := by decide +kernel
theorem c_264_154 : ax_code 264 154 = some (.getfield 735, 157) := by decide +kernel
theorem c_264_157 : ax_code 264 157 = some (.aload 0, 158) := by decide +kernel
theorem c_264_158 : ax_code 264 158 = some (.getfield 731, 161) := by decide +kernel
theorem c_264_161 : ax_code 264 161 = some (.iload 4, 163) := by decide +kernel
theorem c_264_163 : ax_code 264 163 = some (.iaload, 164) := by decide +kernel
theorem c_264_164 : ax_code 264 164 = some (.iaload, 165) := by decide +kernel
theorem c_264_165 : ax_code 264 165 = some (.aload 0, 166) := by decide +kernel
theorem c_264_166 : ax_code 264 166 = some (.getfield 735, 169) := by decide +kernel
theorem c_264_169 : ax_code 264 169 = some (.aload 0, 170) := by decide +kernel
theorem c_264_170 : ax_code 264 170 = some (.getfield 732, 173) := by decide +kernel
theorem c_264_173 : ax_code 264 173 = some (.iload 4, 175) := by decide +kernel
theorem c_264_175 : ax_code 264 175 = some (.iaload, 176) := by decide +kernel
theorem c_264_176 : ax_code 264 176 = some (.iaload, 177) := by decide +kernel
theorem c_264_177 : ax_code 264 177 = some (.iand, 178) := by decide +kernel
theorem c_264_178 : ax_code 264 178 = some (.istore 5, 180) := by decide +kernel
theorem c_264_180 : ax_code 264 180 = some (.iload 2, 181) := by decide +kernel
theorem c_264_181 : ax_code 264 181 = some (.iload 5, 183) := by decide +kernel
theorem c_264_183 : ax_code 264 183 = some (.ifCond .ne 190, 186) := by decide +kernel
theorem c_264_186 : ax_code 264 186 = some (.iconst 1, 187) := by decide +kernel
theorem c_264_187 : ax_code 264 187 = some (.goto 191, 190) := by decide +kernel
theorem c_264_190 : ax_code 264 190 = some (.iconst 0, 191) := by decide +kernel
theorem c_264_191 : ax_code 264 191 = some (.iadd, 192) := by decide +kernel
theorem c_264_192 : ax_code 264 192 = some (.istore 2, 193) := by decide +kernel
theorem c_264_193 : ax_code 264 193 = some (.aload 0, 194) := by decide +kernel
theorem c_264_194 : ax_code 264 194 = some (.getfield 735, 197) := by decide +kernel
theorem c_264_197 : ax_code 264 197 = some (.iload 4, 199) := by decide +kernel
theorem c_264_199 : ax_code 264 199 = some (.iload 5, 201) := by decide +kernel
theorem c_264_201 : ax_code 264 201 = some (.ifCond .ne 232, 204) := by decide +kernel
theorem c_264_204 : ax_code 264 204 = some (.aload 0, 205) := by decide +kernel
theorem c_264_205 : ax_code 264 205 = some (.getfield 735, 208) := by decide +kernel
theorem c_264_208 : ax_code 264 208 = some (.aload 0, 209) := by decide +kernel
theorem c_264_209 : ax_code 264 209 = some (.getfield 731, 212) := by decide +kernel
theorem c_264_212 : ax_code 264 212 = some (.iload 4, 214) := by decide +kernel
theorem c_264_214 : ax_code 264 214 = some (.iaload, 215) := by decide +kernel
theorem c_264_215 : ax_code 264 215 = some (.iaload, 216) := by decide +kernel
theorem c_264_216 : ax_code 264 216 = some (.aload 0, 217) := by decide +kernel
theorem c_264_217 : ax_code 264 217 = some (.getfield 735, 220) := by decide +kernel
theorem c_264_220 : ax_code 264 220 = some (.aload 0, 221) := by decide +kernel
theorem c_264_221 : ax_code 264 221 = some (.getfield 732, 224) := by decide +kernel
theorem c_264_224 : ax_code 264 224 = some (.iload 4, 226) := by decide +kernel
theorem c_264_226 : ax_code 264 226 = some (.iaload, 227) := by decide +kernel
theorem c_264_227 : ax_code 264 227 = some (.iaload, 228) := by decide +kernel
theorem c_264_228 : ax_code 264 228 = some (.ior, 229) := by decide +kernel
theorem c_264_229 : ax_code 264 229 = some (.goto 234, 232) := by decide +kernel
theorem c_264_232 : ax_code 264 232 = some (.iload 5, 234) := by decide +kernel
theorem c_264_234 : ax_code 264 234 = some (.iastore, 235) := by decide +kernel
theorem c_264_235 : ax_code 264 235 = some (.iinc 4 (1), 238) := by decide +kernel
theorem c_264_238 : ax_code 264 238 = some (.goto 128, 241) := by decide +kernel
theorem c_264_241 : ax_code 264 241 = some (.iinc 3 (1), 244) := by decide +kernel
theorem c_264_244 : ax_code 264 244 = some (.goto 116, 247) := by decide +kernel
theorem c_264_247 : ax_code 264 247 = some (.iload 2, 248) := by decide +kernel
theorem c_264_248 : ax_code 264 248 = some (.ireturn, 249) := by decide +kernel
theorem c_265_0 : ax_code 265 0 = some (.aload 0, 1) := by decide +kernel
theorem c_265_1 : ax_code 265 1 = some (.iconst 0, 2) := by decide +kernel
theorem c_265_2 : ax_code 265 2 = some (.putfield 737, 5) := by decide +kernel
theorem c_265_5 : ax_code 265 5 = some (.iconst (-1), 6) := by decide +kernel
theorem c_265_6 : ax_code 265 6 = some (.istore 2, 7) := by decide +kernel
theorem c_265_7 : ax_code 265 7 = some (.iconst 1, 8) := by decide +kernel
theorem c_265_8 : ax_code 265 8 = some (.istore 3, 9) := by decide +kernel
theorem c_265_9 : ax_code 265 9 = some (.iload 3, 10) := by decide +kernel
theorem c_265_10 : ax_code 265 10 = some (.ifCond .eq 137, 13) := by decide +kernel
theorem c_265_13 : ax_code 265 13 = some (.iconst (-1000000), 15) := by decide +kernel
theorem c_265_15 : ax_code 265 15 = some (.istore 4, 17) := by decide +kernel
theorem c_265_17 : ax_code 265 17 = some (.iconst 0, 18) := by decide +kernel
theorem c_265_18 : ax_code 265 18 = some (.istore 5, 20) := by decide +kernel
theorem c_265_20 : ax_code 265 20 = some (.iload 5, 22) := by decide +kernel
theorem c_265_22 : ax_code 265 22 = some (.aload 0, 23) := by decide +kernel
theorem c_265_23 : ax_code 265 23 = some (.getfield 729, 26) := by decide +kernel
theorem c_265_26 : ax_code 265 26 = some (.if_icmp .ge 93, 29) := by decide +kernel
theorem c_265_29 : ax_code 265 29 = some (.aload 0, 30) := by decide +kernel
theorem c_265_30 : ax_code 265 30 = some (.aload 0, 31) := by decide +kernel
theorem c_265_31 : ax_code 265 31 = some (.getfield 728, 34) := by decide +kernel
theorem c_265_34 : ax_code 265 34 = some (.iload 5, 36) := by decide +kernel
theorem c_265_36 : ax_code 265 36 = some (.iaload, 37) := by decide +kernel
theorem c_265_37 : ax_code 265 37 = some (.iload 1, 38) := by decide +kernel
theorem c_265_38 : ax_code 265 38 = some (.invokevirtual 235, 41) := by decide +kernel
theorem c_265_41 : ax_code 265 41 = some (.istore 6, 43) := by decide +kernel
theorem c_265_43 : ax_code 265 43 = some (.aload 0, 44) := by decide +kernel
theorem c_265_44 : ax_code 265 44 = some (.aload 0, 45) := by decide +kernel
theorem c_265_45 : ax_code 265 45 = some (.getfield 728, 48) := by decide +kernel
theorem c_265_48 : ax_code 265 48 = some (.iload 5, 50) := by decide +kernel
theorem c_265_50 : ax_code 265 50 = some (.iaload, 51) := by decide +kernel
theorem c_265_51 : ax_code 265 51 = some (.iload 1, 52) := by decide +kernel
theorem c_265_52 : ax_code 265 52 = some (.invokevirtual 234, 55) := by decide +kernel
theorem c_265_55 : ax_code 265 55 = some (.ifCond .eq 83, 58) := by decide +kernel
theorem c_265_58 : ax_code 265 58 = some (.iload 6, 60) := by decide +kernel
theorem c_265_60 : ax_code 265 60 = some (.iload 2, 61) := by decide +kernel
theorem c_265_61 : ax_code 265 61 = some (.if_icmp .le 83, 64) := by decide +kernel
theorem c_265_64 : ax_code 265 64 = some (.iload 4, 66) := by decide +kernel
theorem c_265_66 : ax_code 265 66 = some (.iconst (-1000000), 68) := by decide +kernel
theorem c_265_68 : ax_code 265 68 = some (.if_icmp .eq 78, 71) := by decide +kernel
theorem c_265_71 : ax_code 265 71 = some (.iload 6, 73) := by decide +kernel
theorem c_265_73 : ax_code 265 73 = some (.iload 4, 75) := by decide +kernel
theorem c_265_75 : ax_code 265 75 = some (.if_icmp .ge 83, 78) := by decide +kernel
theorem c_265_78 : ax_code 265 78 = some (.iload 6, 80) := by decide +kernel
theorem c_265_80 : ax_code 265 80 = some (.goto 85, 83) := by decide +kernel
theorem c_265_83 : ax_code 265 83 = some (.iload 4, 85) := by decide +kernel
theorem c_265_85 : ax_code 265 85 = some (.istore 4, 87) := by decide +kernel
theorem c_265_87 : ax_code 265 87 = some (.iinc 5 (1), 90) := by decide +kernel
theorem c_265_90 : ax_code 265 90 = some (.goto 20, 93) := by decide +kernel
theorem c_265_93 : ax_code 265 93 = some (.iload 4, 95) := by decide +kernel
theorem c_265_95 : ax_code 265 95 = some (.iconst (-1000000), 97) := by decide +kernel
theorem c_265_97 : ax_code 265 97 = some (.if_icmp .eq 104, 100) := by decide +kernel
theorem c_265_100 : ax_code 265 100 = some (.iconst 1, 101) := by decide +kernel
theorem c_265_101 : ax_code 265 101 = some (.goto 105, 104) := by decide +kernel
theorem c_265_104 : ax_code 265 104 = some (.iconst 0, 105) := by decide +kernel
theorem c_265_105 : ax_code 265 105 = some (.istore 3, 106) := by decide +kernel
theorem c_265_106 : ax_code 265 106 = some (.iload 3, 107) := by decide +kernel
theorem c_265_107 : ax_code 265 107 = some (.ifCond .eq 134, 110) := by decide +kernel
theorem c_265_110 : ax_code 265 110 = some (.aload 0, 111) := by decide +kernel
theorem c_265_111 : ax_code 265 111 = some (.getfield 736, 114) := by decide +kernel
theorem c_265_114 : ax_code 265 114 = some (.aload 0, 115) := by decide +kernel
theorem c_265_115 : ax_code 265 115 = some (.getfield 737, 118) := by decide +kernel
theorem c_265_118 : ax_code 265 118 = some (.iload 4, 120) := by decide +kernel
theorem c_265_120 : ax_code 265 120 = some (.iastore, 121) := by decide +kernel
theorem c_265_121 : ax_code 265 121 = some (.aload 0, 122) := by decide +kernel
theorem c_265_122 : ax_code 265 122 = some (.dup, 123) := by decide +kernel
theorem c_265_123 : ax_code 265 123 = some (.getfield 737, 126) := by decide +kernel
theorem c_265_126 : ax_code 265 126 = some (.iconst 1, 127) := by decide +kernel
theorem c_265_127 : ax_code 265 127 = some (.iadd, 128) := by decide +kernel
theorem c_265_128 : ax_code 265 128 = some (.putfield 737, 131) := by decide +kernel
theorem c_265_131 : ax_code 265 131 = some (.iload 4, 133) := by decide +kernel
theorem c_265_133 : ax_code 265 133 = some (.istore 2, 134) := by decide +kernel
theorem c_265_134 : ax_code 265 134 = some (.goto 9, 137) := by decide +kernel
theorem c_265_137 : ax_code 265 137 = some (.return_, 138) := by decide +kernel
theorem c_266_0 : ax_code 266 0 = some (.aload 0, 1) := by decide +kernel
theorem c_266_1 : ax_code 266 1 = some (.iconst 0, 2) := by decide +kernel
theorem c_266_2 : ax_code 266 2 = some (.putfield 704, 5) := by decide +kernel
theorem c_266_5 : ax_code 266 5 = some (.aload 0, 6) := by decide +kernel
theorem c_266_6 : ax_code 266 6 = some (.iload 1, 7) := by decide +kernel
theorem c_266_7 : ax_code 266 7 = some (.invokevirtual 258, 10) := by decide +kernel
theorem c_266_10 : ax_code 266 10 = some (.ifCond .eq 18, 13) := by decide +kernel
theorem c_266_13 : ax_code 266 13 = some (.iload 2, 14) := by decide +kernel
theorem c_266_14 : ax_code 266 14 = some (.iconst (-1), 15) := by decide +kernel
theorem c_266_15 : ax_code 266 15 = some (.if_icmp .ge 22, 18) := by decide +kernel
theorem c_266_18 : ax_code 266 18 = some (.ldc2_w 0, 21) := by decide +kernel
theorem c_266_21 : ax_code 266 21 = some (.lreturn, 22) := by decide +kernel
theorem c_266_22 : ax_code 266 22 = some (.aload 0, 23) := by decide +kernel
theorem c_266_23 : ax_code 266 23 = some (.invokevirtual 260, 26) := by decide +kernel
theorem c_266_26 : ax_code 266 26 = some (.iconst 0, 27) := by decide +kernel
theorem c_266_27 : ax_code 266 27 = some (.istore 3, 28) := by decide +kernel
theorem c_266_28 : ax_code 266 28 = some (.iload 3, 29) := by decide +kernel
theorem c_266_29 : ax_code 266 29 = some (.iload 1, 30) := by decide +kernel
theorem c_266_30 : ax_code 266 30 = some (.if_icmp .gt 71, 33) := by decide +kernel
theorem c_266_33 : ax_code 266 33 = some (.aload 0, 34) := by decide +kernel
theorem c_266_34 : ax_code 266 34 = some (.getfield 741, 37) := by decide +kernel
theorem c_266_37 : ax_code 266 37 = some (.iload 3, 38) := by decide +kernel
theorem c_266_38 : ax_code 266 38 = some (.iload 3, 39) := by decide +kernel
theorem c_266_39 : ax_code 266 39 = some (.iload 1, 40) := by decide +kernel
theorem c_266_40 : ax_code 266 40 = some (.iconst (-1), 41) := by decide +kernel
theorem c_266_41 : ax_code 266 41 = some (.ixor, 42) := by decide +kernel
theorem c_266_42 : ax_code 266 42 = some (.iand, 43) := by decide +kernel
theorem c_266_43 : ax_code 266 43 = some (.ifCond .ne 63, 46) := by decide +kernel
theorem c_266_46 : ax_code 266 46 = some (.iload 3, 47) := by decide +kernel
theorem c_266_47 : ax_code 266 47 = some (.iload 1, 48) := by decide +kernel
theorem c_266_48 : ax_code 266 48 = some (.if_icmp .eq 63, 51) := by decide +kernel
theorem c_266_51 : ax_code 266 51 = some (.iload 3, 52) := by decide +kernel
theorem c_266_52 : ax_code 266 52 = some (.invokestatic 240, 55) := by decide +kernel
theorem c_266_55 : ax_code 266 55 = some (.iconst 1, 56) := by decide +kernel
theorem c_266_56 : ax_code 266 56 = some (.if_icmp .le 63, 59) := by decide +kernel
theorem c_266_59 : ax_code 266 59 = some (.iconst 1, 60) := by decide +kernel
theorem c_266_60 : ax_code 266 60 = some (.goto 64, 63) := by decide +kernel
theorem c_266_63 : ax_code 266 63 = some (.iconst 0, 64) := by decide +kernel
theorem c_266_64 : ax_code 266 64 = some (.bastore, 65) := by decide +kernel
theorem c_266_65 : ax_code 266 65 = some (.iinc 3 (1), 68) := by decide +kernel
theorem c_266_68 : ax_code 266 68 = some (.goto 28, 71) := by decide +kernel
theorem c_266_71 : ax_code 266 71 = some (.iconst 0, 72) := by decide +kernel
theorem c_266_72 : ax_code 266 72 = some (.istore 3, 73) := by decide +kernel
theorem c_266_73 : ax_code 266 73 = some (.iload 3, 74) := by decide +kernel
theorem c_266_74 : ax_code 266 74 = some (.aload 0, 75) := by decide +kernel
theorem c_266_75 : ax_code 266 75 = some (.invokevirtual 259, 78) := by decide +kernel
theorem c_266_78 : ax_code 266 78 = some (.if_icmp .ge 147, 81) := by decide +kernel
theorem c_266_81 : ax_code 266 81 = some (.aload 0, 82) := by decide +kernel
theorem c_266_82 : ax_code 266 82 = some (.getfield 740, 85) := by decide +kernel
theorem c_266_85 : ax_code 266 85 = some (.iload 3, 86) := by decide +kernel
theorem c_266_86 : ax_code 266 86 = some (.baload, 87) := by decide +kernel
theorem c_266_87 : ax_code 266 87 = some (.ifCond .eq 141, 90) := by decide +kernel
theorem c_266_90 : ax_code 266 90 = some (.aload 0, 91) := by decide +kernel
theorem c_266_91 : ax_code 266 91 = some (.iload 3, 92) := by decide +kernel
theorem c_266_92 : ax_code 266 92 = some (.invokevirtual 261, 95) := by decide +kernel
theorem c_266_95 : ax_code 266 95 = some (.iconst 0, 96) := by decide +kernel
theorem c_266_96 : ax_code 266 96 = some (.istore 4, 98) := by decide +kernel
theorem c_266_98 : ax_code 266 98 = some (.iload 4, 100) := by decide +kernel
theorem c_266_100 : ax_code 266 100 = some (.iload 1, 101) := by decide +kernel
theorem c_266_101 : ax_code 266 101 = some (.if_icmp .ge 141, 104) := by decide +kernel
theorem c_266_104 : ax_code 266 104 = some (.aload 0, 105) := by decide +kernel
theorem c_266_105 : ax_code 266 105 = some (.getfield 741, 108) := by decide +kernel
theorem c_266_108 : ax_code 266 108 = some (.iload 4, 110) := by decide +kernel
theorem c_266_110 : ax_code 266 110 = some (.aload 0, 111) := by decide +kernel
theorem c_266_111 : ax_code 266 111 = some (.getfield 741, 114) := by decide +kernel
theorem c_266_114 : ax_code 266 114 = some (.iload 4, 116) := by decide +kernel
theorem c_266_116 : ax_code 266 116 = some (.baload, 117) := by decide +kernel
theorem c_266_117 : ax_code 266 117 = some (.ifCond .eq 133, 120) := by decide +kernel
theorem c_266_120 : ax_code 266 120 = some (.aload 0, 121) := by decide +kernel
theorem c_266_121 : ax_code 266 121 = some (.iload 4, 123) := by decide +kernel
theorem c_266_123 : ax_code 266 123 = some (.invokevirtual 267, 126) := by decide +kernel
theorem c_266_126 : ax_code 266 126 = some (.ifCond .eq 133, 129) := by decide +kernel
theorem c_266_129 : ax_code 266 129 = some (.iconst 1, 130) := by decide +kernel
theorem c_266_130 : ax_code 266 130 = some (.goto 134, 133) := by decide +kernel
theorem c_266_133 : ax_code 266 133 = some (.iconst 0, 134) := by decide +kernel
theorem c_266_134 : ax_code 266 134 = some (.bastore, 135) := by decide +kernel
theorem c_266_135 : ax_code 266 135 = some (.iinc 4 (1), 138) := by decide +kernel
theorem c_266_138 : ax_code 266 138 = some (.goto 98, 141) := by decide +kernel
theorem c_266_141 : ax_code 266 141 = some (.iinc 3 (1), 144) := by decide +kernel
theorem c_266_144 : ax_code 266 144 = some (.goto 73, 147) := by decide +kernel
theorem c_266_147 : ax_code 266 147 = some (.iconst 0, 148) := by decide +kernel
theorem c_266_148 : ax_code 266 148 = some (.istore 3, 149) := by decide +kernel
theorem c_266_149 : ax_code 266 149 = some (.iconst (-1000000), 151) := by decide +kernel
theorem c_266_151 : ax_code 266 151 = some (.istore 4, 153) := by decide +kernel
theorem c_266_153 : ax_code 266 153 = some (.iconst 0, 154) := by decide +kernel
theorem c_266_154 : ax_code 266 154 = some (.istore 5, 156) := by decide +kernel
theorem c_266_156 : ax_code 266 156 = some (.iload 5, 158) := by decide +kernel
theorem c_266_158 : ax_code 266 158 = some (.iload 1, 159) := by decide +kernel
theorem c_266_159 : ax_code 266 159 = some (.if_icmp .ge 210, 162) := by decide +kernel
theorem c_266_162 : ax_code 266 162 = some (.aload 0, 163) := by decide +kernel
theorem c_266_163 : ax_code 266 163 = some (.getfield 741, 166) := by decide +kernel
theorem c_266_166 : ax_code 266 166 = some (.iload 5, 168) := by decide +kernel
theorem c_266_168 : ax_code 266 168 = some (.baload, 169) := by decide +kernel
theorem c_266_169 : ax_code 266 169 = some (.ifCond .eq 182, 172) := by decide +kernel
theorem c_266_172 : ax_code 266 172 = some (.iload 3, 173) := by decide +kernel
theorem c_266_173 : ax_code 266 173 = some (.iload 2, 174) := by decide +kernel
theorem c_266_174 : ax_code 266 174 = some (.if_icmp .ne 182, 177) := by decide +kernel
theorem c_266_177 : ax_code 266 177 = some (.iload 5, 179) := by decide +kernel
theorem c_266_179 : ax_code 266 179 = some (.goto 184, 182) := by decide +kernel
theorem c_266_182 : ax_code 266 182 = some (.iload 4, 184) := by decide +kernel
theorem c_266_184 : ax_code 266 184 = some (.istore 4, 186) := by decide +kernel
theorem c_266_186 : ax_code 266 186 = some (.iload 3, 187) := by decide +kernel
theorem c_266_187 : ax_code 266 187 = some (.aload 0, 188) := by decide +kernel
theorem c_266_188 : ax_code 266 188 = some (.getfield 741, 191) := by decide +kernel
theorem c_266_191 : ax_code 266 191 = some (.iload 5, 193) := by decide +kernel
theorem c_266_193 : ax_code 266 193 = some (.baload, 194) := by decide +kernel
theorem c_266_194 : ax_code 266 194 = some (.ifCond .eq 201, 197) := by decide +kernel
theorem c_266_197 : ax_code 266 197 = some (.iconst 1, 198) := by decide +kernel
theorem c_266_198 : ax_code 266 198 = some (.goto 202, 201) := by decide +kernel
theorem c_266_201 : ax_code 266 201 = some (.iconst 0, 202) := by decide +kernel
theorem c_266_202 : ax_code 266 202 = some (.iadd, 203) := by decide +kernel
theorem c_266_203 : ax_code 266 203 = some (.istore 3, 204) := by decide +kernel
theorem c_266_204 : ax_code 266 204 = some (.iinc 5 (1), 207) := by decide +kernel
theorem c_266_207 : ax_code 266 207 = some (.goto 156, 210) := by decide +kernel
theorem c_266_210 : ax_code 266 210 = some (.iload 2, 211) := by decide +kernel
theorem c_266_211 : ax_code 266 211 = some (.iconst (-1), 212) := by decide +kernel
theorem c_266_212 : ax_code 266 212 = some (.if_icmp .ne 220, 215) := by decide +kernel
theorem c_266_215 : ax_code 266 215 = some (.iload 3, 216) := by decide +kernel
theorem c_266_216 : ax_code 266 216 = some (.i2l, 217) := by decide +kernel
theorem c_266_217 : ax_code 266 217 = some (.goto 223, 220) := by decide +kernel
theorem c_266_220 : ax_code 266 220 = some (.iload 4, 222) := by decide +kernel
theorem c_266_222 : ax_code 266 222 = some (.i2l, 223) := by decide +kernel
theorem c_266_223 : ax_code 266 223 = some (.lreturn, 224) := by decide +kernel
theorem c_267_0 : ax_code 267 0 = some (.iconst 0, 1) := by decide +kernel
theorem c_267_1 : ax_code 267 1 = some (.istore 2, 2) := by decide +kernel
theorem c_267_2 : ax_code 267 2 = some (.iconst 6, 4) := by decide +kernel
theorem c_267_4 : ax_code 267 4 = some (.istore 3, 5) := by decide +kernel
theorem c_267_5 : ax_code 267 5 = some (.iload 3, 6) := by decide +kernel
theorem c_267_6 : ax_code 267 6 = some (.iconst 5, 7) := by decide +kernel
theorem c_267_7 : ax_code 267 7 = some (.aload 0, 8) := by decide +kernel
theorem c_267_8 : ax_code 267 8 = some (.getfield 729, 11) := by decide +kernel
theorem c_267_11 : ax_code 267 11 = some (.iadd, 12) := by decide +kernel
theorem c_267_12 : ax_code 267 12 = some (.if_icmp .ge 41, 15) := by decide +kernel
theorem c_267_15 : ax_code 267 15 = some (.iload 2, 16) := by decide +kernel
theorem c_267_16 : ax_code 267 16 = some (.ifCond .ne 29, 19) := by decide +kernel
theorem c_267_19 : ax_code 267 19 = some (.aload 0, 20) := by decide +kernel
theorem c_267_20 : ax_code 267 20 = some (.getfield 734, 23) := by decide +kernel
theorem c_267_23 : ax_code 267 23 = some (.iload 3, 24) := by decide +kernel
theorem c_267_24 : ax_code 267 24 = some (.iaload, 25) := by decide +kernel
theorem c_267_25 : ax_code 267 25 = some (.iload 1, 26) := by decide +kernel
theorem c_267_26 : ax_code 267 26 = some (.if_icmp .ne 33, 29) := by decide +kernel
theorem c_267_29 : ax_code 267 29 = some (.iconst 1, 30) := by decide +kernel
theorem c_267_30 : ax_code 267 30 = some (.goto 34, 33) := by decide +kernel
theorem c_267_33 : ax_code 267 33 = some (.iconst 0, 34) := by decide +kernel
theorem c_267_34 : ax_code 267 34 = some (.istore 2, 35) := by decide +kernel
theorem c_267_35 : ax_code 267 35 = some (.iinc 3 (1), 38) := by decide +kernel
theorem c_267_38 : ax_code 267 38 = some (.goto 5, 41) := by decide +kernel
theorem c_267_41 : ax_code 267 41 = some (.iload 2, 42) := by decide +kernel
theorem c_267_42 : ax_code 267 42 = some (.ireturn, 43) := by decide +kernel
theorem c_268_0 : ax_code 268 0 = some (.aload 0, 1) := by decide +kernel
theorem c_268_1 : ax_code 268 1 = some (.iconst 0, 2) := by decide +kernel
theorem c_268_2 : ax_code 268 2 = some (.putfield 704, 5) := by decide +kernel
theorem c_268_5 : ax_code 268 5 = some (.aload 0, 6) := by decide +kernel
theorem c_268_6 : ax_code 268 6 = some (.iload 1, 7) := by decide +kernel
theorem c_268_7 : ax_code 268 7 = some (.invokevirtual 258, 10) := by decide +kernel
theorem c_268_10 : ax_code 268 10 = some (.ifCond .eq 25, 13) := by decide +kernel
theorem c_268_13 : ax_code 268 13 = some (.iload 2, 14) := by decide +kernel
theorem c_268_14 : ax_code 268 14 = some (.invokestatic 237, 17) := by decide +kernel
theorem c_268_17 : ax_code 268 17 = some (.ifCond .eq 25, 20) := by decide +kernel
theorem c_268_20 : ax_code 268 20 = some (.iload 3, 21) := by decide +kernel
theorem c_268_21 : ax_code 268 21 = some (.iconst (-1), 22) := by decide +kernel
theorem c_268_22 : ax_code 268 22 = some (.if_icmp .ge 29, 25) := by decide +kernel
theorem c_268_25 : ax_code 268 25 = some (.ldc2_w 0, 28) := by decide +kernel
theorem c_268_28 : ax_code 268 28 = some (.lreturn, 29) := by decide +kernel
theorem c_268_29 : ax_code 268 29 = some (.aload 0, 30) := by decide +kernel
theorem c_268_30 : ax_code 268 30 = some (.invokevirtual 260, 33) := by decide +kernel
theorem c_268_33 : ax_code 268 33 = some (.iconst 0, 34) := by decide +kernel
theorem c_268_34 : ax_code 268 34 = some (.istore 4, 36) := by decide +kernel
theorem c_268_36 : ax_code 268 36 = some (.iconst 0, 37) := by decide +kernel
theorem c_268_37 : ax_code 268 37 = some (.istore 5, 39) := by decide +kernel
theorem c_268_39 : ax_code 268 39 = some (.iload 5, 41) := by decide +kernel
theorem c_268_41 : ax_code 268 41 = some (.aload 0, 42) := by decide +kernel
theorem c_268_42 : ax_code 268 42 = some (.invokevirtual 259, 45) := by decide +kernel
theorem c_268_45 : ax_code 268 45 = some (.if_icmp .ge 107, 48) := by decide +kernel
theorem c_268_48 : ax_code 268 48 = some (.aload 0, 49) := by decide +kernel
theorem c_268_49 : ax_code 268 49 = some (.getfield 740, 52) := by decide +kernel
theorem c_268_52 : ax_code 268 52 = some (.iload 5, 54) := by decide +kernel
theorem c_268_54 : ax_code 268 54 = some (.baload, 55) := by decide +kernel
theorem c_268_55 : ax_code 268 55 = some (.ifCond .eq 101, 58) := by decide +kernel
theorem c_268_58 : ax_code 268 58 = some (.aload 0, 59) := by decide +kernel
theorem c_268_59 : ax_code 268 59 = some (.iload 5, 61) := by decide +kernel
theorem c_268_61 : ax_code 268 61 = some (.invokevirtual 261, 64) := by decide +kernel
theorem c_268_64 : ax_code 268 64 = some (.aload 0, 65) := by decide +kernel
theorem c_268_65 : ax_code 268 65 = some (.iload 2, 66) := by decide +kernel
theorem c_268_66 : ax_code 268 66 = some (.invokevirtual 264, 69) := by decide +kernel
theorem c_268_69 : ax_code 268 69 = some (.istore 6, 71) := by decide +kernel
theorem c_268_71 : ax_code 268 71 = some (.iload 4, 73) := by decide +kernel
theorem c_268_73 : ax_code 268 73 = some (.aload 0, 74) := by decide +kernel
theorem c_268_74 : ax_code 268 74 = some (.getfield 737, 77) := by decide +kernel
theorem c_268_77 : ax_code 268 77 = some (.ifCond .eq 85, 80) := by decide +kernel
theorem c_268_80 : ax_code 268 80 = some (.iload 6, 82) := by decide +kernel
theorem c_268_82 : ax_code 268 82 = some (.ifCond .ge 89, 85) := by decide +kernel
theorem c_268_85 : ax_code 268 85 = some (.iconst 0, 86) := by decide +kernel
theorem c_268_86 : ax_code 268 86 = some (.goto 98, 89) := by decide +kernel
theorem c_268_89 : ax_code 268 89 = some (.aload 0, 90) := by decide +kernel
theorem c_268_90 : ax_code 268 90 = some (.getfield 735, 93) := by decide +kernel
theorem c_268_93 : ax_code 268 93 = some (.aload 0, 94) := by decide +kernel
theorem c_268_94 : ax_code 268 94 = some (.getfield 733, 97) := by decide +kernel
theorem c_268_97 : ax_code 268 97 = some (.iaload, 98) := by decide +kernel
theorem c_268_98 : ax_code 268 98 = some (.ior, 99) := by decide +kernel
theorem c_268_99 : ax_code 268 99 = some (.istore 4, 101) := by decide +kernel
theorem c_268_101 : ax_code 268 101 = some (.iinc 5 (1), 104) := by decide +kernel
theorem c_268_104 : ax_code 268 104 = some (.goto 39, 107) := by decide +kernel
theorem c_268_107 : ax_code 268 107 = some (.aload 0, 108) := by decide +kernel
theorem c_268_108 : ax_code 268 108 = some (.iload 2, 109) := by decide +kernel
theorem c_268_109 : ax_code 268 109 = some (.invokevirtual 265, 112) := by decide +kernel
theorem c_268_112 : ax_code 268 112 = some (.iconst 0, 113) := by decide +kernel
theorem c_268_113 : ax_code 268 113 = some (.istore 5, 115) := by decide +kernel
theorem c_268_115 : ax_code 268 115 = some (.iconst (-1000000), 117) := by decide +kernel
theorem c_268_117 : ax_code 268 117 = some (.istore 6, 119) := by decide +kernel
theorem c_268_119 : ax_code 268 119 = some (.iconst 0, 120) := by decide +kernel
theorem c_268_120 : ax_code 268 120 = some (.istore 7, 122) := by decide +kernel
theorem c_268_122 : ax_code 268 122 = some (.iload 7, 124) := by decide +kernel
theorem c_268_124 : ax_code 268 124 = some (.aload 0, 125) := by decide +kernel
theorem c_268_125 : ax_code 268 125 = some (.getfield 737, 128) := by decide +kernel
theorem c_268_128 : ax_code 268 128 = some (.if_icmp .ge 180, 131) := by decide +kernel
theorem c_268_131 : ax_code 268 131 = some (.iload 4, 133) := by decide +kernel
theorem c_268_133 : ax_code 268 133 = some (.iload 7, 135) := by decide +kernel
theorem c_268_135 : ax_code 268 135 = some (.ishr, 136) := by decide +kernel
theorem c_268_136 : ax_code 268 136 = some (.iconst 1, 137) := by decide +kernel
theorem c_268_137 : ax_code 268 137 = some (.iand, 138) := by decide +kernel
theorem c_268_138 : ax_code 268 138 = some (.iconst 1, 139) := by decide +kernel
theorem c_268_139 : ax_code 268 139 = some (.if_icmp .ne 158, 142) := by decide +kernel
theorem c_268_142 : ax_code 268 142 = some (.iload 5, 144) := by decide +kernel
theorem c_268_144 : ax_code 268 144 = some (.iload 3, 145) := by decide +kernel
theorem c_268_145 : ax_code 268 145 = some (.if_icmp .ne 158, 148) := by decide +kernel
theorem c_268_148 : ax_code 268 148 = some (.aload 0, 149) := by decide +kernel
theorem c_268_149 : ax_code 268 149 = some (.getfield 736, 152) := by decide +kernel
theorem c_268_152 : ax_code 268 152 = some (.iload 7, 154) := by decide +kernel
theorem c_268_154 : ax_code 268 154 = some (.iaload, 155) := by decide +kernel
theorem c_268_155 : ax_code 268 155 = some (.goto 160, 158) := by decide +kernel
theorem c_268_158 : ax_code 268 158 = some (.iload 6, 160) := by decide +kernel
theorem c_268_160 : ax_code 268 160 = some (.istore 6, 162) := by decide +kernel
theorem c_268_162 : ax_code 268 162 = some (.iload 5, 164) := by decide +kernel
theorem c_268_164 : ax_code 268 164 = some (.iload 4, 166) := by decide +kernel
theorem c_268_166 : ax_code 268 166 = some (.iload 7, 168) := by decide +kernel
theorem c_268_168 : ax_code 268 168 = some (.ishr, 169) := by decide +kernel
theorem c_268_169 : ax_code 268 169 = some (.iconst 1, 170) := by decide +kernel
theorem c_268_170 : ax_code 268 170 = some (.iand, 171) := by decide +kernel
theorem c_268_171 : ax_code 268 171 = some (.iadd, 172) := by decide +kernel
theorem c_268_172 : ax_code 268 172 = some (.istore 5, 174) := by decide +kernel
theorem c_268_174 : ax_code 268 174 = some (.iinc 7 (1), 177) := by decide +kernel
theorem c_268_177 : ax_code 268 177 = some (.goto 122, 180) := by decide +kernel
theorem c_268_180 : ax_code 268 180 = some (.iload 3, 181) := by decide +kernel
theorem c_268_181 : ax_code 268 181 = some (.iconst (-1), 182) := by decide +kernel
theorem c_268_182 : ax_code 268 182 = some (.if_icmp .ne 191, 185) := by decide +kernel
theorem c_268_185 : ax_code 268 185 = some (.iload 5, 187) := by decide +kernel
theorem c_268_187 : ax_code 268 187 = some (.i2l, 188) := by decide +kernel
theorem c_268_188 : ax_code 268 188 = some (.goto 194, 191) := by decide +kernel
theorem c_268_191 : ax_code 268 191 = some (.iload 6, 193) := by decide +kernel
theorem c_268_193 : ax_code 268 193 = some (.i2l, 194) := by decide +kernel
theorem c_268_194 : ax_code 268 194 = some (.lreturn, 195) := by decide +kernel
theorem c_269_0 : ax_code 269 0 = some (.aload 0, 1) := by decide +kernel
theorem c_269_1 : ax_code 269 1 = some (.iconst 0, 2) := by decide +kernel
theorem c_269_2 : ax_code 269 2 = some (.putfield 704, 5) := by decide +kernel
theorem c_269_5 : ax_code 269 5 = some (.aload 0, 6) := by decide +kernel
theorem c_269_6 : ax_code 269 6 = some (.iload 1, 7) := by decide +kernel
theorem c_269_7 : ax_code 269 7 = some (.invokevirtual 231, 10) := by decide +kernel
theorem c_269_10 : ax_code 269 10 = some (.ifCond .eq 23, 13) := by decide +kernel
theorem c_269_13 : ax_code 269 13 = some (.iload 2, 14) := by decide +kernel
theorem c_269_14 : ax_code 269 14 = some (.i2l, 15) := by decide +kernel
theorem c_269_15 : ax_code 269 15 = some (.lconst 0, 16) := by decide +kernel
theorem c_269_16 : ax_code 269 16 = some (.lconst 1, 17) := by decide +kernel
theorem c_269_17 : ax_code 269 17 = some (.invokestatic 198, 20) := by decide +kernel
theorem c_269_20 : ax_code 269 20 = some (.ifCond .ne 27, 23) := by decide +kernel
theorem c_269_23 : ax_code 269 23 = some (.ldc2_w 0, 26) := by decide +kernel
theorem c_269_26 : ax_code 269 26 = some (.lreturn, 27) := by decide +kernel
theorem c_269_27 : ax_code 269 27 = some (.iconst 0, 28) := by decide +kernel
theorem c_269_28 : ax_code 269 28 = some (.istore 3, 29) := by decide +kernel
theorem c_269_29 : ax_code 269 29 = some (.iconst 9999, 32) := by decide +kernel
theorem c_269_32 : ax_code 269 32 = some (.istore 4, 34) := by decide +kernel
theorem c_269_34 : ax_code 269 34 = some (.iconst 0, 35) := by decide +kernel
theorem c_269_35 : ax_code 269 35 = some (.istore 5, 37) := by decide +kernel
theorem c_269_37 : ax_code 269 37 = some (.iload 5, 39) := by decide +kernel
theorem c_269_39 : ax_code 269 39 = some (.aload 0, 40) := by decide +kernel
theorem c_269_40 : ax_code 269 40 = some (.getfield 709, 43) := by decide +kernel
theorem c_269_43 : ax_code 269 43 = some (.iconst 1, 44) := by decide +kernel
theorem c_269_44 : ax_code 269 44 = some (.iaload, 45) := by decide +kernel
theorem c_269_45 : ax_code 269 45 = some (.if_icmp .ge 135, 48) := by decide +kernel
theorem c_269_48 : ax_code 269 48 = some (.iconst 66, 50) := by decide +kernel
theorem c_269_50 : ax_code 269 50 = some (.iconst 3, 51) := by decide +kernel
theorem c_269_51 : ax_code 269 51 = some (.iload 5, 53) := by decide +kernel
theorem c_269_53 : ax_code 269 53 = some (.imul, 54) := by decide +kernel
theorem c_269_54 : ax_code 269 54 = some (.iadd, 55) := by decide +kernel
theorem c_269_55 : ax_code 269 55 = some (.istore 6, 57) := by decide +kernel
theorem c_269_57 : ax_code 269 57 = some (.aload 0, 58) := by decide +kernel
theorem c_269_58 : ax_code 269 58 = some (.iload 1, 59) := by decide +kernel
theorem c_269_59 : ax_code 269 59 = some (.aload 0, 60) := by decide +kernel
theorem c_269_60 : ax_code 269 60 = some (.getfield 709, 63) := by decide +kernel
theorem c_269_63 : ax_code 269 63 = some (.iload 6, 65) := by decide +kernel
theorem c_269_65 : ax_code 269 65 = some (.iaload, 66) := by decide +kernel
theorem c_269_66 : ax_code 269 66 = some (.invokevirtual 270, 69) := by decide +kernel
theorem c_269_69 : ax_code 269 69 = some (.ifCond .eq 129, 72) := by decide +kernel
theorem c_269_72 : ax_code 269 72 = some (.aload 0, 73) := by decide +kernel
theorem c_269_73 : ax_code 269 73 = some (.getfield 709, 76) := by decide +kernel
theorem c_269_76 : ax_code 269 76 = some (.iload 6, 78) := by decide +kernel
theorem c_269_78 : ax_code 269 78 = some (.iconst 1, 79) := by decide +kernel
theorem c_269_79 : ax_code 269 79 = some (.iadd, 80) := by decide +kernel
theorem c_269_80 : ax_code 269 80 = some (.iaload, 81) := by decide +kernel
theorem c_269_81 : ax_code 269 81 = some (.iload 3, 82) := by decide +kernel
theorem c_269_82 : ax_code 269 82 = some (.if_icmp .le 97, 85) := by decide +kernel
theorem c_269_85 : ax_code 269 85 = some (.aload 0, 86) := by decide +kernel
theorem c_269_86 : ax_code 269 86 = some (.getfield 709, 89) := by decide +kernel
theorem c_269_89 : ax_code 269 89 = some (.iload 6, 91) := by decide +kernel
theorem c_269_91 : ax_code 269 91 = some (.iconst 1, 92) := by decide +kernel
theorem c_269_92 : ax_code 269 92 = some (.iadd, 93) := by decide +kernel
theorem c_269_93 : ax_code 269 93 = some (.iaload, 94) := by decide +kernel
theorem c_269_94 : ax_code 269 94 = some (.goto 98, 97) := by decide +kernel
theorem c_269_97 : ax_code 269 97 = some (.iload 3, 98) := by decide +kernel
theorem c_269_98 : ax_code 269 98 = some (.istore 3, 99) := by decide +kernel
theorem c_269_99 : ax_code 269 99 = some (.aload 0, 100) := by decide +kernel
theorem c_269_100 : ax_code 269 100 = some (.getfield 709, 103) := by decide +kernel
theorem c_269_103 : ax_code 269 103 = some (.iload 6, 105) := by decide +kernel
theorem c_269_105 : ax_code 269 105 = some (.iconst 2, 106) := by decide +kernel
theorem c_269_106 : ax_code 269 106 = some (.iadd, 107) := by decide +kernel
theorem c_269_107 : ax_code 269 107 = some (.iaload, 108) := by decide +kernel
theorem c_269_108 : ax_code 269 108 = some (.iload 4, 110) := by decide +kernel
theorem c_269_110 : ax_code 269 110 = some (.if_icmp .ge 125, 113) := by decide +kernel
theorem c_269_113 : ax_code 269 113 = some (.aload 0, 114) := by decide +kernel
theorem c_269_114 : ax_code 269 114 = some (.getfield 709, 117) := by decide +kernel
theorem c_269_117 : ax_code 269 117 = some (.iload 6, 119) := by decide +kernel
theorem c_269_119 : ax_code 269 119 = some (.iconst 2, 120) := by decide +kernel
theorem c_269_120 : ax_code 269 120 = some (.iadd, 121) := by decide +kernel
theorem c_269_121 : ax_code 269 121 = some (.iaload, 122) := by decide +kernel
theorem c_269_122 : ax_code 269 122 = some (.goto 127, 125) := by decide +kernel
theorem c_269_125 : ax_code 269 125 = some (.iload 4, 127) := by decide +kernel
theorem c_269_127 : ax_code 269 127 = some (.istore 4, 129) := by decide +kernel
theorem c_269_129 : ax_code 269 129 = some (.iinc 5 (1), 132) := by decide +kernel
theorem c_269_132 : ax_code 269 132 = some (.goto 37, 135) := by decide +kernel
theorem c_269_135 : ax_code 269 135 = some (.iload 3, 136) := by decide +kernel
theorem c_269_136 : ax_code 269 136 = some (.ifCond .eq 145, 139) := by decide +kernel
theorem c_269_139 : ax_code 269 139 = some (.iload 3, 140) := by decide +kernel
theorem c_269_140 : ax_code 269 140 = some (.iload 4, 142) := by decide +kernel
theorem c_269_142 : ax_code 269 142 = some (.if_icmp .le 151, 145) := by decide +kernel
theorem c_269_145 : ax_code 269 145 = some (.ldc2_w 5, 148) := by decide +kernel
theorem c_269_148 : ax_code 269 148 = some (.goto 163, 151) := by decide +kernel
theorem c_269_151 : ax_code 269 151 = some (.iload 2, 152) := by decide +kernel
theorem c_269_152 : ax_code 269 152 = some (.ifCond .ne 160, 155) := by decide +kernel
theorem c_269_155 : ax_code 269 155 = some (.iload 3, 156) := by decide +kernel
theorem c_269_156 : ax_code 269 156 = some (.i2l, 157) := by decide +kernel
theorem c_269_157 : ax_code 269 157 = some (.goto 163, 160) := by decide +kernel
theorem c_269_160 : ax_code 269 160 = some (.iload 4, 162) := by decide +kernel
theorem c_269_162 : ax_code 269 162 = some (.i2l, 163) := by decide +kernel
theorem c_269_163 : ax_code 269 163 = some (.lreturn, 164) := by decide +kernel
theorem c_270_0 : ax_code 270 0 = some (.aload 0, 1) := by decide +kernel
theorem c_270_1 : ax_code 270 1 = some (.iload 1, 2) := by decide +kernel
theorem c_270_2 : ax_code 270 2 = some (.iload 2, 3) := by decide +kernel
theorem c_270_3 : ax_code 270 3 = some (.invokevirtual 234, 6) := by decide +kernel
theorem c_270_6 : ax_code 270 6 = some (.ifCond .eq 22, 9) := by decide +kernel
theorem c_270_9 : ax_code 270 9 = some (.aload 0, 10) := by decide +kernel
theorem c_270_10 : ax_code 270 10 = some (.iload 1, 11) := by decide +kernel
theorem c_270_11 : ax_code 270 11 = some (.iload 2, 12) := by decide +kernel
theorem c_270_12 : ax_code 270 12 = some (.invokevirtual 235, 15) := by decide +kernel
theorem c_270_15 : ax_code 270 15 = some (.ifCond .le 22, 18) := by decide +kernel
theorem c_270_18 : ax_code 270 18 = some (.iconst 1, 19) := by decide +kernel
theorem c_270_19 : ax_code 270 19 = some (.goto 23, 22) := by decide +kernel
theorem c_270_22 : ax_code 270 22 = some (.iconst 0, 23) := by decide +kernel
theorem c_270_23 : ax_code 270 23 = some (.ireturn, 24) := by decide +kernel
theorem c_271_0 : ax_code 271 0 = some (.aload 0, 1) := by decide +kernel
theorem c_271_1 : ax_code 271 1 = some (.iconst 0, 2) := by decide +kernel
theorem c_271_2 : ax_code 271 2 = some (.putfield 704, 5) := by decide +kernel
theorem c_271_5 : ax_code 271 5 = some (.aload 0, 6) := by decide +kernel
theorem c_271_6 : ax_code 271 6 = some (.iload 1, 7) := by decide +kernel
theorem c_271_7 : ax_code 271 7 = some (.invokevirtual 231, 10) := by decide +kernel
theorem c_271_10 : ax_code 271 10 = some (.ifCond .eq 30, 13) := by decide +kernel
theorem c_271_13 : ax_code 271 13 = some (.iload 2, 14) := by decide +kernel
theorem c_271_14 : ax_code 271 14 = some (.invokestatic 272, 17) := by decide +kernel
theorem c_271_17 : ax_code 271 17 = some (.ifCond .eq 30, 20) := by decide +kernel
theorem c_271_20 : ax_code 271 20 = some (.aload 0, 21) := by decide +kernel
theorem c_271_21 : ax_code 271 21 = some (.iload 1, 22) := by decide +kernel
theorem c_271_22 : ax_code 271 22 = some (.iload 2, 23) := by decide +kernel
theorem c_271_23 : ax_code 271 23 = some (.invokevirtual 273, 26) := by decide +kernel
theorem c_271_26 : ax_code 271 26 = some (.i2l, 27) := by decide +kernel
theorem c_271_27 : ax_code 271 27 = some (.goto 33, 30) := by decide +kernel
theorem c_271_30 : ax_code 271 30 = some (.ldc2_w 0, 33) := by decide +kernel
theorem c_271_33 : ax_code 271 33 = some (.lreturn, 34) := by decide +kernel
theorem c_272_0 : ax_code 272 0 = some (.iload 0, 1) := by decide +kernel
theorem c_272_1 : ax_code 272 1 = some (.i2l, 2) := by decide +kernel
theorem c_272_2 : ax_code 272 2 = some (.lconst 0, 3) := by decide +kernel
theorem c_272_3 : ax_code 272 3 = some (.ldc2_w 7, 6) := by decide +kernel
theorem c_272_6 : ax_code 272 6 = some (.invokestatic 198, 9) := by decide +kernel
theorem c_272_9 : ax_code 272 9 = some (.ireturn, 10) := by decide +kernel
theorem c_273_0 : ax_code 273 0 = some (.aload 0, 1) := by decide +kernel
theorem c_273_1 : ax_code 273 1 = some (.iload 1, 2) := by decide +kernel
theorem c_273_2 : ax_code 273 2 = some (.iconst 3, 3) := by decide +kernel
theorem c_273_3 : ax_code 273 3 = some (.invokevirtual 232, 6) := by decide +kernel
theorem c_273_6 : ax_code 273 6 = some (.istore 3, 7) := by decide +kernel
theorem c_273_7 : ax_code 273 7 = some (.iload 3, 8) := by decide +kernel
theorem c_273_8 : ax_code 273 8 = some (.ifCond .lt 29, 11) := by decide +kernel
theorem c_273_11 : ax_code 273 11 = some (.aload 0, 12) := by decide +kernel
theorem c_273_12 : ax_code 273 12 = some (.iload 3, 13) := by decide +kernel
theorem c_273_13 : ax_code 273 13 = some (.iload 2, 14) := by decide +kernel
theorem c_273_14 : ax_code 273 14 = some (.invokevirtual 270, 17) := by decide +kernel
theorem c_273_17 : ax_code 273 17 = some (.ifCond .eq 29, 20) := by decide +kernel
theorem c_273_20 : ax_code 273 20 = some (.aload 0, 21) := by decide +kernel
theorem c_273_21 : ax_code 273 21 = some (.iload 1, 22) := by decide +kernel
theorem c_273_22 : ax_code 273 22 = some (.iload 2, 23) := by decide +kernel
theorem c_273_23 : ax_code 273 23 = some (.invokevirtual 274, 26) := by decide +kernel
theorem c_273_26 : ax_code 273 26 = some (.ifCond .ne 32, 29) := by decide +kernel
theorem c_273_29 : ax_code 273 29 = some (.iconst (-1000000), 31) := by decide +kernel
theorem c_273_31 : ax_code 273 31 = some (.ireturn, 32) := by decide +kernel
theorem c_273_32 : ax_code 273 32 = some (.iconst 1, 33) := by decide +kernel
theorem c_273_33 : ax_code 273 33 = some (.iload 1, 34) := by decide +kernel
theorem c_273_34 : ax_code 273 34 = some (.ishl, 35) := by decide +kernel
theorem c_273_35 : ax_code 273 35 = some (.istore 4, 37) := by decide +kernel
theorem c_273_37 : ax_code 273 37 = some (.iload 1, 38) := by decide +kernel
theorem c_273_38 : ax_code 273 38 = some (.iconst 1, 39) := by decide +kernel
theorem c_273_39 : ax_code 273 39 = some (.iadd, 40) := by decide +kernel
theorem c_273_40 : ax_code 273 40 = some (.istore 5, 42) := by decide +kernel
theorem c_273_42 : ax_code 273 42 = some (.iload 5, 44) := by decide +kernel
theorem c_273_44 : ax_code 273 44 = some (.aload 0, 45) := by decide +kernel
theorem c_273_45 : ax_code 273 45 = some (.getfield 712, 48) := by decide +kernel
theorem c_273_48 : ax_code 273 48 = some (.iconst 0, 49) := by decide +kernel
theorem c_273_49 : ax_code 273 49 = some (.iaload, 50) := by decide +kernel
theorem c_273_50 : ax_code 273 50 = some (.if_icmp .ge 106, 53) := by decide +kernel
theorem c_273_53 : ax_code 273 53 = some (.aload 0, 54) := by decide +kernel
theorem c_273_54 : ax_code 273 54 = some (.iload 5, 56) := by decide +kernel
theorem c_273_56 : ax_code 273 56 = some (.iconst 3, 57) := by decide +kernel
theorem c_273_57 : ax_code 273 57 = some (.invokevirtual 232, 60) := by decide +kernel
theorem c_273_60 : ax_code 273 60 = some (.istore 6, 62) := by decide +kernel
theorem c_273_62 : ax_code 273 62 = some (.iload 6, 64) := by decide +kernel
theorem c_273_64 : ax_code 273 64 = some (.ifCond .lt 100, 67) := by decide +kernel
theorem c_273_67 : ax_code 273 67 = some (.iload 4, 69) := by decide +kernel
theorem c_273_69 : ax_code 273 69 = some (.iload 6, 71) := by decide +kernel
theorem c_273_71 : ax_code 273 71 = some (.ishr, 72) := by decide +kernel
theorem c_273_72 : ax_code 273 72 = some (.iconst 1, 73) := by decide +kernel
theorem c_273_73 : ax_code 273 73 = some (.iand, 74) := by decide +kernel
theorem c_273_74 : ax_code 273 74 = some (.iconst 1, 75) := by decide +kernel
theorem c_273_75 : ax_code 273 75 = some (.if_icmp .ne 100, 78) := by decide +kernel
theorem c_273_78 : ax_code 273 78 = some (.iload 4, 80) := by decide +kernel
theorem c_273_80 : ax_code 273 80 = some (.iconst 1, 81) := by decide +kernel
theorem c_273_81 : ax_code 273 81 = some (.iload 5, 83) := by decide +kernel
theorem c_273_83 : ax_code 273 83 = some (.ishl, 84) := by decide +kernel
theorem c_273_84 : ax_code 273 84 = some (.ior, 85) := by decide +kernel
theorem c_273_85 : ax_code 273 85 = some (.istore 4, 87) := by decide +kernel
theorem c_273_87 : ax_code 273 87 = some (.aload 0, 88) := by decide +kernel
theorem c_273_88 : ax_code 273 88 = some (.iload 5, 90) := by decide +kernel
theorem c_273_90 : ax_code 273 90 = some (.iload 2, 91) := by decide +kernel
theorem c_273_91 : ax_code 273 91 = some (.invokevirtual 274, 94) := by decide +kernel
theorem c_273_94 : ax_code 273 94 = some (.ifCond .ne 100, 97) := by decide +kernel
theorem c_273_97 : ax_code 273 97 = some (.iconst (-1000000), 99) := by decide +kernel
theorem c_273_99 : ax_code 273 99 = some (.ireturn, 100) := by decide +kernel
theorem c_273_100 : ax_code 273 100 = some (.iinc 5 (1), 103) := by decide +kernel
theorem c_273_103 : ax_code 273 103 = some (.goto 42, 106) := by decide +kernel
theorem c_273_106 : ax_code 273 106 = some (.iload 4, 108) := by decide +kernel
theorem c_273_108 : ax_code 273 108 = some (.invokestatic 240, 111) := by decide +kernel
theorem c_273_111 : ax_code 273 111 = some (.iconst 1, 112) := by decide +kernel
theorem c_273_112 : ax_code 273 112 = some (.isub, 113) := by decide +kernel
theorem c_273_113 : ax_code 273 113 = some (.ireturn, 114) := by decide +kernel
