/-! instructions, made plain -/
theorem c_0_0 : ax_code 0 0 = some (.aload 0, 1) := by decide +kernel
theorem c_0_1 : ax_code 0 1 = some (.invokedynamic 6, 4) := by decide +kernel
theorem c_0_4 : ax_code 0 4 = some (.aload 0, 5) := by decide +kernel
theorem c_0_5 : ax_code 0 5 = some (.new 7, 8) := by decide +kernel
theorem c_0_8 : ax_code 0 8 = some (.dup, 9) := by decide +kernel
theorem c_0_9 : ax_code 0 9 = some (.invokespecial 1, 12) := by decide +kernel
theorem c_0_12 : ax_code 0 12 = some (.putfield 640, 15) := by decide +kernel
theorem c_0_15 : ax_code 0 15 = some (.aload 0, 16) := by decide +kernel
theorem c_0_16 : ax_code 0 16 = some (.new 9, 19) := by decide +kernel
theorem c_0_19 : ax_code 0 19 = some (.dup, 20) := by decide +kernel
theorem c_0_20 : ax_code 0 20 = some (.invokespecial 3, 23) := by decide +kernel
theorem c_0_23 : ax_code 0 23 = some (.putfield 641, 26) := by decide +kernel
theorem c_0_26 : ax_code 0 26 = some (.aload 0, 27) := by decide +kernel
theorem c_0_27 : ax_code 0 27 = some (.new 4, 30) := by decide +kernel
theorem c_0_30 : ax_code 0 30 = some (.dup, 31) := by decide +kernel
theorem c_0_31 : ax_code 0 31 = some (.invokespecial 4, 34) := by decide +kernel
theorem c_0_34 : ax_code 0 34 = some (.putfield 642, 37) := by decide +kernel
theorem c_0_37 : ax_code 0 37 = some (.aload 0, 38) := by decide +kernel
theorem c_0_38 : ax_code 0 38 = some (.new 4, 41) := by decide +kernel
theorem c_0_41 : ax_code 0 41 = some (.dup, 42) := by decide +kernel
theorem c_0_42 : ax_code 0 42 = some (.invokespecial 4, 45) := by decide +kernel
theorem c_0_45 : ax_code 0 45 = some (.putfield 643, 48) := by decide +kernel
theorem c_0_48 : ax_code 0 48 = some (.aload 0, 49) := by decide +kernel
theorem c_0_49 : ax_code 0 49 = some (.new 4, 52) := by decide +kernel
theorem c_0_52 : ax_code 0 52 = some (.dup, 53) := by decide +kernel
theorem c_0_53 : ax_code 0 53 = some (.invokespecial 4, 56) := by decide +kernel
theorem c_0_56 : ax_code 0 56 = some (.putfield 644, 59) := by decide +kernel
theorem c_0_59 : ax_code 0 59 = some (.aload 0, 60) := by decide +kernel
theorem c_0_60 : ax_code 0 60 = some (.new 5, 63) := by decide +kernel
theorem c_0_63 : ax_code 0 63 = some (.dup, 64) := by decide +kernel
theorem c_0_64 : ax_code 0 64 = some (.invokespecial 5, 67) := by decide +kernel
theorem c_0_67 : ax_code 0 67 = some (.putfield 645, 70) := by decide +kernel
theorem c_0_70 : ax_code 0 70 = some (.aload 0, 71) := by decide +kernel
theorem c_0_71 : ax_code 0 71 = some (.new 6, 74) := by decide +kernel
theorem c_0_74 : ax_code 0 74 = some (.dup, 75) := by decide +kernel
theorem c_0_75 : ax_code 0 75 = some (.invokespecial 7, 78) := by decide +kernel
theorem c_0_78 : ax_code 0 78 = some (.putfield 646, 81) := by decide +kernel
theorem c_0_81 : ax_code 0 81 = some (.aload 0, 82) := by decide +kernel
theorem c_0_82 : ax_code 0 82 = some (.new 8, 85) := by decide +kernel
theorem c_0_85 : ax_code 0 85 = some (.dup, 86) := by decide +kernel
theorem c_0_86 : ax_code 0 86 = some (.invokespecial 8, 89) := by decide +kernel
theorem c_0_89 : ax_code 0 89 = some (.putfield 647, 92) := by decide +kernel
theorem c_0_92 : ax_code 0 92 = some (.aload 0, 93) := by decide +kernel
theorem c_0_93 : ax_code 0 93 = some (.new 2, 96) := by decide +kernel
theorem c_0_96 : ax_code 0 96 = some (.dup, 97) := by decide +kernel
theorem c_0_97 : ax_code 0 97 = some (.invokespecial 9, 100) := by decide +kernel
theorem c_0_100 : ax_code 0 100 = some (.putfield 648, 103) := by decide +kernel
theorem c_0_103 : ax_code 0 103 = some (.aload 0, 104) := by decide +kernel
theorem c_0_104 : ax_code 0 104 = some (.new 0, 107) := by decide +kernel
theorem c_0_107 : ax_code 0 107 = some (.dup, 108) := by decide +kernel
theorem c_0_108 : ax_code 0 108 = some (.invokespecial 11, 111) := by decide +kernel
theorem c_0_111 : ax_code 0 111 = some (.putfield 649, 114) := by decide +kernel
theorem c_0_114 : ax_code 0 114 = some (.aload 0, 115) := by decide +kernel
theorem c_0_115 : ax_code 0 115 = some (.iconst 0, 116) := by decide +kernel
theorem c_0_116 : ax_code 0 116 = some (.putfield 650, 119) := by decide +kernel
theorem c_0_119 : ax_code 0 119 = some (.return_, 120) := by decide +kernel
theorem c_1_0 : ax_code 1 0 = some (.aload 0, 1) := by decide +kernel
theorem c_1_1 : ax_code 1 1 = some (.invokedynamic 6, 4) := by decide +kernel
theorem c_1_4 : ax_code 1 4 = some (.aload 0, 5) := by decide +kernel
theorem c_1_5 : ax_code 1 5 = some (.iconst 8, 7) := by decide +kernel
theorem c_1_7 : ax_code 1 7 = some (.newarray .int, 9) := by decide +kernel
theorem c_1_9 : ax_code 1 9 = some (.putfield 448, 12) := by decide +kernel
theorem c_1_12 : ax_code 1 12 = some (.aload 0, 13) := by decide +kernel
theorem c_1_13 : ax_code 1 13 = some (.iconst 8, 15) := by decide +kernel
theorem c_1_15 : ax_code 1 15 = some (.newarray .int, 17) := by decide +kernel
theorem c_1_17 : ax_code 1 17 = some (.putfield 449, 20) := by decide +kernel
theorem c_1_20 : ax_code 1 20 = some (.aload 0, 21) := by decide +kernel
theorem c_1_21 : ax_code 1 21 = some (.iconst 320, 24) := by decide +kernel
theorem c_1_24 : ax_code 1 24 = some (.newarray .int, 26) := by decide +kernel
theorem c_1_26 : ax_code 1 26 = some (.putfield 450, 29) := by decide +kernel
theorem c_1_29 : ax_code 1 29 = some (.aload 0, 30) := by decide +kernel
theorem c_1_30 : ax_code 1 30 = some (.getfield 449, 33) := by decide +kernel
theorem c_1_33 : ax_code 1 33 = some (.iconst (-1), 34) := by decide +kernel
theorem c_1_34 : ax_code 1 34 = some (.invokestatic 2, 37) := by decide +kernel
theorem c_1_37 : ax_code 1 37 = some (.return_, 38) := by decide +kernel
theorem c_2_0 : ax_code 2 0 = some (.iconst 0, 1) := by decide +kernel
theorem c_2_1 : ax_code 2 1 = some (.istore 2, 2) := by decide +kernel
theorem c_2_2 : ax_code 2 2 = some (.aload 0, 3) := by decide +kernel
theorem c_2_3 : ax_code 2 3 = some (.arraylength, 4) := by decide +kernel
theorem c_2_4 : ax_code 2 4 = some (.istore 3, 5) := by decide +kernel
theorem c_2_5 : ax_code 2 5 = some (.iload 2, 6) := by decide +kernel
theorem c_2_6 : ax_code 2 6 = some (.iload 3, 7) := by decide +kernel
theorem c_2_7 : ax_code 2 7 = some (.if_icmp .ge 20, 10) := by decide +kernel
theorem c_2_10 : ax_code 2 10 = some (.aload 0, 11) := by decide +kernel
theorem c_2_11 : ax_code 2 11 = some (.iload 2, 12) := by decide +kernel
theorem c_2_12 : ax_code 2 12 = some (.iload 1, 13) := by decide +kernel
theorem c_2_13 : ax_code 2 13 = some (.iastore, 14) := by decide +kernel
theorem c_2_14 : ax_code 2 14 = some (.iinc 2 (1), 17) := by decide +kernel
theorem c_2_17 : ax_code 2 17 = some (.goto 5, 20) := by decide +kernel
theorem c_2_20 : ax_code 2 20 = some (.return_, 21) := by decide +kernel
theorem c_3_0 : ax_code 3 0 = some (.aload 0, 1) := by decide +kernel
theorem c_3_1 : ax_code 3 1 = some (.invokedynamic 6, 4) := by decide +kernel
theorem c_3_4 : ax_code 3 4 = some (.aload 0, 5) := by decide +kernel
theorem c_3_5 : ax_code 3 5 = some (.iconst 500, 8) := by decide +kernel
theorem c_3_8 : ax_code 3 8 = some (.newarray .byte, 10) := by decide +kernel
theorem c_3_10 : ax_code 3 10 = some (.putfield 576, 13) := by decide +kernel
theorem c_3_13 : ax_code 3 13 = some (.return_, 14) := by decide +kernel
theorem c_4_0 : ax_code 4 0 = some (.aload 0, 1) := by decide +kernel
theorem c_4_1 : ax_code 4 1 = some (.invokedynamic 6, 4) := by decide +kernel
theorem c_4_4 : ax_code 4 4 = some (.aload 0, 5) := by decide +kernel
theorem c_4_5 : ax_code 4 5 = some (.new 5, 8) := by decide +kernel
theorem c_4_8 : ax_code 4 8 = some (.dup, 9) := by decide +kernel
theorem c_4_9 : ax_code 4 9 = some (.invokespecial 5, 12) := by decide +kernel
theorem c_4_12 : ax_code 4 12 = some (.putfield 256, 15) := by decide +kernel
theorem c_4_15 : ax_code 4 15 = some (.aload 0, 16) := by decide +kernel
theorem c_4_16 : ax_code 4 16 = some (.new 1, 19) := by decide +kernel
theorem c_4_19 : ax_code 4 19 = some (.dup, 20) := by decide +kernel
theorem c_4_20 : ax_code 4 20 = some (.invokespecial 6, 23) := by decide +kernel
theorem c_4_23 : ax_code 4 23 = some (.putfield 257, 26) := by decide +kernel
theorem c_4_26 : ax_code 4 26 = some (.return_, 27) := by decide +kernel
theorem c_5_0 : ax_code 5 0 = some (.aload 0, 1) := by decide +kernel
theorem c_5_1 : ax_code 5 1 = some (.invokedynamic 6, 4) := by decide +kernel
theorem c_5_4 : ax_code 5 4 = some (.aload 0, 5) := by decide +kernel
theorem c_5_5 : ax_code 5 5 = some (.iconst 16, 7) := by decide +kernel
theorem c_5_7 : ax_code 5 7 = some (.newarray .int, 9) := by decide +kernel
theorem c_5_9 : ax_code 5 9 = some (.putfield 322, 12) := by decide +kernel
theorem c_5_12 : ax_code 5 12 = some (.aload 0, 13) := by decide +kernel
theorem c_5_13 : ax_code 5 13 = some (.iconst 16, 15) := by decide +kernel
theorem c_5_15 : ax_code 5 15 = some (.newarray .int, 17) := by decide +kernel
theorem c_5_17 : ax_code 5 17 = some (.putfield 323, 20) := by decide +kernel
theorem c_5_20 : ax_code 5 20 = some (.aload 0, 21) := by decide +kernel
theorem c_5_21 : ax_code 5 21 = some (.iconst 16, 23) := by decide +kernel
theorem c_5_23 : ax_code 5 23 = some (.newarray .int, 25) := by decide +kernel
theorem c_5_25 : ax_code 5 25 = some (.putfield 324, 28) := by decide +kernel
theorem c_5_28 : ax_code 5 28 = some (.aload 0, 29) := by decide +kernel
theorem c_5_29 : ax_code 5 29 = some (.iconst 16, 31) := by decide +kernel
theorem c_5_31 : ax_code 5 31 = some (.newarray .int, 33) := by decide +kernel
theorem c_5_33 : ax_code 5 33 = some (.putfield 325, 36) := by decide +kernel
theorem c_5_36 : ax_code 5 36 = some (.aload 0, 37) := by decide +kernel
theorem c_5_37 : ax_code 5 37 = some (.iconst 8, 39) := by decide +kernel
theorem c_5_39 : ax_code 5 39 = some (.newarray .int, 41) := by decide +kernel
theorem c_5_41 : ax_code 5 41 = some (.putfield 327, 44) := by decide +kernel
theorem c_5_44 : ax_code 5 44 = some (.aload 0, 45) := by decide +kernel
theorem c_5_45 : ax_code 5 45 = some (.iconst 8, 47) := by decide +kernel
theorem c_5_47 : ax_code 5 47 = some (.newarray .int, 49) := by decide +kernel
theorem c_5_49 : ax_code 5 49 = some (.putfield 328, 52) := by decide +kernel
theorem c_5_52 : ax_code 5 52 = some (.aload 0, 53) := by decide +kernel
theorem c_5_53 : ax_code 5 53 = some (.iconst 8, 55) := by decide +kernel
theorem c_5_55 : ax_code 5 55 = some (.newarray .int, 57) := by decide +kernel
theorem c_5_57 : ax_code 5 57 = some (.putfield 329, 60) := by decide +kernel
theorem c_5_60 : ax_code 5 60 = some (.aload 0, 61) := by decide +kernel
theorem c_5_61 : ax_code 5 61 = some (.iconst 8, 63) := by decide +kernel
theorem c_5_63 : ax_code 5 63 = some (.newarray .int, 65) := by decide +kernel
theorem c_5_65 : ax_code 5 65 = some (.putfield 330, 68) := by decide +kernel
theorem c_5_68 : ax_code 5 68 = some (.return_, 69) := by decide +kernel
theorem c_6_0 : ax_code 6 0 = some (.aload 0, 1) := by decide +kernel
theorem c_6_1 : ax_code 6 1 = some (.invokedynamic 6, 4) := by decide +kernel
theorem c_6_4 : ax_code 6 4 = some (.aload 0, 5) := by decide +kernel
theorem c_6_5 : ax_code 6 5 = some (.iconst 12, 7) := by decide +kernel
theorem c_6_7 : ax_code 6 7 = some (.newarray .int, 9) := by decide +kernel
theorem c_6_9 : ax_code 6 9 = some (.putfield 65, 12) := by decide +kernel
theorem c_6_12 : ax_code 6 12 = some (.aload 0, 13) := by decide +kernel
theorem c_6_13 : ax_code 6 13 = some (.iconst 12, 15) := by decide +kernel
theorem c_6_15 : ax_code 6 15 = some (.newarray .int, 17) := by decide +kernel
theorem c_6_17 : ax_code 6 17 = some (.putfield 66, 20) := by decide +kernel
theorem c_6_20 : ax_code 6 20 = some (.aload 0, 21) := by decide +kernel
theorem c_6_21 : ax_code 6 21 = some (.iconst 12, 23) := by decide +kernel
theorem c_6_23 : ax_code 6 23 = some (.newarray .int, 25) := by decide +kernel
theorem c_6_25 : ax_code 6 25 = some (.putfield 67, 28) := by decide +kernel
theorem c_6_28 : ax_code 6 28 = some (.aload 0, 29) := by decide +kernel
theorem c_6_29 : ax_code 6 29 = some (.iconst 132, 32) := by decide +kernel
theorem c_6_32 : ax_code 6 32 = some (.newarray .int, 34) := by decide +kernel
theorem c_6_34 : ax_code 6 34 = some (.putfield 68, 37) := by decide +kernel
theorem c_6_37 : ax_code 6 37 = some (.return_, 38) := by decide +kernel
theorem c_7_0 : ax_code 7 0 = some (.aload 0, 1) := by decide +kernel
theorem c_7_1 : ax_code 7 1 = some (.invokedynamic 6, 4) := by decide +kernel
theorem c_7_4 : ax_code 7 4 = some (.aload 0, 5) := by decide +kernel
theorem c_7_5 : ax_code 7 5 = some (.iconst 11, 7) := by decide +kernel
theorem c_7_7 : ax_code 7 7 = some (.newarray .int, 9) := by decide +kernel
theorem c_7_9 : ax_code 7 9 = some (.putfield 386, 12) := by decide +kernel
theorem c_7_12 : ax_code 7 12 = some (.return_, 13) := by decide +kernel
theorem c_8_0 : ax_code 8 0 = some (.aload 0, 1) := by decide +kernel
theorem c_8_1 : ax_code 8 1 = some (.invokedynamic 6, 4) := by decide +kernel
theorem c_8_4 : ax_code 8 4 = some (.aload 0, 5) := by decide +kernel
theorem c_8_5 : ax_code 8 5 = some (.iconst 12, 7) := by decide +kernel
theorem c_8_7 : ax_code 8 7 = some (.newarray .int, 9) := by decide +kernel
theorem c_8_9 : ax_code 8 9 = some (.putfield 512, 12) := by decide +kernel
theorem c_8_12 : ax_code 8 12 = some (.aload 0, 13) := by decide +kernel
theorem c_8_13 : ax_code 8 13 = some (.iconst 4096, 16) := by decide +kernel
theorem c_8_16 : ax_code 8 16 = some (.newarray .int, 18) := by decide +kernel
theorem c_8_18 : ax_code 8 18 = some (.putfield 513, 21) := by decide +kernel
theorem c_8_21 : ax_code 8 21 = some (.return_, 22) := by decide +kernel
theorem c_9_0 : ax_code 9 0 = some (.aload 0, 1) := by decide +kernel
theorem c_9_1 : ax_code 9 1 = some (.invokedynamic 6, 4) := by decide +kernel
theorem c_9_4 : ax_code 9 4 = some (.aload 0, 5) := by decide +kernel
theorem c_9_5 : ax_code 9 5 = some (.new 3, 8) := by decide +kernel
theorem c_9_8 : ax_code 9 8 = some (.dup, 9) := by decide +kernel
theorem c_9_9 : ax_code 9 9 = some (.invokespecial 10, 12) := by decide +kernel
theorem c_9_12 : ax_code 9 12 = some (.putfield 128, 15) := by decide +kernel
theorem c_9_15 : ax_code 9 15 = some (.aload 0, 16) := by decide +kernel
theorem c_9_16 : ax_code 9 16 = some (.iconst 121, 18) := by decide +kernel
theorem c_9_18 : ax_code 9 18 = some (.newarray .int, 20) := by decide +kernel
theorem c_9_20 : ax_code 9 20 = some (.putfield 130, 23) := by decide +kernel
theorem c_9_23 : ax_code 9 23 = some (.aload 0, 24) := by decide +kernel
theorem c_9_24 : ax_code 9 24 = some (.iconst 11, 26) := by decide +kernel
theorem c_9_26 : ax_code 9 26 = some (.newarray .int, 28) := by decide +kernel
theorem c_9_28 : ax_code 9 28 = some (.putfield 131, 31) := by decide +kernel
theorem c_9_31 : ax_code 9 31 = some (.aload 0, 32) := by decide +kernel
theorem c_9_32 : ax_code 9 32 = some (.iconst 11, 34) := by decide +kernel
theorem c_9_34 : ax_code 9 34 = some (.newarray .int, 36) := by decide +kernel
theorem c_9_36 : ax_code 9 36 = some (.putfield 132, 39) := by decide +kernel
theorem c_9_39 : ax_code 9 39 = some (.aload 0, 40) := by decide +kernel
theorem c_9_40 : ax_code 9 40 = some (.iconst 11, 42) := by decide +kernel
theorem c_9_42 : ax_code 9 42 = some (.newarray .int, 44) := by decide +kernel
theorem c_9_44 : ax_code 9 44 = some (.putfield 133, 47) := by decide +kernel
theorem c_9_47 : ax_code 9 47 = some (.aload 0, 48) := by decide +kernel
theorem c_9_48 : ax_code 9 48 = some (.iconst 11, 50) := by decide +kernel
theorem c_9_50 : ax_code 9 50 = some (.newarray .int, 52) := by decide +kernel
theorem c_9_52 : ax_code 9 52 = some (.putfield 134, 55) := by decide +kernel
theorem c_9_55 : ax_code 9 55 = some (.aload 0, 56) := by decide +kernel
theorem c_9_56 : ax_code 9 56 = some (.iconst 6, 58) := by decide +kernel
theorem c_9_58 : ax_code 9 58 = some (.newarray .int, 60) := by decide +kernel
theorem c_9_60 : ax_code 9 60 = some (.putfield 135, 63) := by decide +kernel
theorem c_9_63 : ax_code 9 63 = some (.aload 0, 64) := by decide +kernel
theorem c_9_64 : ax_code 9 64 = some (.iconst 11, 66) := by decide +kernel
theorem c_9_66 : ax_code 9 66 = some (.newarray .int, 68) := by decide +kernel
theorem c_9_68 : ax_code 9 68 = some (.putfield 137, 71) := by decide +kernel
theorem c_9_71 : ax_code 9 71 = some (.aload 0, 72) := by decide +kernel
theorem c_9_72 : ax_code 9 72 = some (.iconst 11, 74) := by decide +kernel
theorem c_9_74 : ax_code 9 74 = some (.newarray .int, 76) := by decide +kernel
theorem c_9_76 : ax_code 9 76 = some (.putfield 144, 79) := by decide +kernel
theorem c_9_79 : ax_code 9 79 = some (.return_, 80) := by decide +kernel
theorem c_10_0 : ax_code 10 0 = some (.aload 0, 1) := by decide +kernel
theorem c_10_1 : ax_code 10 1 = some (.invokedynamic 6, 4) := by decide +kernel
theorem c_10_4 : ax_code 10 4 = some (.aload 0, 5) := by decide +kernel
theorem c_10_5 : ax_code 10 5 = some (.iconst 6, 7) := by decide +kernel
theorem c_10_7 : ax_code 10 7 = some (.newarray .int, 9) := by decide +kernel
theorem c_10_9 : ax_code 10 9 = some (.putfield 193, 12) := by decide +kernel
theorem c_10_12 : ax_code 10 12 = some (.aload 0, 13) := by decide +kernel
theorem c_10_13 : ax_code 10 13 = some (.iconst 66, 15) := by decide +kernel
theorem c_10_15 : ax_code 10 15 = some (.newarray .int, 17) := by decide +kernel
theorem c_10_17 : ax_code 10 17 = some (.putfield 194, 20) := by decide +kernel
theorem c_10_20 : ax_code 10 20 = some (.aload 0, 21) := by decide +kernel
theorem c_10_21 : ax_code 10 21 = some (.iconst 11, 23) := by decide +kernel
theorem c_10_23 : ax_code 10 23 = some (.newarray .int, 25) := by decide +kernel
theorem c_10_25 : ax_code 10 25 = some (.putfield 195, 28) := by decide +kernel
theorem c_10_28 : ax_code 10 28 = some (.aload 0, 29) := by decide +kernel
theorem c_10_29 : ax_code 10 29 = some (.iconst 66, 31) := by decide +kernel
theorem c_10_31 : ax_code 10 31 = some (.newarray .int, 33) := by decide +kernel
theorem c_10_33 : ax_code 10 33 = some (.putfield 196, 36) := by decide +kernel
theorem c_10_36 : ax_code 10 36 = some (.return_, 37) := by decide +kernel
theorem c_11_0 : ax_code 11 0 = some (.aload 0, 1) := by decide +kernel
theorem c_11_1 : ax_code 11 1 = some (.invokedynamic 6, 4) := by decide +kernel
theorem c_11_4 : ax_code 11 4 = some (.aload 0, 5) := by decide +kernel
theorem c_11_5 : ax_code 11 5 = some (.iconst 16, 7) := by decide +kernel
theorem c_11_7 : ax_code 11 7 = some (.newarray .int, 9) := by decide +kernel
theorem c_11_9 : ax_code 11 9 = some (.putfield 0, 12) := by decide +kernel
theorem c_11_12 : ax_code 11 12 = some (.return_, 13) := by decide +kernel
theorem c_12_0 : ax_code 12 0 = some (.iload 1, 1) := by decide +kernel
theorem c_12_1 : ax_code 12 1 = some (.invokestatic 13, 4) := by decide +kernel
theorem c_12_4 : ax_code 12 4 = some (.ifCond .eq 22, 7) := by decide +kernel
theorem c_12_7 : ax_code 12 7 = some (.iload 2, 8) := by decide +kernel
theorem c_12_8 : ax_code 12 8 = some (.ifCond .lt 22, 11) := by decide +kernel
theorem c_12_11 : ax_code 12 11 = some (.iload 2, 12) := by decide +kernel
theorem c_12_12 : ax_code 12 12 = some (.iconst 2, 13) := by decide +kernel
theorem c_12_13 : ax_code 12 13 = some (.if_icmp .gt 22, 16) := by decide +kernel
theorem c_12_16 : ax_code 12 16 = some (.iload 3, 17) := by decide +kernel
theorem c_12_17 : ax_code 12 17 = some (.iconst 40, 19) := by decide +kernel
theorem c_12_19 : ax_code 12 19 = some (.if_icmp .le 26, 22) := by decide +kernel
theorem c_12_22 : ax_code 12 22 = some (.ldc2_w 0, 25) := by decide +kernel
theorem c_12_25 : ax_code 12 25 = some (.lreturn, 26) := by decide +kernel
theorem c_12_26 : ax_code 12 26 = some (.iload 3, 27) := by decide +kernel
theorem c_12_27 : ax_code 12 27 = some (.ifCond .ge 36, 30) := by decide +kernel
theorem c_12_30 : ax_code 12 30 = some (.aload 0, 31) := by decide +kernel
theorem c_12_31 : ax_code 12 31 = some (.iconst 4, 32) := by decide +kernel
theorem c_12_32 : ax_code 12 32 = some (.invokevirtual 14, 35) := by decide +kernel
theorem c_12_35 : ax_code 12 35 = some (.lreturn, 36) := by decide +kernel
theorem c_12_36 : ax_code 12 36 = some (.aload 0, 37) := by decide +kernel
theorem c_12_37 : ax_code 12 37 = some (.getfield 640, 40) := by decide +kernel
theorem c_12_40 : ax_code 12 40 = some (.iload 1, 41) := by decide +kernel
theorem c_12_41 : ax_code 12 41 = some (.iload 2, 42) := by decide +kernel
theorem c_12_42 : ax_code 12 42 = some (.iload 3, 43) := by decide +kernel
theorem c_12_43 : ax_code 12 43 = some (.invokevirtual 15, 46) := by decide +kernel
theorem c_12_46 : ax_code 12 46 = some (.aload 0, 47) := by decide +kernel
theorem c_12_47 : ax_code 12 47 = some (.iload 3, 48) := by decide +kernel
theorem c_12_48 : ax_code 12 48 = some (.i2l, 49) := by decide +kernel
theorem c_12_49 : ax_code 12 49 = some (.invokevirtual 16, 52) := by decide +kernel
theorem c_12_52 : ax_code 12 52 = some (.lreturn, 53) := by decide +kernel
theorem c_13_0 : ax_code 13 0 = some (.iload 0, 1) := by decide +kernel
theorem c_13_1 : ax_code 13 1 = some (.ifCond .lt 14, 4) := by decide +kernel
theorem c_13_4 : ax_code 13 4 = some (.iload 0, 5) := by decide +kernel
theorem c_13_5 : ax_code 13 5 = some (.iconst 8, 7) := by decide +kernel
theorem c_13_7 : ax_code 13 7 = some (.if_icmp .ge 14, 10) := by decide +kernel
theorem c_13_10 : ax_code 13 10 = some (.iconst 1, 11) := by decide +kernel
theorem c_13_11 : ax_code 13 11 = some (.goto 15, 14) := by decide +kernel
theorem c_13_14 : ax_code 13 14 = some (.iconst 0, 15) := by decide +kernel
theorem c_13_15 : ax_code 13 15 = some (.ireturn, 16) := by decide +kernel
theorem c_14_0 : ax_code 14 0 = some (.aload 0, 1) := by decide +kernel
theorem c_14_1 : ax_code 14 1 = some (.iload 1, 2) := by decide +kernel
theorem c_14_2 : ax_code 14 2 = some (.putfield 650, 5) := by decide +kernel
theorem c_14_5 : ax_code 14 5 = some (.ldc2_w 1, 8) := by decide +kernel
theorem c_14_8 : ax_code 14 8 = some (.iload 1, 9) := by decide +kernel
theorem c_14_9 : ax_code 14 9 = some (.i2l, 10) := by decide +kernel
theorem c_14_10 : ax_code 14 10 = some (.lsub, 11) := by decide +kernel
theorem c_14_11 : ax_code 14 11 = some (.lreturn, 12) := by decide +kernel
theorem c_15_0 : ax_code 15 0 = some (.iload 1, 1) := by decide +kernel
theorem c_15_1 : ax_code 15 1 = some (.invokestatic 13, 4) := by decide +kernel
theorem c_15_4 : ax_code 15 4 = some (.ifCond .eq 17, 7) := by decide +kernel
theorem c_15_7 : ax_code 15 7 = some (.iload 3, 8) := by decide +kernel
theorem c_15_8 : ax_code 15 8 = some (.ifCond .lt 17, 11) := by decide +kernel
theorem c_15_11 : ax_code 15 11 = some (.iload 3, 12) := by decide +kernel
theorem c_15_12 : ax_code 15 12 = some (.iconst 40, 14) := by decide +kernel
theorem c_15_14 : ax_code 15 14 = some (.if_icmp .le 18, 17) := by decide +kernel
theorem c_15_17 : ax_code 15 17 = some (.return_, 18) := by decide +kernel
theorem c_15_18 : ax_code 15 18 = some (.aload 0, 19) := by decide +kernel
theorem c_15_19 : ax_code 15 19 = some (.getfield 448, 22) := by decide +kernel
theorem c_15_22 : ax_code 15 22 = some (.iload 1, 23) := by decide +kernel
theorem c_15_23 : ax_code 15 23 = some (.iload 2, 24) := by decide +kernel
theorem c_15_24 : ax_code 15 24 = some (.iastore, 25) := by decide +kernel
theorem c_15_25 : ax_code 15 25 = some (.aload 0, 26) := by decide +kernel
theorem c_15_26 : ax_code 15 26 = some (.getfield 449, 29) := by decide +kernel
theorem c_15_29 : ax_code 15 29 = some (.iload 1, 30) := by decide +kernel
theorem c_15_30 : ax_code 15 30 = some (.iload 3, 31) := by decide +kernel
theorem c_15_31 : ax_code 15 31 = some (.iastore, 32) := by decide +kernel
theorem c_15_32 : ax_code 15 32 = some (.iconst 0, 33) := by decide +kernel
theorem c_15_33 : ax_code 15 33 = some (.istore 4, 35) := by decide +kernel
theorem c_15_35 : ax_code 15 35 = some (.iload 4, 37) := by decide +kernel
theorem c_15_37 : ax_code 15 37 = some (.iload 3, 38) := by decide +kernel
theorem c_15_38 : ax_code 15 38 = some (.if_icmp .ge 60, 41) := by decide +kernel
theorem c_15_41 : ax_code 15 41 = some (.aload 0, 42) := by decide +kernel
theorem c_15_42 : ax_code 15 42 = some (.getfield 450, 45) := by decide +kernel
theorem c_15_45 : ax_code 15 45 = some (.iload 1, 46) := by decide +kernel
theorem c_15_46 : ax_code 15 46 = some (.iconst 40, 48) := by decide +kernel
theorem c_15_48 : ax_code 15 48 = some (.imul, 49) := by decide +kernel
theorem c_15_49 : ax_code 15 49 = some (.iload 4, 51) := by decide +kernel
theorem c_15_51 : ax_code 15 51 = some (.iadd, 52) := by decide +kernel
theorem c_15_52 : ax_code 15 52 = some (.iconst 0, 53) := by decide +kernel
theorem c_15_53 : ax_code 15 53 = some (.iastore, 54) := by decide +kernel
theorem c_15_54 : ax_code 15 54 = some (.iinc 4 (1), 57) := by decide +kernel
theorem c_15_57 : ax_code 15 57 = some (.goto 35, 60) := by decide +kernel
theorem c_15_60 : ax_code 15 60 = some (.return_, 61) := by decide +kernel
theorem c_16_0 : ax_code 16 0 = some (.aload 0, 1) := by decide +kernel
theorem c_16_1 : ax_code 16 1 = some (.iconst 0, 2) := by decide +kernel
theorem c_16_2 : ax_code 16 2 = some (.putfield 650, 5) := by decide +kernel
theorem c_16_5 : ax_code 16 5 = some (.lload 1, 6) := by decide +kernel
theorem c_16_6 : ax_code 16 6 = some (.lreturn, 7) := by decide +kernel
theorem c_17_0 : ax_code 17 0 = some (.iload 1, 1) := by decide +kernel
theorem c_17_1 : ax_code 17 1 = some (.invokestatic 13, 4) := by decide +kernel
theorem c_17_4 : ax_code 17 4 = some (.ifCond .ne 11, 7) := by decide +kernel
theorem c_17_7 : ax_code 17 7 = some (.ldc2_w 0, 10) := by decide +kernel
theorem c_17_10 : ax_code 17 10 = some (.lreturn, 11) := by decide +kernel
theorem c_17_11 : ax_code 17 11 = some (.aload 0, 12) := by decide +kernel
theorem c_17_12 : ax_code 17 12 = some (.getfield 640, 15) := by decide +kernel
theorem c_17_15 : ax_code 17 15 = some (.iload 1, 16) := by decide +kernel
theorem c_17_16 : ax_code 17 16 = some (.invokevirtual 18, 19) := by decide +kernel
theorem c_17_19 : ax_code 17 19 = some (.ifCond .eq 28, 22) := by decide +kernel
theorem c_17_22 : ax_code 17 22 = some (.aload 0, 23) := by decide +kernel
theorem c_17_23 : ax_code 17 23 = some (.iconst 1, 24) := by decide +kernel
theorem c_17_24 : ax_code 17 24 = some (.invokevirtual 14, 27) := by decide +kernel
theorem c_17_27 : ax_code 17 27 = some (.lreturn, 28) := by decide +kernel
theorem c_17_28 : ax_code 17 28 = some (.aload 0, 29) := by decide +kernel
theorem c_17_29 : ax_code 17 29 = some (.getfield 640, 32) := by decide +kernel
theorem c_17_32 : ax_code 17 32 = some (.iload 1, 33) := by decide +kernel
theorem c_17_33 : ax_code 17 33 = some (.iload 2, 34) := by decide +kernel
theorem c_17_34 : ax_code 17 34 = some (.iconst 1, 35) := by decide +kernel
theorem c_17_35 : ax_code 17 35 = some (.invokevirtual 20, 38) := by decide +kernel
theorem c_17_38 : ax_code 17 38 = some (.ifCond .ne 47, 41) := by decide +kernel
theorem c_17_41 : ax_code 17 41 = some (.aload 0, 42) := by decide +kernel
theorem c_17_42 : ax_code 17 42 = some (.iconst 2, 43) := by decide +kernel
theorem c_17_43 : ax_code 17 43 = some (.invokevirtual 14, 46) := by decide +kernel
theorem c_17_46 : ax_code 17 46 = some (.lreturn, 47) := by decide +kernel
theorem c_17_47 : ax_code 17 47 = some (.aload 0, 48) := by decide +kernel
theorem c_17_48 : ax_code 17 48 = some (.aload 0, 49) := by decide +kernel
theorem c_17_49 : ax_code 17 49 = some (.getfield 640, 52) := by decide +kernel
theorem c_17_52 : ax_code 17 52 = some (.iload 1, 53) := by decide +kernel
theorem c_17_53 : ax_code 17 53 = some (.iload 2, 54) := by decide +kernel
theorem c_17_54 : ax_code 17 54 = some (.iload 3, 55) := by decide +kernel
theorem c_17_55 : ax_code 17 55 = some (.invokevirtual 21, 58) := by decide +kernel
theorem c_17_58 : ax_code 17 58 = some (.i2l, 59) := by decide +kernel
theorem c_17_59 : ax_code 17 59 = some (.invokevirtual 16, 62) := by decide +kernel
theorem c_17_62 : ax_code 17 62 = some (.lreturn, 63) := by decide +kernel
theorem c_18_0 : ax_code 18 0 = some (.aload 0, 1) := by decide +kernel
theorem c_18_1 : ax_code 18 1 = some (.iload 1, 2) := by decide +kernel
theorem c_18_2 : ax_code 18 2 = some (.invokevirtual 19, 5) := by decide +kernel
theorem c_18_5 : ax_code 18 5 = some (.iconst (-1), 6) := by decide +kernel
theorem c_18_6 : ax_code 18 6 = some (.if_icmp .ne 13, 9) := by decide +kernel
theorem c_18_9 : ax_code 18 9 = some (.iconst 1, 10) := by decide +kernel
theorem c_18_10 : ax_code 18 10 = some (.goto 14, 13) := by decide +kernel
theorem c_18_13 : ax_code 18 13 = some (.iconst 0, 14) := by decide +kernel
theorem c_18_14 : ax_code 18 14 = some (.ireturn, 15) := by decide +kernel
theorem c_19_0 : ax_code 19 0 = some (.iload 1, 1) := by decide +kernel
theorem c_19_1 : ax_code 19 1 = some (.invokestatic 13, 4) := by decide +kernel
theorem c_19_4 : ax_code 19 4 = some (.ifCond .eq 16, 7) := by decide +kernel
theorem c_19_7 : ax_code 19 7 = some (.aload 0, 8) := by decide +kernel
theorem c_19_8 : ax_code 19 8 = some (.getfield 449, 11) := by decide +kernel
theorem c_19_11 : ax_code 19 11 = some (.iload 1, 12) := by decide +kernel
theorem c_19_12 : ax_code 19 12 = some (.iaload, 13) := by decide +kernel
theorem c_19_13 : ax_code 19 13 = some (.goto 17, 16) := by decide +kernel
theorem c_19_16 : ax_code 19 16 = some (.iconst (-1), 17) := by decide +kernel
theorem c_19_17 : ax_code 19 17 = some (.ireturn, 18) := by decide +kernel
theorem c_20_0 : ax_code 20 0 = some (.iload 2, 1) := by decide +kernel
theorem c_20_1 : ax_code 20 1 = some (.ifCond .lt 23, 4) := by decide +kernel
theorem c_20_4 : ax_code 20 4 = some (.iload 3, 5) := by decide +kernel
theorem c_20_5 : ax_code 20 5 = some (.ifCond .lt 23, 8) := by decide +kernel
theorem c_20_8 : ax_code 20 8 = some (.iload 2, 9) := by decide +kernel
theorem c_20_9 : ax_code 20 9 = some (.aload 0, 10) := by decide +kernel
theorem c_20_10 : ax_code 20 10 = some (.iload 1, 11) := by decide +kernel
theorem c_20_11 : ax_code 20 11 = some (.invokevirtual 19, 14) := by decide +kernel
theorem c_20_14 : ax_code 20 14 = some (.iload 3, 15) := by decide +kernel
theorem c_20_15 : ax_code 20 15 = some (.isub, 16) := by decide +kernel
theorem c_20_16 : ax_code 20 16 = some (.if_icmp .gt 23, 19) := by decide +kernel
theorem c_20_19 : ax_code 20 19 = some (.iconst 1, 20) := by decide +kernel
theorem c_20_20 : ax_code 20 20 = some (.goto 24, 23) := by decide +kernel
theorem c_20_23 : ax_code 20 23 = some (.iconst 0, 24) := by decide +kernel
theorem c_20_24 : ax_code 20 24 = some (.ireturn, 25) := by decide +kernel
theorem c_21_0 : ax_code 21 0 = some (.aload 0, 1) := by decide +kernel
theorem c_21_1 : ax_code 21 1 = some (.iload 1, 2) := by decide +kernel
theorem c_21_2 : ax_code 21 2 = some (.iload 2, 3) := by decide +kernel
theorem c_21_3 : ax_code 21 3 = some (.iconst 1, 4) := by decide +kernel
theorem c_21_4 : ax_code 21 4 = some (.invokevirtual 20, 7) := by decide +kernel
theorem c_21_7 : ax_code 21 7 = some (.ifCond .ne 12, 10) := by decide +kernel
theorem c_21_10 : ax_code 21 10 = some (.iconst 0, 11) := by decide +kernel
theorem c_21_11 : ax_code 21 11 = some (.ireturn, 12) := by decide +kernel
theorem c_21_12 : ax_code 21 12 = some (.aload 0, 13) := by decide +kernel
theorem c_21_13 : ax_code 21 13 = some (.getfield 448, 16) := by decide +kernel
theorem c_21_16 : ax_code 21 16 = some (.iload 1, 17) := by decide +kernel
theorem c_21_17 : ax_code 21 17 = some (.iaload, 18) := by decide +kernel
theorem c_21_18 : ax_code 21 18 = some (.istore 4, 20) := by decide +kernel
theorem c_21_20 : ax_code 21 20 = some (.iload 4, 22) := by decide +kernel
theorem c_21_22 : ax_code 21 22 = some (.ifCond .ne 30, 25) := by decide +kernel
theorem c_21_25 : ax_code 21 25 = some (.iload 3, 26) := by decide +kernel
theorem c_21_26 : ax_code 21 26 = some (.i2b, 27) := by decide +kernel
theorem c_21_27 : ax_code 21 27 = some (.goto 42, 30) := by decide +kernel
theorem c_21_30 : ax_code 21 30 = some (.iload 4, 32) := by decide +kernel
theorem c_21_32 : ax_code 21 32 = some (.iconst 1, 33) := by decide +kernel
theorem c_21_33 : ax_code 21 33 = some (.if_icmp .ne 41, 36) := by decide +kernel
theorem c_21_36 : ax_code 21 36 = some (.iload 3, 37) := by decide +kernel
theorem c_21_37 : ax_code 21 37 = some (.i2s, 38) := by decide +kernel
theorem c_21_38 : ax_code 21 38 = some (.goto 42, 41) := by decide +kernel
theorem c_21_41 : ax_code 21 41 = some (.iload 3, 42) := by decide +kernel
theorem c_21_42 : ax_code 21 42 = some (.istore 5, 44) := by decide +kernel
theorem c_21_44 : ax_code 21 44 = some (.aload 0, 45) := by decide +kernel
theorem c_21_45 : ax_code 21 45 = some (.getfield 450, 48) := by decide +kernel
theorem c_21_48 : ax_code 21 48 = some (.iload 1, 49) := by decide +kernel
theorem c_21_49 : ax_code 21 49 = some (.iconst 40, 51) := by decide +kernel
theorem c_21_51 : ax_code 21 51 = some (.imul, 52) := by decide +kernel
theorem c_21_52 : ax_code 21 52 = some (.iload 2, 53) := by decide +kernel
theorem c_21_53 : ax_code 21 53 = some (.iadd, 54) := by decide +kernel
theorem c_21_54 : ax_code 21 54 = some (.iload 5, 56) := by decide +kernel
theorem c_21_56 : ax_code 21 56 = some (.iastore, 57) := by decide +kernel
theorem c_21_57 : ax_code 21 57 = some (.iload 5, 59) := by decide +kernel
theorem c_21_59 : ax_code 21 59 = some (.ireturn, 60) := by decide +kernel
theorem c_22_0 : ax_code 22 0 = some (.iload 1, 1) := by decide +kernel
theorem c_22_1 : ax_code 22 1 = some (.invokestatic 13, 4) := by decide +kernel
theorem c_22_4 : ax_code 22 4 = some (.ifCond .eq 14, 7) := by decide +kernel
theorem c_22_7 : ax_code 22 7 = some (.iload 3, 8) := by decide +kernel
theorem c_22_8 : ax_code 22 8 = some (.invokestatic 13, 11) := by decide +kernel
theorem c_22_11 : ax_code 22 11 = some (.ifCond .ne 18, 14) := by decide +kernel
theorem c_22_14 : ax_code 22 14 = some (.ldc2_w 0, 17) := by decide +kernel
theorem c_22_17 : ax_code 22 17 = some (.lreturn, 18) := by decide +kernel
theorem c_22_18 : ax_code 22 18 = some (.aload 0, 19) := by decide +kernel
theorem c_22_19 : ax_code 22 19 = some (.getfield 640, 22) := by decide +kernel
theorem c_22_22 : ax_code 22 22 = some (.iload 1, 23) := by decide +kernel
theorem c_22_23 : ax_code 22 23 = some (.invokevirtual 18, 26) := by decide +kernel
theorem c_22_26 : ax_code 22 26 = some (.ifCond .ne 40, 29) := by decide +kernel
theorem c_22_29 : ax_code 22 29 = some (.aload 0, 30) := by decide +kernel
theorem c_22_30 : ax_code 22 30 = some (.getfield 640, 33) := by decide +kernel
theorem c_22_33 : ax_code 22 33 = some (.iload 3, 34) := by decide +kernel
theorem c_22_34 : ax_code 22 34 = some (.invokevirtual 18, 37) := by decide +kernel
theorem c_22_37 : ax_code 22 37 = some (.ifCond .eq 46, 40) := by decide +kernel
theorem c_22_40 : ax_code 22 40 = some (.aload 0, 41) := by decide +kernel
theorem c_22_41 : ax_code 22 41 = some (.iconst 1, 42) := by decide +kernel
theorem c_22_42 : ax_code 22 42 = some (.invokevirtual 14, 45) := by decide +kernel
theorem c_22_45 : ax_code 22 45 = some (.lreturn, 46) := by decide +kernel
theorem c_22_46 : ax_code 22 46 = some (.aload 0, 47) := by decide +kernel
theorem c_22_47 : ax_code 22 47 = some (.getfield 640, 50) := by decide +kernel
theorem c_22_50 : ax_code 22 50 = some (.iload 1, 51) := by decide +kernel
theorem c_22_51 : ax_code 22 51 = some (.invokevirtual 23, 54) := by decide +kernel
theorem c_22_54 : ax_code 22 54 = some (.aload 0, 55) := by decide +kernel
theorem c_22_55 : ax_code 22 55 = some (.getfield 640, 58) := by decide +kernel
theorem c_22_58 : ax_code 22 58 = some (.iload 3, 59) := by decide +kernel
theorem c_22_59 : ax_code 22 59 = some (.invokevirtual 23, 62) := by decide +kernel
theorem c_22_62 : ax_code 22 62 = some (.if_icmp .eq 71, 65) := by decide +kernel
theorem c_22_65 : ax_code 22 65 = some (.aload 0, 66) := by decide +kernel
theorem c_22_66 : ax_code 22 66 = some (.iconst 5, 67) := by decide +kernel
theorem c_22_67 : ax_code 22 67 = some (.invokevirtual 14, 70) := by decide +kernel
theorem c_22_70 : ax_code 22 70 = some (.lreturn, 71) := by decide +kernel
theorem c_22_71 : ax_code 22 71 = some (.aload 0, 72) := by decide +kernel
theorem c_22_72 : ax_code 22 72 = some (.getfield 640, 75) := by decide +kernel
theorem c_22_75 : ax_code 22 75 = some (.iload 1, 76) := by decide +kernel
theorem c_22_76 : ax_code 22 76 = some (.iload 2, 77) := by decide +kernel
theorem c_22_77 : ax_code 22 77 = some (.iload 5, 79) := by decide +kernel
theorem c_22_79 : ax_code 22 79 = some (.invokevirtual 20, 82) := by decide +kernel
theorem c_22_82 : ax_code 22 82 = some (.ifCond .eq 100, 85) := by decide +kernel
theorem c_22_85 : ax_code 22 85 = some (.aload 0, 86) := by decide +kernel
theorem c_22_86 : ax_code 22 86 = some (.getfield 640, 89) := by decide +kernel
theorem c_22_89 : ax_code 22 89 = some (.iload 3, 90) := by decide +kernel
theorem c_22_90 : ax_code 22 90 = some (.iload 4, 92) := by decide +kernel
theorem c_22_92 : ax_code 22 92 = some (.iload 5, 94) := by decide +kernel
theorem c_22_94 : ax_code 22 94 = some (.invokevirtual 20, 97) := by decide +kernel
theorem c_22_97 : ax_code 22 97 = some (.ifCond .ne 106, 100) := by decide +kernel
theorem c_22_100 : ax_code 22 100 = some (.aload 0, 101) := by decide +kernel
theorem c_22_101 : ax_code 22 101 = some (.iconst 2, 102) := by decide +kernel
theorem c_22_102 : ax_code 22 102 = some (.invokevirtual 14, 105) := by decide +kernel
theorem c_22_105 : ax_code 22 105 = some (.lreturn, 106) := by decide +kernel
theorem c_22_106 : ax_code 22 106 = some (.aload 0, 107) := by decide +kernel
theorem c_22_107 : ax_code 22 107 = some (.getfield 640, 110) := by decide +kernel
theorem c_22_110 : ax_code 22 110 = some (.iload 1, 111) := by decide +kernel
theorem c_22_111 : ax_code 22 111 = some (.iload 2, 112) := by decide +kernel
theorem c_22_112 : ax_code 22 112 = some (.iload 3, 113) := by decide +kernel
theorem c_22_113 : ax_code 22 113 = some (.iload 4, 115) := by decide +kernel
theorem c_22_115 : ax_code 22 115 = some (.iload 5, 117) := by decide +kernel
theorem c_22_117 : ax_code 22 117 = some (.invokevirtual 24, 120) := by decide +kernel
theorem c_22_120 : ax_code 22 120 = some (.aload 0, 121) := by decide +kernel
theorem c_22_121 : ax_code 22 121 = some (.iload 5, 123) := by decide +kernel
theorem c_22_123 : ax_code 22 123 = some (.i2l, 124) := by decide +kernel
theorem c_22_124 : ax_code 22 124 = some (.invokevirtual 16, 127) := by decide +kernel
theorem c_22_127 : ax_code 22 127 = some (.lreturn, 128) := by decide +kernel
theorem c_23_0 : ax_code 23 0 = some (.iload 1, 1) := by decide +kernel
theorem c_23_1 : ax_code 23 1 = some (.invokestatic 13, 4) := by decide +kernel
theorem c_23_4 : ax_code 23 4 = some (.ifCond .eq 16, 7) := by decide +kernel
theorem c_23_7 : ax_code 23 7 = some (.aload 0, 8) := by decide +kernel
theorem c_23_8 : ax_code 23 8 = some (.getfield 448, 11) := by decide +kernel
theorem c_23_11 : ax_code 23 11 = some (.iload 1, 12) := by decide +kernel
theorem c_23_12 : ax_code 23 12 = some (.iaload, 13) := by decide +kernel
theorem c_23_13 : ax_code 23 13 = some (.goto 17, 16) := by decide +kernel
theorem c_23_16 : ax_code 23 16 = some (.iconst 0, 17) := by decide +kernel
theorem c_23_17 : ax_code 23 17 = some (.ireturn, 18) := by decide +kernel
theorem c_24_0 : ax_code 24 0 = some (.aload 0, 1) := by decide +kernel
theorem c_24_1 : ax_code 24 1 = some (.iload 1, 2) := by decide +kernel
theorem c_24_2 : ax_code 24 2 = some (.iload 2, 3) := by decide +kernel
theorem c_24_3 : ax_code 24 3 = some (.iload 5, 5) := by decide +kernel
theorem c_24_5 : ax_code 24 5 = some (.invokevirtual 20, 8) := by decide +kernel
theorem c_24_8 : ax_code 24 8 = some (.ifCond .eq 49, 11) := by decide +kernel
theorem c_24_11 : ax_code 24 11 = some (.aload 0, 12) := by decide +kernel
theorem c_24_12 : ax_code 24 12 = some (.iload 3, 13) := by decide +kernel
theorem c_24_13 : ax_code 24 13 = some (.iload 4, 15) := by decide +kernel
theorem c_24_15 : ax_code 24 15 = some (.iload 5, 17) := by decide +kernel
theorem c_24_17 : ax_code 24 17 = some (.invokevirtual 20, 20) := by decide +kernel
theorem c_24_20 : ax_code 24 20 = some (.ifCond .eq 49, 23) := by decide +kernel
theorem c_24_23 : ax_code 24 23 = some (.aload 0, 24) := by decide +kernel
theorem c_24_24 : ax_code 24 24 = some (.getfield 450, 27) := by decide +kernel
theorem c_24_27 : ax_code 24 27 = some (.iload 1, 28) := by decide +kernel
theorem c_24_28 : ax_code 24 28 = some (.iconst 40, 30) := by decide +kernel
theorem c_24_30 : ax_code 24 30 = some (.imul, 31) := by decide +kernel
theorem c_24_31 : ax_code 24 31 = some (.iload 2, 32) := by decide +kernel
theorem c_24_32 : ax_code 24 32 = some (.iadd, 33) := by decide +kernel
theorem c_24_33 : ax_code 24 33 = some (.aload 0, 34) := by decide +kernel
theorem c_24_34 : ax_code 24 34 = some (.getfield 450, 37) := by decide +kernel
theorem c_24_37 : ax_code 24 37 = some (.iload 3, 38) := by decide +kernel
theorem c_24_38 : ax_code 24 38 = some (.iconst 40, 40) := by decide +kernel
theorem c_24_40 : ax_code 24 40 = some (.imul, 41) := by decide +kernel
theorem c_24_41 : ax_code 24 41 = some (.iload 4, 43) := by decide +kernel
theorem c_24_43 : ax_code 24 43 = some (.iadd, 44) := by decide +kernel
theorem c_24_44 : ax_code 24 44 = some (.iload 5, 46) := by decide +kernel
theorem c_24_46 : ax_code 24 46 = some (.invokedynamic 3, 49) := by decide +kernel
theorem c_24_49 : ax_code 24 49 = some (.return_, 50) := by decide +kernel
theorem c_25_0 : ax_code 25 0 = some (.iload 1, 1) := by decide +kernel
theorem c_25_1 : ax_code 25 1 = some (.invokestatic 13, 4) := by decide +kernel
theorem c_25_4 : ax_code 25 4 = some (.ifCond .ne 11, 7) := by decide +kernel
theorem c_25_7 : ax_code 25 7 = some (.ldc2_w 0, 10) := by decide +kernel
theorem c_25_10 : ax_code 25 10 = some (.lreturn, 11) := by decide +kernel
theorem c_25_11 : ax_code 25 11 = some (.aload 0, 12) := by decide +kernel
theorem c_25_12 : ax_code 25 12 = some (.getfield 640, 15) := by decide +kernel
theorem c_25_15 : ax_code 25 15 = some (.iload 1, 16) := by decide +kernel
theorem c_25_16 : ax_code 25 16 = some (.invokevirtual 18, 19) := by decide +kernel
theorem c_25_19 : ax_code 25 19 = some (.ifCond .eq 28, 22) := by decide +kernel
theorem c_25_22 : ax_code 25 22 = some (.aload 0, 23) := by decide +kernel
theorem c_25_23 : ax_code 25 23 = some (.iconst 1, 24) := by decide +kernel
theorem c_25_24 : ax_code 25 24 = some (.invokevirtual 14, 27) := by decide +kernel
theorem c_25_27 : ax_code 25 27 = some (.lreturn, 28) := by decide +kernel
theorem c_25_28 : ax_code 25 28 = some (.aload 0, 29) := by decide +kernel
theorem c_25_29 : ax_code 25 29 = some (.aload 0, 30) := by decide +kernel
theorem c_25_30 : ax_code 25 30 = some (.getfield 640, 33) := by decide +kernel
theorem c_25_33 : ax_code 25 33 = some (.iload 1, 34) := by decide +kernel
theorem c_25_34 : ax_code 25 34 = some (.invokevirtual 26, 37) := by decide +kernel
theorem c_25_37 : ax_code 25 37 = some (.i2l, 38) := by decide +kernel
theorem c_25_38 : ax_code 25 38 = some (.invokevirtual 16, 41) := by decide +kernel
theorem c_25_41 : ax_code 25 41 = some (.lreturn, 42) := by decide +kernel
theorem c_26_0 : ax_code 26 0 = some (.aload 0, 1) := by decide +kernel
theorem c_26_1 : ax_code 26 1 = some (.iload 1, 2) := by decide +kernel
theorem c_26_2 : ax_code 26 2 = some (.invokevirtual 19, 5) := by decide +kernel
theorem c_26_5 : ax_code 26 5 = some (.istore 2, 6) := by decide +kernel
theorem c_26_6 : ax_code 26 6 = some (.iload 1, 7) := by decide +kernel
theorem c_26_7 : ax_code 26 7 = some (.invokestatic 13, 10) := by decide +kernel
theorem c_26_10 : ax_code 26 10 = some (.ifCond .eq 20, 13) := by decide +kernel
theorem c_26_13 : ax_code 26 13 = some (.aload 0, 14) := by decide +kernel
theorem c_26_14 : ax_code 26 14 = some (.getfield 449, 17) := by decide +kernel
theorem c_26_17 : ax_code 26 17 = some (.iload 1, 18) := by decide +kernel
theorem c_26_18 : ax_code 26 18 = some (.iconst (-1), 19) := by decide +kernel
theorem c_26_19 : ax_code 26 19 = some (.iastore, 20) := by decide +kernel
theorem c_26_20 : ax_code 26 20 = some (.iload 2, 21) := by decide +kernel
theorem c_26_21 : ax_code 26 21 = some (.ireturn, 22) := by decide +kernel
theorem c_27_0 : ax_code 27 0 = some (.iload 3, 1) := by decide +kernel
theorem c_27_1 : ax_code 27 1 = some (.iconst 1, 2) := by decide +kernel
theorem c_27_2 : ax_code 27 2 = some (.if_icmp .lt 11, 5) := by decide +kernel
theorem c_27_5 : ax_code 27 5 = some (.iload 3, 6) := by decide +kernel
theorem c_27_6 : ax_code 27 6 = some (.iconst 8, 8) := by decide +kernel
theorem c_27_8 : ax_code 27 8 = some (.if_icmp .le 15, 11) := by decide +kernel
theorem c_27_11 : ax_code 27 11 = some (.ldc2_w 0, 14) := by decide +kernel
theorem c_27_14 : ax_code 27 14 = some (.lreturn, 15) := by decide +kernel
theorem c_27_15 : ax_code 27 15 = some (.aload 0, 16) := by decide +kernel
theorem c_27_16 : ax_code 27 16 = some (.getfield 641, 19) := by decide +kernel
theorem c_27_19 : ax_code 27 19 = some (.iload 3, 20) := by decide +kernel
theorem c_27_20 : ax_code 27 20 = some (.invokevirtual 28, 23) := by decide +kernel
theorem c_27_23 : ax_code 27 23 = some (.ifCond .ne 30, 26) := by decide +kernel
theorem c_27_26 : ax_code 27 26 = some (.ldc2_w 2, 29) := by decide +kernel
theorem c_27_29 : ax_code 27 29 = some (.lreturn, 30) := by decide +kernel
theorem c_27_30 : ax_code 27 30 = some (.aload 0, 31) := by decide +kernel
theorem c_27_31 : ax_code 27 31 = some (.getfield 641, 34) := by decide +kernel
theorem c_27_34 : ax_code 27 34 = some (.lload 1, 35) := by decide +kernel
theorem c_27_35 : ax_code 27 35 = some (.iload 3, 36) := by decide +kernel
theorem c_27_36 : ax_code 27 36 = some (.invokevirtual 29, 39) := by decide +kernel
theorem c_27_39 : ax_code 27 39 = some (.i2l, 40) := by decide +kernel
theorem c_27_40 : ax_code 27 40 = some (.lreturn, 41) := by decide +kernel
theorem c_28_0 : ax_code 28 0 = some (.iload 1, 1) := by decide +kernel
theorem c_28_1 : ax_code 28 1 = some (.iconst 500, 4) := by decide +kernel
theorem c_28_4 : ax_code 28 4 = some (.aload 0, 5) := by decide +kernel
theorem c_28_5 : ax_code 28 5 = some (.getfield 577, 8) := by decide +kernel
theorem c_28_8 : ax_code 28 8 = some (.isub, 9) := by decide +kernel
theorem c_28_9 : ax_code 28 9 = some (.if_icmp .gt 16, 12) := by decide +kernel
theorem c_28_12 : ax_code 28 12 = some (.iconst 1, 13) := by decide +kernel
theorem c_28_13 : ax_code 28 13 = some (.goto 17, 16) := by decide +kernel
theorem c_28_16 : ax_code 28 16 = some (.iconst 0, 17) := by decide +kernel
theorem c_28_17 : ax_code 28 17 = some (.ireturn, 18) := by decide +kernel
theorem c_29_0 : ax_code 29 0 = some (.iload 3, 1) := by decide +kernel
theorem c_29_1 : ax_code 29 1 = some (.iconst 1, 2) := by decide +kernel
theorem c_29_2 : ax_code 29 2 = some (.isub, 3) := by decide +kernel
theorem c_29_3 : ax_code 29 3 = some (.istore 4, 5) := by decide +kernel
theorem c_29_5 : ax_code 29 5 = some (.iload 4, 7) := by decide +kernel
theorem c_29_7 : ax_code 29 7 = some (.ifCond .lt 54, 10) := by decide +kernel
theorem c_29_10 : ax_code 29 10 = some (.aload 0, 11) := by decide +kernel
theorem c_29_11 : ax_code 29 11 = some (.getfield 577, 14) := by decide +kernel
theorem c_29_14 : ax_code 29 14 = some (.iconst 500, 17) := by decide +kernel
theorem c_29_17 : ax_code 29 17 = some (.if_icmp .ge 54, 20) := by decide +kernel
theorem c_29_20 : ax_code 29 20 = some (.aload 0, 21) := by decide +kernel
theorem c_29_21 : ax_code 29 21 = some (.getfield 576, 24) := by decide +kernel
theorem c_29_24 : ax_code 29 24 = some (.aload 0, 25) := by decide +kernel
theorem c_29_25 : ax_code 29 25 = some (.getfield 577, 28) := by decide +kernel
theorem c_29_28 : ax_code 29 28 = some (.lload 1, 29) := by decide +kernel
theorem c_29_29 : ax_code 29 29 = some (.iconst 8, 31) := by decide +kernel
theorem c_29_31 : ax_code 29 31 = some (.iload 4, 33) := by decide +kernel
theorem c_29_33 : ax_code 29 33 = some (.imul, 34) := by decide +kernel
theorem c_29_34 : ax_code 29 34 = some (.lshr, 35) := by decide +kernel
theorem c_29_35 : ax_code 29 35 = some (.l2i, 36) := by decide +kernel
theorem c_29_36 : ax_code 29 36 = some (.i2b, 37) := by decide +kernel
theorem c_29_37 : ax_code 29 37 = some (.bastore, 38) := by decide +kernel
theorem c_29_38 : ax_code 29 38 = some (.aload 0, 39) := by decide +kernel
theorem c_29_39 : ax_code 29 39 = some (.dup, 40) := by decide +kernel
theorem c_29_40 : ax_code 29 40 = some (.getfield 577, 43) := by decide +kernel
theorem c_29_43 : ax_code 29 43 = some (.iconst 1, 44) := by decide +kernel
theorem c_29_44 : ax_code 29 44 = some (.iadd, 45) := by decide +kernel
theorem c_29_45 : ax_code 29 45 = some (.putfield 577, 48) := by decide +kernel
theorem c_29_48 : ax_code 29 48 = some (.iinc 4 (-1), 51) := by decide +kernel
theorem c_29_51 : ax_code 29 51 = some (.goto 5, 54) := by decide +kernel
theorem c_29_54 : ax_code 29 54 = some (.aload 0, 55) := by decide +kernel
theorem c_29_55 : ax_code 29 55 = some (.getfield 577, 58) := by decide +kernel
theorem c_29_58 : ax_code 29 58 = some (.ireturn, 59) := by decide +kernel
theorem c_30_0 : ax_code 30 0 = some (.aload 0, 1) := by decide +kernel
theorem c_30_1 : ax_code 30 1 = some (.getfield 645, 4) := by decide +kernel
theorem c_30_4 : ax_code 30 4 = some (.aload 0, 5) := by decide +kernel
theorem c_30_5 : ax_code 30 5 = some (.getfield 641, 8) := by decide +kernel
theorem c_30_8 : ax_code 30 8 = some (.invokevirtual 31, 11) := by decide +kernel
theorem c_30_11 : ax_code 30 11 = some (.istore 1, 12) := by decide +kernel
theorem c_30_12 : ax_code 30 12 = some (.aload 0, 13) := by decide +kernel
theorem c_30_13 : ax_code 30 13 = some (.getfield 641, 16) := by decide +kernel
theorem c_30_16 : ax_code 30 16 = some (.invokevirtual 60, 19) := by decide +kernel
theorem c_30_19 : ax_code 30 19 = some (.iload 1, 20) := by decide +kernel
theorem c_30_20 : ax_code 30 20 = some (.ifCond .ne 36, 23) := by decide +kernel
theorem c_30_23 : ax_code 30 23 = some (.ldc2_w 3, 26) := by decide +kernel
theorem c_30_26 : ax_code 30 26 = some (.aload 0, 27) := by decide +kernel
theorem c_30_27 : ax_code 30 27 = some (.getfield 641, 30) := by decide +kernel
theorem c_30_30 : ax_code 30 30 = some (.invokevirtual 61, 33) := by decide +kernel
theorem c_30_33 : ax_code 30 33 = some (.i2l, 34) := by decide +kernel
theorem c_30_34 : ax_code 30 34 = some (.lsub, 35) := by decide +kernel
theorem c_30_35 : ax_code 30 35 = some (.lreturn, 36) := by decide +kernel
theorem c_30_36 : ax_code 30 36 = some (.aload 0, 37) := by decide +kernel
theorem c_30_37 : ax_code 30 37 = some (.getfield 642, 40) := by decide +kernel
theorem c_30_40 : ax_code 30 40 = some (.getfield 256, 43) := by decide +kernel
theorem c_30_43 : ax_code 30 43 = some (.aload 0, 44) := by decide +kernel
theorem c_30_44 : ax_code 30 44 = some (.getfield 645, 47) := by decide +kernel
theorem c_30_47 : ax_code 30 47 = some (.invokevirtual 62, 50) := by decide +kernel
theorem c_30_50 : ax_code 30 50 = some (.aload 0, 51) := by decide +kernel
theorem c_30_51 : ax_code 30 51 = some (.getfield 642, 54) := by decide +kernel
theorem c_30_54 : ax_code 30 54 = some (.getfield 257, 57) := by decide +kernel
theorem c_30_57 : ax_code 30 57 = some (.invokevirtual 63, 60) := by decide +kernel
theorem c_30_60 : ax_code 30 60 = some (.aload 0, 61) := by decide +kernel
theorem c_30_61 : ax_code 30 61 = some (.getfield 645, 64) := by decide +kernel
theorem c_30_64 : ax_code 30 64 = some (.invokevirtual 64, 67) := by decide +kernel
theorem c_30_67 : ax_code 30 67 = some (.aload 0, 68) := by decide +kernel
theorem c_30_68 : ax_code 30 68 = some (.getfield 645, 71) := by decide +kernel
theorem c_30_71 : ax_code 30 71 = some (.invokevirtual 65, 74) := by decide +kernel
theorem c_30_74 : ax_code 30 74 = some (.iadd, 75) := by decide +kernel
theorem c_30_75 : ax_code 30 75 = some (.i2l, 76) := by decide +kernel
theorem c_30_76 : ax_code 30 76 = some (.lreturn, 77) := by decide +kernel
theorem c_31_0 : ax_code 31 0 = some (.aload 0, 1) := by decide +kernel
theorem c_31_1 : ax_code 31 1 = some (.iconst 0, 2) := by decide +kernel
theorem c_31_2 : ax_code 31 2 = some (.putfield 321, 5) := by decide +kernel
theorem c_31_5 : ax_code 31 5 = some (.aload 0, 6) := by decide +kernel
theorem c_31_6 : ax_code 31 6 = some (.iconst 0, 7) := by decide +kernel
theorem c_31_7 : ax_code 31 7 = some (.putfield 326, 10) := by decide +kernel
theorem c_31_10 : ax_code 31 10 = some (.aload 1, 11) := by decide +kernel
theorem c_31_11 : ax_code 31 11 = some (.invokevirtual 32, 14) := by decide +kernel
theorem c_31_14 : ax_code 31 14 = some (.iconst 0, 15) := by decide +kernel
theorem c_31_15 : ax_code 31 15 = some (.istore 2, 16) := by decide +kernel
theorem c_31_16 : ax_code 31 16 = some (.iload 2, 17) := by decide +kernel
theorem c_31_17 : ax_code 31 17 = some (.iconst 16, 19) := by decide +kernel
theorem c_31_19 : ax_code 31 19 = some (.if_icmp .gt 42, 22) := by decide +kernel
theorem c_31_22 : ax_code 31 22 = some (.aload 1, 23) := by decide +kernel
theorem c_31_23 : ax_code 31 23 = some (.ldc 0, 25) := by decide +kernel
theorem c_31_25 : ax_code 31 25 = some (.invokevirtual 38, 28) := by decide +kernel
theorem c_31_28 : ax_code 31 28 = some (.ifCond .eq 42, 31) := by decide +kernel
theorem c_31_31 : ax_code 31 31 = some (.aload 0, 32) := by decide +kernel
theorem c_31_32 : ax_code 31 32 = some (.aload 1, 33) := by decide +kernel
theorem c_31_33 : ax_code 31 33 = some (.invokevirtual 46, 36) := by decide +kernel
theorem c_31_36 : ax_code 31 36 = some (.iinc 2 (1), 39) := by decide +kernel
theorem c_31_39 : ax_code 31 39 = some (.goto 16, 42) := by decide +kernel
theorem c_31_42 : ax_code 31 42 = some (.iconst 0, 43) := by decide +kernel
theorem c_31_43 : ax_code 31 43 = some (.istore 2, 44) := by decide +kernel
theorem c_31_44 : ax_code 31 44 = some (.iload 2, 45) := by decide +kernel
theorem c_31_45 : ax_code 31 45 = some (.iconst 8, 47) := by decide +kernel
theorem c_31_47 : ax_code 31 47 = some (.if_icmp .gt 70, 50) := by decide +kernel
theorem c_31_50 : ax_code 31 50 = some (.aload 1, 51) := by decide +kernel
theorem c_31_51 : ax_code 31 51 = some (.ldc 1, 53) := by decide +kernel
theorem c_31_53 : ax_code 31 53 = some (.invokevirtual 38, 56) := by decide +kernel
theorem c_31_56 : ax_code 31 56 = some (.ifCond .eq 70, 59) := by decide +kernel
theorem c_31_59 : ax_code 31 59 = some (.aload 0, 60) := by decide +kernel
theorem c_31_60 : ax_code 31 60 = some (.aload 1, 61) := by decide +kernel
theorem c_31_61 : ax_code 31 61 = some (.invokevirtual 55, 64) := by decide +kernel
theorem c_31_64 : ax_code 31 64 = some (.iinc 2 (1), 67) := by decide +kernel
theorem c_31_67 : ax_code 31 67 = some (.goto 44, 70) := by decide +kernel
theorem c_31_70 : ax_code 31 70 = some (.aload 0, 71) := by decide +kernel
theorem c_31_71 : ax_code 31 71 = some (.aload 1, 72) := by decide +kernel
theorem c_31_72 : ax_code 31 72 = some (.invokevirtual 56, 75) := by decide +kernel
theorem c_31_75 : ax_code 31 75 = some (.aload 1, 76) := by decide +kernel
theorem c_31_76 : ax_code 31 76 = some (.invokevirtual 57, 79) := by decide +kernel
theorem c_31_79 : ax_code 31 79 = some (.aload 0, 80) := by decide +kernel
theorem c_31_80 : ax_code 31 80 = some (.aload 1, 81) := by decide +kernel
theorem c_31_81 : ax_code 31 81 = some (.invokevirtual 59, 84) := by decide +kernel
theorem c_31_84 : ax_code 31 84 = some (.ifCond .ne 91, 87) := by decide +kernel
theorem c_31_87 : ax_code 31 87 = some (.iconst 1, 88) := by decide +kernel
theorem c_31_88 : ax_code 31 88 = some (.goto 92, 91) := by decide +kernel
theorem c_31_91 : ax_code 31 91 = some (.iconst 0, 92) := by decide +kernel
theorem c_31_92 : ax_code 31 92 = some (.putfield 320, 95) := by decide +kernel
theorem c_31_95 : ax_code 31 95 = some (.aload 0, 96) := by decide +kernel
theorem c_31_96 : ax_code 31 96 = some (.getfield 320, 99) := by decide +kernel
theorem c_31_99 : ax_code 31 99 = some (.ireturn, 100) := by decide +kernel
theorem c_32_0 : ax_code 32 0 = some (.aload 0, 1) := by decide +kernel
theorem c_32_1 : ax_code 32 1 = some (.iconst 0, 2) := by decide +kernel
theorem c_32_2 : ax_code 32 2 = some (.putfield 580, 5) := by decide +kernel
theorem c_32_5 : ax_code 32 5 = some (.aload 0, 6) := by decide +kernel
theorem c_32_6 : ax_code 32 6 = some (.iconst 0, 7) := by decide +kernel
theorem c_32_7 : ax_code 32 7 = some (.putfield 583, 10) := by decide +kernel
theorem c_32_10 : ax_code 32 10 = some (.aload 0, 11) := by decide +kernel
theorem c_32_11 : ax_code 32 11 = some (.invokevirtual 33, 14) := by decide +kernel
theorem c_32_14 : ax_code 32 14 = some (.return_, 15) := by decide +kernel
theorem c_33_0 : ax_code 33 0 = some (.aload 0, 1) := by decide +kernel
theorem c_33_1 : ax_code 33 1 = some (.aload 0, 2) := by decide +kernel
theorem c_33_2 : ax_code 33 2 = some (.getfield 583, 5) := by decide +kernel
theorem c_33_5 : ax_code 33 5 = some (.putfield 582, 8) := by decide +kernel
theorem c_33_8 : ax_code 33 8 = some (.aload 0, 9) := by decide +kernel
theorem c_33_9 : ax_code 33 9 = some (.getfield 582, 12) := by decide +kernel
theorem c_33_12 : ax_code 33 12 = some (.aload 0, 13) := by decide +kernel
theorem c_33_13 : ax_code 33 13 = some (.getfield 577, 16) := by decide +kernel
theorem c_33_16 : ax_code 33 16 = some (.if_icmp .ge 46, 19) := by decide +kernel
theorem c_33_19 : ax_code 33 19 = some (.aload 0, 20) := by decide +kernel
theorem c_33_20 : ax_code 33 20 = some (.aload 0, 21) := by decide +kernel
theorem c_33_21 : ax_code 33 21 = some (.getfield 582, 24) := by decide +kernel
theorem c_33_24 : ax_code 33 24 = some (.invokevirtual 34, 27) := by decide +kernel
theorem c_33_27 : ax_code 33 27 = some (.invokestatic 35, 30) := by decide +kernel
theorem c_33_30 : ax_code 33 30 = some (.ifCond .eq 46, 33) := by decide +kernel
theorem c_33_33 : ax_code 33 33 = some (.aload 0, 34) := by decide +kernel
theorem c_33_34 : ax_code 33 34 = some (.dup, 35) := by decide +kernel
theorem c_33_35 : ax_code 33 35 = some (.getfield 582, 38) := by decide +kernel
theorem c_33_38 : ax_code 33 38 = some (.iconst 1, 39) := by decide +kernel
theorem c_33_39 : ax_code 33 39 = some (.iadd, 40) := by decide +kernel
theorem c_33_40 : ax_code 33 40 = some (.putfield 582, 43) := by decide +kernel
theorem c_33_43 : ax_code 33 43 = some (.goto 8, 46) := by decide +kernel
theorem c_33_46 : ax_code 33 46 = some (.aload 0, 47) := by decide +kernel
theorem c_33_47 : ax_code 33 47 = some (.aload 0, 48) := by decide +kernel
theorem c_33_48 : ax_code 33 48 = some (.getfield 582, 51) := by decide +kernel
theorem c_33_51 : ax_code 33 51 = some (.putfield 583, 54) := by decide +kernel
theorem c_33_54 : ax_code 33 54 = some (.aload 0, 55) := by decide +kernel
theorem c_33_55 : ax_code 33 55 = some (.aload 0, 56) := by decide +kernel
theorem c_33_56 : ax_code 33 56 = some (.getfield 582, 59) := by decide +kernel
theorem c_33_59 : ax_code 33 59 = some (.invokevirtual 34, 62) := by decide +kernel
theorem c_33_62 : ax_code 33 62 = some (.istore 1, 63) := by decide +kernel
theorem c_33_63 : ax_code 33 63 = some (.aload 0, 64) := by decide +kernel
theorem c_33_64 : ax_code 33 64 = some (.getfield 582, 67) := by decide +kernel
theorem c_33_67 : ax_code 33 67 = some (.aload 0, 68) := by decide +kernel
theorem c_33_68 : ax_code 33 68 = some (.getfield 577, 71) := by decide +kernel
theorem c_33_71 : ax_code 33 71 = some (.if_icmp .lt 82, 74) := by decide +kernel
theorem c_33_74 : ax_code 33 74 = some (.aload 0, 75) := by decide +kernel
theorem c_33_75 : ax_code 33 75 = some (.iconst 4, 76) := by decide +kernel
theorem c_33_76 : ax_code 33 76 = some (.putfield 581, 79) := by decide +kernel
theorem c_33_79 : ax_code 33 79 = some (.goto 233, 82) := by decide +kernel
theorem c_33_82 : ax_code 33 82 = some (.iload 1, 83) := by decide +kernel
theorem c_33_83 : ax_code 33 83 = some (.invokestatic 36, 86) := by decide +kernel
theorem c_33_86 : ax_code 33 86 = some (.ifCond .eq 132, 89) := by decide +kernel
theorem c_33_89 : ax_code 33 89 = some (.aload 0, 90) := by decide +kernel
theorem c_33_90 : ax_code 33 90 = some (.iconst 1, 91) := by decide +kernel
theorem c_33_91 : ax_code 33 91 = some (.putfield 581, 94) := by decide +kernel
theorem c_33_94 : ax_code 33 94 = some (.aload 0, 95) := by decide +kernel
theorem c_33_95 : ax_code 33 95 = some (.getfield 583, 98) := by decide +kernel
theorem c_33_98 : ax_code 33 98 = some (.aload 0, 99) := by decide +kernel
theorem c_33_99 : ax_code 33 99 = some (.getfield 577, 102) := by decide +kernel
theorem c_33_102 : ax_code 33 102 = some (.if_icmp .ge 233, 105) := by decide +kernel
theorem c_33_105 : ax_code 33 105 = some (.aload 0, 106) := by decide +kernel
theorem c_33_106 : ax_code 33 106 = some (.aload 0, 107) := by decide +kernel
theorem c_33_107 : ax_code 33 107 = some (.getfield 583, 110) := by decide +kernel
theorem c_33_110 : ax_code 33 110 = some (.invokevirtual 34, 113) := by decide +kernel
theorem c_33_113 : ax_code 33 113 = some (.invokestatic 36, 116) := by decide +kernel
theorem c_33_116 : ax_code 33 116 = some (.ifCond .eq 233, 119) := by decide +kernel
theorem c_33_119 : ax_code 33 119 = some (.aload 0, 120) := by decide +kernel
theorem c_33_120 : ax_code 33 120 = some (.dup, 121) := by decide +kernel
theorem c_33_121 : ax_code 33 121 = some (.getfield 583, 124) := by decide +kernel
theorem c_33_124 : ax_code 33 124 = some (.iconst 1, 125) := by decide +kernel
theorem c_33_125 : ax_code 33 125 = some (.iadd, 126) := by decide +kernel
theorem c_33_126 : ax_code 33 126 = some (.putfield 583, 129) := by decide +kernel
theorem c_33_129 : ax_code 33 129 = some (.goto 94, 132) := by decide +kernel
theorem c_33_132 : ax_code 33 132 = some (.iload 1, 133) := by decide +kernel
theorem c_33_133 : ax_code 33 133 = some (.invokestatic 37, 136) := by decide +kernel
theorem c_33_136 : ax_code 33 136 = some (.ifCond .eq 202, 139) := by decide +kernel
theorem c_33_139 : ax_code 33 139 = some (.aload 0, 140) := by decide +kernel
theorem c_33_140 : ax_code 33 140 = some (.getfield 583, 143) := by decide +kernel
theorem c_33_143 : ax_code 33 143 = some (.aload 0, 144) := by decide +kernel
theorem c_33_144 : ax_code 33 144 = some (.getfield 577, 147) := by decide +kernel
theorem c_33_147 : ax_code 33 147 = some (.if_icmp .ge 177, 150) := by decide +kernel
theorem c_33_150 : ax_code 33 150 = some (.aload 0, 151) := by decide +kernel
theorem c_33_151 : ax_code 33 151 = some (.aload 0, 152) := by decide +kernel
theorem c_33_152 : ax_code 33 152 = some (.getfield 583, 155) := by decide +kernel
theorem c_33_155 : ax_code 33 155 = some (.invokevirtual 34, 158) := by decide +kernel
theorem c_33_158 : ax_code 33 158 = some (.invokestatic 37, 161) := by decide +kernel
theorem c_33_161 : ax_code 33 161 = some (.ifCond .eq 177, 164) := by decide +kernel
theorem c_33_164 : ax_code 33 164 = some (.aload 0, 165) := by decide +kernel
theorem c_33_165 : ax_code 33 165 = some (.dup, 166) := by decide +kernel
theorem c_33_166 : ax_code 33 166 = some (.getfield 583, 169) := by decide +kernel
theorem c_33_169 : ax_code 33 169 = some (.iconst 1, 170) := by decide +kernel
theorem c_33_170 : ax_code 33 170 = some (.iadd, 171) := by decide +kernel
theorem c_33_171 : ax_code 33 171 = some (.putfield 583, 174) := by decide +kernel
theorem c_33_174 : ax_code 33 174 = some (.goto 139, 177) := by decide +kernel
theorem c_33_177 : ax_code 33 177 = some (.aload 0, 178) := by decide +kernel
theorem c_33_178 : ax_code 33 178 = some (.aload 0, 179) := by decide +kernel
theorem c_33_179 : ax_code 33 179 = some (.getfield 583, 182) := by decide +kernel
theorem c_33_182 : ax_code 33 182 = some (.aload 0, 183) := by decide +kernel
theorem c_33_183 : ax_code 33 183 = some (.getfield 582, 186) := by decide +kernel
theorem c_33_186 : ax_code 33 186 = some (.isub, 187) := by decide +kernel
theorem c_33_187 : ax_code 33 187 = some (.iconst 4, 188) := by decide +kernel
theorem c_33_188 : ax_code 33 188 = some (.if_icmp .gt 195, 191) := by decide +kernel
theorem c_33_191 : ax_code 33 191 = some (.iconst 2, 192) := by decide +kernel
theorem c_33_192 : ax_code 33 192 = some (.goto 196, 195) := by decide +kernel
theorem c_33_195 : ax_code 33 195 = some (.iconst 0, 196) := by decide +kernel
theorem c_33_196 : ax_code 33 196 = some (.putfield 581, 199) := by decide +kernel
theorem c_33_199 : ax_code 33 199 = some (.goto 233, 202) := by decide +kernel
theorem c_33_202 : ax_code 33 202 = some (.aload 0, 203) := by decide +kernel
theorem c_33_203 : ax_code 33 203 = some (.aload 0, 204) := by decide +kernel
theorem c_33_204 : ax_code 33 204 = some (.getfield 582, 207) := by decide +kernel
theorem c_33_207 : ax_code 33 207 = some (.iconst 1, 208) := by decide +kernel
theorem c_33_208 : ax_code 33 208 = some (.iadd, 209) := by decide +kernel
theorem c_33_209 : ax_code 33 209 = some (.putfield 583, 212) := by decide +kernel
theorem c_33_212 : ax_code 33 212 = some (.aload 0, 213) := by decide +kernel
theorem c_33_213 : ax_code 33 213 = some (.iload 1, 214) := by decide +kernel
theorem c_33_214 : ax_code 33 214 = some (.iconst 59, 216) := by decide +kernel
theorem c_33_216 : ax_code 33 216 = some (.if_icmp .eq 225, 219) := by decide +kernel
theorem c_33_219 : ax_code 33 219 = some (.iload 1, 220) := by decide +kernel
theorem c_33_220 : ax_code 33 220 = some (.iconst 63, 222) := by decide +kernel
theorem c_33_222 : ax_code 33 222 = some (.if_icmp .ne 229, 225) := by decide +kernel
theorem c_33_225 : ax_code 33 225 = some (.iconst 3, 226) := by decide +kernel
theorem c_33_226 : ax_code 33 226 = some (.goto 230, 229) := by decide +kernel
theorem c_33_229 : ax_code 33 229 = some (.iconst 0, 230) := by decide +kernel
theorem c_33_230 : ax_code 33 230 = some (.putfield 581, 233) := by decide +kernel
theorem c_33_233 : ax_code 33 233 = some (.return_, 234) := by decide +kernel
theorem c_34_0 : ax_code 34 0 = some (.iload 1, 1) := by decide +kernel
theorem c_34_1 : ax_code 34 1 = some (.ifCond .lt 21, 4) := by decide +kernel
theorem c_34_4 : ax_code 34 4 = some (.iload 1, 5) := by decide +kernel
theorem c_34_5 : ax_code 34 5 = some (.aload 0, 6) := by decide +kernel
theorem c_34_6 : ax_code 34 6 = some (.getfield 577, 9) := by decide +kernel
theorem c_34_9 : ax_code 34 9 = some (.if_icmp .ge 21, 12) := by decide +kernel
theorem c_34_12 : ax_code 34 12 = some (.aload 0, 13) := by decide +kernel
theorem c_34_13 : ax_code 34 13 = some (.getfield 576, 16) := by decide +kernel
theorem c_34_16 : ax_code 34 16 = some (.iload 1, 17) := by decide +kernel
theorem c_34_17 : ax_code 34 17 = some (.baload, 18) := by decide +kernel
theorem c_34_18 : ax_code 34 18 = some (.goto 22, 21) := by decide +kernel
theorem c_34_21 : ax_code 34 21 = some (.iconst (-1), 22) := by decide +kernel
theorem c_34_22 : ax_code 34 22 = some (.ireturn, 23) := by decide +kernel
theorem c_35_0 : ax_code 35 0 = some (.iload 0, 1) := by decide +kernel
theorem c_35_1 : ax_code 35 1 = some (.iconst 32, 3) := by decide +kernel
theorem c_35_3 : ax_code 35 3 = some (.if_icmp .eq 12, 6) := by decide +kernel
theorem c_35_6 : ax_code 35 6 = some (.iload 0, 7) := by decide +kernel
theorem c_35_7 : ax_code 35 7 = some (.iconst 10, 9) := by decide +kernel
theorem c_35_9 : ax_code 35 9 = some (.if_icmp .ne 16, 12) := by decide +kernel
theorem c_35_12 : ax_code 35 12 = some (.iconst 1, 13) := by decide +kernel
theorem c_35_13 : ax_code 35 13 = some (.goto 17, 16) := by decide +kernel
theorem c_35_16 : ax_code 35 16 = some (.iconst 0, 17) := by decide +kernel
theorem c_35_17 : ax_code 35 17 = some (.ireturn, 18) := by decide +kernel
theorem c_36_0 : ax_code 36 0 = some (.iload 0, 1) := by decide +kernel
theorem c_36_1 : ax_code 36 1 = some (.iconst 97, 3) := by decide +kernel
theorem c_36_3 : ax_code 36 3 = some (.if_icmp .lt 16, 6) := by decide +kernel
theorem c_36_6 : ax_code 36 6 = some (.iload 0, 7) := by decide +kernel
theorem c_36_7 : ax_code 36 7 = some (.iconst 122, 9) := by decide +kernel
theorem c_36_9 : ax_code 36 9 = some (.if_icmp .gt 16, 12) := by decide +kernel
theorem c_36_12 : ax_code 36 12 = some (.iconst 1, 13) := by decide +kernel
theorem c_36_13 : ax_code 36 13 = some (.goto 17, 16) := by decide +kernel
theorem c_36_16 : ax_code 36 16 = some (.iconst 0, 17) := by decide +kernel
theorem c_36_17 : ax_code 36 17 = some (.ireturn, 18) := by decide +kernel
theorem c_37_0 : ax_code 37 0 = some (.iload 0, 1) := by decide +kernel
theorem c_37_1 : ax_code 37 1 = some (.iconst 48, 3) := by decide +kernel
theorem c_37_3 : ax_code 37 3 = some (.if_icmp .lt 16, 6) := by decide +kernel
theorem c_37_6 : ax_code 37 6 = some (.iload 0, 7) := by decide +kernel
theorem c_37_7 : ax_code 37 7 = some (.iconst 57, 9) := by decide +kernel
theorem c_37_9 : ax_code 37 9 = some (.if_icmp .gt 16, 12) := by decide +kernel
theorem c_37_12 : ax_code 37 12 = some (.iconst 1, 13) := by decide +kernel
theorem c_37_13 : ax_code 37 13 = some (.goto 17, 16) := by decide +kernel
theorem c_37_16 : ax_code 37 16 = some (.iconst 0, 17) := by decide +kernel
theorem c_37_17 : ax_code 37 17 = some (.ireturn, 18) := by decide +kernel
theorem c_38_0 : ax_code 38 0 = some (.aload 0, 1) := by decide +kernel
theorem c_38_1 : ax_code 38 1 = some (.getfield 581, 4) := by decide +kernel
theorem c_38_4 : ax_code 38 4 = some (.iconst 1, 5) := by decide +kernel
theorem c_38_5 : ax_code 38 5 = some (.if_icmp .ne 24, 8) := by decide +kernel
theorem c_38_8 : ax_code 38 8 = some (.aload 1, 9) := by decide +kernel
theorem c_38_9 : ax_code 38 9 = some (.invokevirtual 39, 12) := by decide +kernel
theorem c_38_12 : ax_code 38 12 = some (.aload 0, 13) := by decide +kernel
theorem c_38_13 : ax_code 38 13 = some (.getfield 583, 16) := by decide +kernel
theorem c_38_16 : ax_code 38 16 = some (.aload 0, 17) := by decide +kernel
theorem c_38_17 : ax_code 38 17 = some (.getfield 582, 20) := by decide +kernel
theorem c_38_20 : ax_code 38 20 = some (.isub, 21) := by decide +kernel
theorem c_38_21 : ax_code 38 21 = some (.if_icmp .eq 26, 24) := by decide +kernel
theorem c_38_24 : ax_code 38 24 = some (.iconst 0, 25) := by decide +kernel
theorem c_38_25 : ax_code 38 25 = some (.ireturn, 26) := by decide +kernel
theorem c_38_26 : ax_code 38 26 = some (.iconst 0, 27) := by decide +kernel
theorem c_38_27 : ax_code 38 27 = some (.istore 2, 28) := by decide +kernel
theorem c_38_28 : ax_code 38 28 = some (.iload 2, 29) := by decide +kernel
theorem c_38_29 : ax_code 38 29 = some (.aload 1, 30) := by decide +kernel
theorem c_38_30 : ax_code 38 30 = some (.invokevirtual 39, 33) := by decide +kernel
theorem c_38_33 : ax_code 38 33 = some (.if_icmp .ge 62, 36) := by decide +kernel
theorem c_38_36 : ax_code 38 36 = some (.aload 0, 37) := by decide +kernel
theorem c_38_37 : ax_code 38 37 = some (.aload 0, 38) := by decide +kernel
theorem c_38_38 : ax_code 38 38 = some (.getfield 582, 41) := by decide +kernel
theorem c_38_41 : ax_code 38 41 = some (.iload 2, 42) := by decide +kernel
theorem c_38_42 : ax_code 38 42 = some (.iadd, 43) := by decide +kernel
theorem c_38_43 : ax_code 38 43 = some (.invokevirtual 34, 46) := by decide +kernel
theorem c_38_46 : ax_code 38 46 = some (.aload 1, 47) := by decide +kernel
theorem c_38_47 : ax_code 38 47 = some (.iload 2, 48) := by decide +kernel
theorem c_38_48 : ax_code 38 48 = some (.invokevirtual 41, 51) := by decide +kernel
theorem c_38_51 : ax_code 38 51 = some (.if_icmp .eq 56, 54) := by decide +kernel
theorem c_38_54 : ax_code 38 54 = some (.iconst 0, 55) := by decide +kernel
theorem c_38_55 : ax_code 38 55 = some (.ireturn, 56) := by decide +kernel
theorem c_38_56 : ax_code 38 56 = some (.iinc 2 (1), 59) := by decide +kernel
theorem c_38_59 : ax_code 38 59 = some (.goto 28, 62) := by decide +kernel
theorem c_38_62 : ax_code 38 62 = some (.iconst 1, 63) := by decide +kernel
theorem c_38_63 : ax_code 38 63 = some (.ireturn, 64) := by decide +kernel
theorem c_39_0 : ax_code 39 0 = some (.aload 0, 1) := by decide +kernel
theorem c_39_1 : ax_code 39 1 = some (.getfield 4096, 4) := by decide +kernel
theorem c_39_4 : ax_code 39 4 = some (.arraylength, 5) := by decide +kernel
theorem c_39_5 : ax_code 39 5 = some (.aload 0, 6) := by decide +kernel
theorem c_39_6 : ax_code 39 6 = some (.invokevirtual 40, 9) := by decide +kernel
theorem c_39_9 : ax_code 39 9 = some (.ishr, 10) := by decide +kernel
theorem c_39_10 : ax_code 39 10 = some (.ireturn, 11) := by decide +kernel
theorem c_40_0 : ax_code 40 0 = some (.getstatic 2, 3) := by decide +kernel
theorem c_40_3 : ax_code 40 3 = some (.ifCond .eq 13, 6) := by decide +kernel
theorem c_40_6 : ax_code 40 6 = some (.aload 0, 7) := by decide +kernel
theorem c_40_7 : ax_code 40 7 = some (.getfield 4097, 10) := by decide +kernel
theorem c_40_10 : ax_code 40 10 = some (.goto 14, 13) := by decide +kernel
theorem c_40_13 : ax_code 40 13 = some (.iconst 1, 14) := by decide +kernel
theorem c_40_14 : ax_code 40 14 = some (.ireturn, 15) := by decide +kernel
theorem c_41_0 : ax_code 41 0 = some (.aload 0, 1) := by decide +kernel
theorem c_41_1 : ax_code 41 1 = some (.invokevirtual 42, 4) := by decide +kernel
theorem c_41_4 : ax_code 41 4 = some (.ifCond .eq 16, 7) := by decide +kernel
theorem c_41_7 : ax_code 41 7 = some (.aload 0, 8) := by decide +kernel
theorem c_41_8 : ax_code 41 8 = some (.getfield 4096, 11) := by decide +kernel
theorem c_41_11 : ax_code 41 11 = some (.iload 1, 12) := by decide +kernel
theorem c_41_12 : ax_code 41 12 = some (.invokestatic 43, 15) := by decide +kernel
theorem c_41_15 : ax_code 41 15 = some (.ireturn, 16) := by decide +kernel
theorem c_41_16 : ax_code 41 16 = some (.aload 0, 17) := by decide +kernel
theorem c_41_17 : ax_code 41 17 = some (.getfield 4096, 20) := by decide +kernel
theorem c_41_20 : ax_code 41 20 = some (.iload 1, 21) := by decide +kernel
theorem c_41_24 : ax_code 41 24 = some (.ireturn, 25) := by decide +kernel
theorem c_42_0 : ax_code 42 0 = some (.getstatic 2, 3) := by decide +kernel
theorem c_42_3 : ax_code 42 3 = some (.ifCond .eq 17, 6) := by decide +kernel
theorem c_42_6 : ax_code 42 6 = some (.aload 0, 7) := by decide +kernel
theorem c_42_7 : ax_code 42 7 = some (.getfield 4097, 10) := by decide +kernel
theorem c_42_10 : ax_code 42 10 = some (.ifCond .ne 17, 13) := by decide +kernel
theorem c_42_13 : ax_code 42 13 = some (.iconst 1, 14) := by decide +kernel
theorem c_42_14 : ax_code 42 14 = some (.goto 18, 17) := by decide +kernel
theorem c_42_17 : ax_code 42 17 = some (.iconst 0, 18) := by decide +kernel
theorem c_42_18 : ax_code 42 18 = some (.ireturn, 19) := by decide +kernel
theorem c_43_0 : ax_code 43 0 = some (.iload 1, 1) := by decide +kernel
theorem c_43_1 : ax_code 43 1 = some (.aload 0, 2) := by decide +kernel
theorem c_43_2 : ax_code 43 2 = some (.arraylength, 3) := by decide +kernel
theorem c_43_3 : ax_code 43 3 = some (.invokestatic 44, 6) := by decide +kernel
theorem c_43_6 : ax_code 43 6 = some (.aload 0, 7) := by decide +kernel
theorem c_43_7 : ax_code 43 7 = some (.iload 1, 8) := by decide +kernel
theorem c_43_8 : ax_code 43 8 = some (.baload, 9) := by decide +kernel
theorem c_43_9 : ax_code 43 9 = some (.iconst 255, 12) := by decide +kernel
theorem c_43_12 : ax_code 43 12 = some (.iand, 13) := by decide +kernel
theorem c_43_13 : ax_code 43 13 = some (.i2c, 14) := by decide +kernel
theorem c_43_14 : ax_code 43 14 = some (.ireturn, 15) := by decide +kernel
theorem c_44_0 : ax_code 44 0 = some (.iload 0, 1) := by decide +kernel
theorem c_44_1 : ax_code 44 1 = some (.iload 1, 2) := by decide +kernel
theorem c_44_2 : ax_code 44 2 = some (.getstatic 3, 5) := by decide +kernel
theorem c_44_5 : ax_code 44 5 = some (.invokestatic 45, 8) := by decide +kernel
theorem c_44_8 : ax_code 44 8 = some (.pop, 9) := by decide +kernel
theorem c_44_9 : ax_code 44 9 = some (.return_, 10) := by decide +kernel
theorem c_45_0 : ax_code 45 0 = some (.iload 0, 1) := by decide +kernel
theorem c_45_1 : ax_code 45 1 = some (.ifCond .lt 9, 4) := by decide +kernel
theorem c_45_4 : ax_code 45 4 = some (.iload 0, 5) := by decide +kernel
theorem c_45_5 : ax_code 45 5 = some (.iload 1, 6) := by decide +kernel
theorem c_45_6 : ax_code 45 6 = some (.if_icmp .lt 16, 9) := by decide +kernel
theorem c_45_9 : ax_code 45 9 = some (.aload 2, 10) := by decide +kernel
theorem c_45_10 : ax_code 45 10 = some (.iload 0, 11) := by decide +kernel
theorem c_45_11 : ax_code 45 11 = some (.iload 1, 12) := by decide +kernel
theorem c_45_16 : ax_code 45 16 = some (.iload 0, 17) := by decide +kernel
theorem c_45_17 : ax_code 45 17 = some (.ireturn, 18) := by decide +kernel
theorem c_46_0 : ax_code 46 0 = some (.aload 0, 1) := by decide +kernel
theorem c_46_1 : ax_code 46 1 = some (.getfield 321, 4) := by decide +kernel
theorem c_46_4 : ax_code 46 4 = some (.iconst 16, 6) := by decide +kernel
theorem c_46_6 : ax_code 46 6 = some (.if_icmp .lt 15, 9) := by decide +kernel
theorem c_46_9 : ax_code 46 9 = some (.aload 1, 10) := by decide +kernel
theorem c_46_10 : ax_code 46 10 = some (.iconst 3, 11) := by decide +kernel
theorem c_46_11 : ax_code 46 11 = some (.invokevirtual 47, 14) := by decide +kernel
theorem c_46_14 : ax_code 46 14 = some (.return_, 15) := by decide +kernel
theorem c_46_15 : ax_code 46 15 = some (.aload 1, 16) := by decide +kernel
theorem c_46_16 : ax_code 46 16 = some (.ldc 0, 18) := by decide +kernel
theorem c_46_18 : ax_code 46 18 = some (.invokevirtual 48, 21) := by decide +kernel
theorem c_46_21 : ax_code 46 21 = some (.aload 0, 22) := by decide +kernel
theorem c_46_22 : ax_code 46 22 = some (.getfield 322, 25) := by decide +kernel
theorem c_46_25 : ax_code 46 25 = some (.aload 0, 26) := by decide +kernel
theorem c_46_26 : ax_code 46 26 = some (.getfield 321, 29) := by decide +kernel
theorem c_46_29 : ax_code 46 29 = some (.aload 1, 30) := by decide +kernel
theorem c_46_30 : ax_code 46 30 = some (.iconst 0, 31) := by decide +kernel
theorem c_46_31 : ax_code 46 31 = some (.iconst 3, 32) := by decide +kernel
theorem c_46_32 : ax_code 46 32 = some (.invokevirtual 50, 35) := by decide +kernel
theorem c_46_35 : ax_code 46 35 = some (.iastore, 36) := by decide +kernel
theorem c_46_36 : ax_code 46 36 = some (.aload 0, 37) := by decide +kernel
theorem c_46_37 : ax_code 46 37 = some (.getfield 323, 40) := by decide +kernel
theorem c_46_40 : ax_code 46 40 = some (.aload 0, 41) := by decide +kernel
theorem c_46_41 : ax_code 46 41 = some (.getfield 321, 44) := by decide +kernel
theorem c_46_44 : ax_code 46 44 = some (.aload 1, 45) := by decide +kernel
theorem c_46_45 : ax_code 46 45 = some (.iconst 0, 46) := by decide +kernel
theorem c_46_46 : ax_code 46 46 = some (.iconst 3, 47) := by decide +kernel
theorem c_46_47 : ax_code 46 47 = some (.invokevirtual 50, 50) := by decide +kernel
theorem c_46_50 : ax_code 46 50 = some (.iastore, 51) := by decide +kernel
theorem c_46_51 : ax_code 46 51 = some (.aload 0, 52) := by decide +kernel
theorem c_46_52 : ax_code 46 52 = some (.getfield 324, 55) := by decide +kernel
theorem c_46_55 : ax_code 46 55 = some (.aload 0, 56) := by decide +kernel
theorem c_46_56 : ax_code 46 56 = some (.getfield 321, 59) := by decide +kernel
theorem c_46_59 : ax_code 46 59 = some (.aload 1, 60) := by decide +kernel
theorem c_46_60 : ax_code 46 60 = some (.iconst 1800, 63) := by decide +kernel
theorem c_46_63 : ax_code 46 63 = some (.iconst 2000, 66) := by decide +kernel
theorem c_46_66 : ax_code 46 66 = some (.invokevirtual 50, 69) := by decide +kernel
theorem c_46_69 : ax_code 46 69 = some (.iastore, 70) := by decide +kernel
theorem c_46_70 : ax_code 46 70 = some (.aload 0, 71) := by decide +kernel
theorem c_46_71 : ax_code 46 71 = some (.getfield 325, 74) := by decide +kernel
theorem c_46_74 : ax_code 46 74 = some (.aload 0, 75) := by decide +kernel
theorem c_46_75 : ax_code 46 75 = some (.getfield 321, 78) := by decide +kernel
theorem c_46_78 : ax_code 46 78 = some (.aload 1, 79) := by decide +kernel
theorem c_46_79 : ax_code 46 79 = some (.iconst 1, 80) := by decide +kernel
theorem c_46_80 : ax_code 46 80 = some (.iconst 99, 82) := by decide +kernel
theorem c_46_82 : ax_code 46 82 = some (.invokevirtual 50, 85) := by decide +kernel
theorem c_46_85 : ax_code 46 85 = some (.iastore, 86) := by decide +kernel
theorem c_46_86 : ax_code 46 86 = some (.aload 1, 87) := by decide +kernel
theorem c_46_87 : ax_code 46 87 = some (.invokevirtual 53, 90) := by decide +kernel
theorem c_46_90 : ax_code 46 90 = some (.aload 0, 91) := by decide +kernel
theorem c_46_91 : ax_code 46 91 = some (.dup, 92) := by decide +kernel
theorem c_46_92 : ax_code 46 92 = some (.getfield 321, 95) := by decide +kernel
theorem c_46_95 : ax_code 46 95 = some (.iconst 1, 96) := by decide +kernel
theorem c_46_96 : ax_code 46 96 = some (.iadd, 97) := by decide +kernel
theorem c_46_97 : ax_code 46 97 = some (.putfield 321, 100) := by decide +kernel
theorem c_46_100 : ax_code 46 100 = some (.return_, 101) := by decide +kernel
theorem c_47_0 : ax_code 47 0 = some (.aload 0, 1) := by decide +kernel
theorem c_47_1 : ax_code 47 1 = some (.getfield 580, 4) := by decide +kernel
theorem c_47_4 : ax_code 47 4 = some (.ifCond .ne 25, 7) := by decide +kernel
theorem c_47_7 : ax_code 47 7 = some (.aload 0, 8) := by decide +kernel
theorem c_47_8 : ax_code 47 8 = some (.iconst 1, 9) := by decide +kernel
theorem c_47_9 : ax_code 47 9 = some (.putfield 580, 12) := by decide +kernel
theorem c_47_12 : ax_code 47 12 = some (.aload 0, 13) := by decide +kernel
theorem c_47_13 : ax_code 47 13 = some (.iload 1, 14) := by decide +kernel
theorem c_47_14 : ax_code 47 14 = some (.putfield 578, 17) := by decide +kernel
theorem c_47_17 : ax_code 47 17 = some (.aload 0, 18) := by decide +kernel
theorem c_47_18 : ax_code 47 18 = some (.aload 0, 19) := by decide +kernel
theorem c_47_19 : ax_code 47 19 = some (.getfield 582, 22) := by decide +kernel
theorem c_47_22 : ax_code 47 22 = some (.putfield 579, 25) := by decide +kernel
theorem c_47_25 : ax_code 47 25 = some (.return_, 26) := by decide +kernel
theorem c_48_0 : ax_code 48 0 = some (.aload 0, 1) := by decide +kernel
theorem c_48_1 : ax_code 48 1 = some (.aload 0, 2) := by decide +kernel
theorem c_48_2 : ax_code 48 2 = some (.aload 1, 3) := by decide +kernel
theorem c_48_3 : ax_code 48 3 = some (.invokevirtual 38, 6) := by decide +kernel
theorem c_48_6 : ax_code 48 6 = some (.invokevirtual 49, 9) := by decide +kernel
theorem c_48_9 : ax_code 48 9 = some (.return_, 10) := by decide +kernel
theorem c_49_0 : ax_code 49 0 = some (.iload 1, 1) := by decide +kernel
theorem c_49_1 : ax_code 49 1 = some (.ifCond .ne 12, 4) := by decide +kernel
theorem c_49_4 : ax_code 49 4 = some (.aload 0, 5) := by decide +kernel
theorem c_49_5 : ax_code 49 5 = some (.iconst 1, 6) := by decide +kernel
theorem c_49_6 : ax_code 49 6 = some (.invokevirtual 47, 9) := by decide +kernel
theorem c_49_9 : ax_code 49 9 = some (.goto 23, 12) := by decide +kernel
theorem c_49_12 : ax_code 49 12 = some (.aload 0, 13) := by decide +kernel
theorem c_49_13 : ax_code 49 13 = some (.getfield 580, 16) := by decide +kernel
theorem c_49_16 : ax_code 49 16 = some (.ifCond .ne 23, 19) := by decide +kernel
theorem c_49_19 : ax_code 49 19 = some (.aload 0, 20) := by decide +kernel
theorem c_49_20 : ax_code 49 20 = some (.invokevirtual 33, 23) := by decide +kernel
theorem c_49_23 : ax_code 49 23 = some (.return_, 24) := by decide +kernel
theorem c_50_0 : ax_code 50 0 = some (.aload 0, 1) := by decide +kernel
theorem c_50_1 : ax_code 50 1 = some (.iload 1, 2) := by decide +kernel
theorem c_50_2 : ax_code 50 2 = some (.iload 2, 3) := by decide +kernel
theorem c_50_3 : ax_code 50 3 = some (.invokevirtual 51, 6) := by decide +kernel
theorem c_50_6 : ax_code 50 6 = some (.istore 3, 7) := by decide +kernel
theorem c_50_7 : ax_code 50 7 = some (.aload 0, 8) := by decide +kernel
theorem c_50_8 : ax_code 50 8 = some (.getfield 580, 11) := by decide +kernel
theorem c_50_11 : ax_code 50 11 = some (.ifCond .ne 18, 14) := by decide +kernel
theorem c_50_14 : ax_code 50 14 = some (.aload 0, 15) := by decide +kernel
theorem c_50_15 : ax_code 50 15 = some (.invokevirtual 33, 18) := by decide +kernel
theorem c_50_18 : ax_code 50 18 = some (.iload 3, 19) := by decide +kernel
theorem c_50_19 : ax_code 50 19 = some (.ireturn, 20) := by decide +kernel
theorem c_51_0 : ax_code 51 0 = some (.aload 0, 1) := by decide +kernel
theorem c_51_1 : ax_code 51 1 = some (.getfield 581, 4) := by decide +kernel
theorem c_51_4 : ax_code 51 4 = some (.iconst 2, 5) := by decide +kernel
theorem c_51_5 : ax_code 51 5 = some (.if_icmp .eq 13, 8) := by decide +kernel
theorem c_51_8 : ax_code 51 8 = some (.aload 0, 9) := by decide +kernel
theorem c_51_9 : ax_code 51 9 = some (.iconst 1, 10) := by decide +kernel
theorem c_51_10 : ax_code 51 10 = some (.invokevirtual 47, 13) := by decide +kernel
theorem c_51_13 : ax_code 51 13 = some (.aload 0, 14) := by decide +kernel
theorem c_51_14 : ax_code 51 14 = some (.getfield 580, 17) := by decide +kernel
theorem c_51_17 : ax_code 51 17 = some (.ifCond .eq 24, 20) := by decide +kernel
theorem c_51_20 : ax_code 51 20 = some (.iconst 0, 21) := by decide +kernel
theorem c_51_21 : ax_code 51 21 = some (.goto 28, 24) := by decide +kernel
theorem c_51_24 : ax_code 51 24 = some (.aload 0, 25) := by decide +kernel
theorem c_51_25 : ax_code 51 25 = some (.invokevirtual 52, 28) := by decide +kernel
theorem c_51_28 : ax_code 51 28 = some (.istore 3, 29) := by decide +kernel
theorem c_51_29 : ax_code 51 29 = some (.iload 3, 30) := by decide +kernel
theorem c_51_30 : ax_code 51 30 = some (.iload 1, 31) := by decide +kernel
theorem c_51_31 : ax_code 51 31 = some (.if_icmp .lt 39, 34) := by decide +kernel
theorem c_51_34 : ax_code 51 34 = some (.iload 3, 35) := by decide +kernel
theorem c_51_35 : ax_code 51 35 = some (.iload 2, 36) := by decide +kernel
theorem c_51_36 : ax_code 51 36 = some (.if_icmp .le 44, 39) := by decide +kernel
theorem c_51_39 : ax_code 51 39 = some (.aload 0, 40) := by decide +kernel
theorem c_51_40 : ax_code 51 40 = some (.iconst 2, 41) := by decide +kernel
theorem c_51_41 : ax_code 51 41 = some (.invokevirtual 47, 44) := by decide +kernel
theorem c_51_44 : ax_code 51 44 = some (.aload 0, 45) := by decide +kernel
theorem c_51_45 : ax_code 51 45 = some (.getfield 580, 48) := by decide +kernel
theorem c_51_48 : ax_code 51 48 = some (.ifCond .eq 55, 51) := by decide +kernel
theorem c_51_51 : ax_code 51 51 = some (.iconst 0, 52) := by decide +kernel
theorem c_51_52 : ax_code 51 52 = some (.goto 56, 55) := by decide +kernel
theorem c_51_55 : ax_code 51 55 = some (.iload 3, 56) := by decide +kernel
theorem c_51_56 : ax_code 51 56 = some (.ireturn, 57) := by decide +kernel
theorem c_52_0 : ax_code 52 0 = some (.iconst 0, 1) := by decide +kernel
theorem c_52_1 : ax_code 52 1 = some (.istore 1, 2) := by decide +kernel
theorem c_52_2 : ax_code 52 2 = some (.aload 0, 3) := by decide +kernel
theorem c_52_3 : ax_code 52 3 = some (.getfield 582, 6) := by decide +kernel
theorem c_52_6 : ax_code 52 6 = some (.istore 2, 7) := by decide +kernel
theorem c_52_7 : ax_code 52 7 = some (.iload 2, 8) := by decide +kernel
theorem c_52_8 : ax_code 52 8 = some (.aload 0, 9) := by decide +kernel
theorem c_52_9 : ax_code 52 9 = some (.getfield 583, 12) := by decide +kernel
theorem c_52_12 : ax_code 52 12 = some (.if_icmp .ge 35, 15) := by decide +kernel
theorem c_52_15 : ax_code 52 15 = some (.iload 1, 16) := by decide +kernel
theorem c_52_16 : ax_code 52 16 = some (.iconst 10, 18) := by decide +kernel
theorem c_52_18 : ax_code 52 18 = some (.imul, 19) := by decide +kernel
theorem c_52_19 : ax_code 52 19 = some (.aload 0, 20) := by decide +kernel
theorem c_52_20 : ax_code 52 20 = some (.iload 2, 21) := by decide +kernel
theorem c_52_21 : ax_code 52 21 = some (.invokevirtual 34, 24) := by decide +kernel
theorem c_52_24 : ax_code 52 24 = some (.iconst 48, 26) := by decide +kernel
theorem c_52_26 : ax_code 52 26 = some (.isub, 27) := by decide +kernel
theorem c_52_27 : ax_code 52 27 = some (.iadd, 28) := by decide +kernel
theorem c_52_28 : ax_code 52 28 = some (.istore 1, 29) := by decide +kernel
theorem c_52_29 : ax_code 52 29 = some (.iinc 2 (1), 32) := by decide +kernel
theorem c_52_32 : ax_code 52 32 = some (.goto 7, 35) := by decide +kernel
theorem c_52_35 : ax_code 52 35 = some (.iload 1, 36) := by decide +kernel
theorem c_52_36 : ax_code 52 36 = some (.ireturn, 37) := by decide +kernel
theorem c_53_0 : ax_code 53 0 = some (.aload 0, 1) := by decide +kernel
theorem c_53_1 : ax_code 53 1 = some (.aload 0, 2) := by decide +kernel
theorem c_53_2 : ax_code 53 2 = some (.iconst 59, 4) := by decide +kernel
theorem c_53_4 : ax_code 53 4 = some (.invokevirtual 54, 7) := by decide +kernel
theorem c_53_7 : ax_code 53 7 = some (.invokevirtual 49, 10) := by decide +kernel
theorem c_53_10 : ax_code 53 10 = some (.return_, 11) := by decide +kernel
theorem c_54_0 : ax_code 54 0 = some (.aload 0, 1) := by decide +kernel
theorem c_54_1 : ax_code 54 1 = some (.getfield 581, 4) := by decide +kernel
theorem c_54_4 : ax_code 54 4 = some (.iconst 3, 5) := by decide +kernel
theorem c_54_5 : ax_code 54 5 = some (.if_icmp .ne 24, 8) := by decide +kernel
theorem c_54_8 : ax_code 54 8 = some (.aload 0, 9) := by decide +kernel
theorem c_54_9 : ax_code 54 9 = some (.aload 0, 10) := by decide +kernel
theorem c_54_10 : ax_code 54 10 = some (.getfield 582, 13) := by decide +kernel
theorem c_54_13 : ax_code 54 13 = some (.invokevirtual 34, 16) := by decide +kernel
theorem c_54_16 : ax_code 54 16 = some (.iload 1, 17) := by decide +kernel
theorem c_54_17 : ax_code 54 17 = some (.if_icmp .ne 24, 20) := by decide +kernel
theorem c_54_20 : ax_code 54 20 = some (.iconst 1, 21) := by decide +kernel
theorem c_54_21 : ax_code 54 21 = some (.goto 25, 24) := by decide +kernel
theorem c_54_24 : ax_code 54 24 = some (.iconst 0, 25) := by decide +kernel
theorem c_54_25 : ax_code 54 25 = some (.ireturn, 26) := by decide +kernel
theorem c_55_0 : ax_code 55 0 = some (.aload 0, 1) := by decide +kernel
theorem c_55_1 : ax_code 55 1 = some (.getfield 326, 4) := by decide +kernel
theorem c_55_4 : ax_code 55 4 = some (.iconst 8, 6) := by decide +kernel
theorem c_55_6 : ax_code 55 6 = some (.if_icmp .lt 15, 9) := by decide +kernel
theorem c_55_9 : ax_code 55 9 = some (.aload 1, 10) := by decide +kernel
theorem c_55_10 : ax_code 55 10 = some (.iconst 3, 11) := by decide +kernel
theorem c_55_11 : ax_code 55 11 = some (.invokevirtual 47, 14) := by decide +kernel
theorem c_55_14 : ax_code 55 14 = some (.return_, 15) := by decide +kernel
theorem c_55_15 : ax_code 55 15 = some (.aload 1, 16) := by decide +kernel
theorem c_55_16 : ax_code 55 16 = some (.ldc 1, 18) := by decide +kernel
theorem c_55_18 : ax_code 55 18 = some (.invokevirtual 48, 21) := by decide +kernel
theorem c_55_21 : ax_code 55 21 = some (.aload 0, 22) := by decide +kernel
theorem c_55_22 : ax_code 55 22 = some (.getfield 327, 25) := by decide +kernel
theorem c_55_25 : ax_code 55 25 = some (.aload 0, 26) := by decide +kernel
theorem c_55_26 : ax_code 55 26 = some (.getfield 326, 29) := by decide +kernel
theorem c_55_29 : ax_code 55 29 = some (.aload 1, 30) := by decide +kernel
theorem c_55_30 : ax_code 55 30 = some (.iconst 0, 31) := by decide +kernel
theorem c_55_31 : ax_code 55 31 = some (.iconst 7, 33) := by decide +kernel
theorem c_55_33 : ax_code 55 33 = some (.invokevirtual 50, 36) := by decide +kernel
theorem c_55_36 : ax_code 55 36 = some (.iastore, 37) := by decide +kernel
theorem c_55_37 : ax_code 55 37 = some (.aload 0, 38) := by decide +kernel
theorem c_55_38 : ax_code 55 38 = some (.getfield 328, 41) := by decide +kernel
theorem c_55_41 : ax_code 55 41 = some (.aload 0, 42) := by decide +kernel
theorem c_55_42 : ax_code 55 42 = some (.getfield 326, 45) := by decide +kernel
theorem c_55_45 : ax_code 55 45 = some (.aload 1, 46) := by decide +kernel
theorem c_55_46 : ax_code 55 46 = some (.iconst 1800, 49) := by decide +kernel
theorem c_55_49 : ax_code 55 49 = some (.iconst 2000, 52) := by decide +kernel
theorem c_55_52 : ax_code 55 52 = some (.invokevirtual 50, 55) := by decide +kernel
theorem c_55_55 : ax_code 55 55 = some (.iastore, 56) := by decide +kernel
theorem c_55_56 : ax_code 55 56 = some (.aload 0, 57) := by decide +kernel
theorem c_55_57 : ax_code 55 57 = some (.getfield 329, 60) := by decide +kernel
theorem c_55_60 : ax_code 55 60 = some (.aload 0, 61) := by decide +kernel
theorem c_55_61 : ax_code 55 61 = some (.getfield 326, 64) := by decide +kernel
theorem c_55_64 : ax_code 55 64 = some (.aload 1, 65) := by decide +kernel
theorem c_55_65 : ax_code 55 65 = some (.aload 0, 66) := by decide +kernel
theorem c_55_66 : ax_code 55 66 = some (.getfield 328, 69) := by decide +kernel
theorem c_55_69 : ax_code 55 69 = some (.aload 0, 70) := by decide +kernel
theorem c_55_70 : ax_code 55 70 = some (.getfield 326, 73) := by decide +kernel
theorem c_55_73 : ax_code 55 73 = some (.iaload, 74) := by decide +kernel
theorem c_55_74 : ax_code 55 74 = some (.iconst 2000, 77) := by decide +kernel
theorem c_55_77 : ax_code 55 77 = some (.invokevirtual 50, 80) := by decide +kernel
theorem c_55_80 : ax_code 55 80 = some (.iastore, 81) := by decide +kernel
theorem c_55_81 : ax_code 55 81 = some (.aload 1, 82) := by decide +kernel
theorem c_55_82 : ax_code 55 82 = some (.invokevirtual 53, 85) := by decide +kernel
theorem c_55_85 : ax_code 55 85 = some (.aload 0, 86) := by decide +kernel
theorem c_55_86 : ax_code 55 86 = some (.dup, 87) := by decide +kernel
theorem c_55_87 : ax_code 55 87 = some (.getfield 326, 90) := by decide +kernel
theorem c_55_90 : ax_code 55 90 = some (.iconst 1, 91) := by decide +kernel
theorem c_55_91 : ax_code 55 91 = some (.iadd, 92) := by decide +kernel
theorem c_55_92 : ax_code 55 92 = some (.putfield 326, 95) := by decide +kernel
theorem c_55_95 : ax_code 55 95 = some (.return_, 96) := by decide +kernel
theorem c_56_0 : ax_code 56 0 = some (.aload 1, 1) := by decide +kernel
theorem c_56_1 : ax_code 56 1 = some (.ldc 2, 3) := by decide +kernel
theorem c_56_3 : ax_code 56 3 = some (.invokevirtual 48, 6) := by decide +kernel
theorem c_56_6 : ax_code 56 6 = some (.iconst 0, 7) := by decide +kernel
theorem c_56_7 : ax_code 56 7 = some (.istore 2, 8) := by decide +kernel
theorem c_56_8 : ax_code 56 8 = some (.iload 2, 9) := by decide +kernel
theorem c_56_9 : ax_code 56 9 = some (.iconst 8, 11) := by decide +kernel
theorem c_56_11 : ax_code 56 11 = some (.if_icmp .ge 33, 14) := by decide +kernel
theorem c_56_14 : ax_code 56 14 = some (.aload 0, 15) := by decide +kernel
theorem c_56_15 : ax_code 56 15 = some (.getfield 330, 18) := by decide +kernel
theorem c_56_18 : ax_code 56 18 = some (.iload 2, 19) := by decide +kernel
theorem c_56_19 : ax_code 56 19 = some (.aload 1, 20) := by decide +kernel
theorem c_56_20 : ax_code 56 20 = some (.iconst 0, 21) := by decide +kernel
theorem c_56_21 : ax_code 56 21 = some (.iconst 9, 23) := by decide +kernel
theorem c_56_23 : ax_code 56 23 = some (.invokevirtual 50, 26) := by decide +kernel
theorem c_56_26 : ax_code 56 26 = some (.iastore, 27) := by decide +kernel
theorem c_56_27 : ax_code 56 27 = some (.iinc 2 (1), 30) := by decide +kernel
theorem c_56_30 : ax_code 56 30 = some (.goto 8, 33) := by decide +kernel
theorem c_56_33 : ax_code 56 33 = some (.aload 0, 34) := by decide +kernel
theorem c_56_34 : ax_code 56 34 = some (.aload 1, 35) := by decide +kernel
theorem c_56_35 : ax_code 56 35 = some (.iconst 0, 36) := by decide +kernel
theorem c_56_36 : ax_code 56 36 = some (.iconst 9, 38) := by decide +kernel
theorem c_56_38 : ax_code 56 38 = some (.invokevirtual 50, 41) := by decide +kernel
theorem c_56_41 : ax_code 56 41 = some (.putfield 331, 44) := by decide +kernel
theorem c_56_44 : ax_code 56 44 = some (.aload 0, 45) := by decide +kernel
theorem c_56_45 : ax_code 56 45 = some (.aload 1, 46) := by decide +kernel
theorem c_56_46 : ax_code 56 46 = some (.iconst 0, 47) := by decide +kernel
theorem c_56_47 : ax_code 56 47 = some (.iconst 99, 49) := by decide +kernel
theorem c_56_49 : ax_code 56 49 = some (.invokevirtual 50, 52) := by decide +kernel
theorem c_56_52 : ax_code 56 52 = some (.putfield 332, 55) := by decide +kernel
theorem c_56_55 : ax_code 56 55 = some (.aload 0, 56) := by decide +kernel
theorem c_56_56 : ax_code 56 56 = some (.aload 1, 57) := by decide +kernel
theorem c_56_57 : ax_code 56 57 = some (.iconst 0, 58) := by decide +kernel
theorem c_56_58 : ax_code 56 58 = some (.iconst 99, 60) := by decide +kernel
theorem c_56_60 : ax_code 56 60 = some (.invokevirtual 50, 63) := by decide +kernel
theorem c_56_63 : ax_code 56 63 = some (.putfield 333, 66) := by decide +kernel
theorem c_56_66 : ax_code 56 66 = some (.aload 0, 67) := by decide +kernel
theorem c_56_67 : ax_code 56 67 = some (.aload 1, 68) := by decide +kernel
theorem c_56_68 : ax_code 56 68 = some (.iconst 0, 69) := by decide +kernel
theorem c_56_69 : ax_code 56 69 = some (.iconst 9999, 72) := by decide +kernel
theorem c_56_72 : ax_code 56 72 = some (.invokevirtual 50, 75) := by decide +kernel
theorem c_56_75 : ax_code 56 75 = some (.putfield 334, 78) := by decide +kernel
theorem c_56_78 : ax_code 56 78 = some (.aload 1, 79) := by decide +kernel
theorem c_56_79 : ax_code 56 79 = some (.invokevirtual 53, 82) := by decide +kernel
theorem c_56_82 : ax_code 56 82 = some (.return_, 83) := by decide +kernel
theorem c_57_0 : ax_code 57 0 = some (.aload 0, 1) := by decide +kernel
theorem c_57_1 : ax_code 57 1 = some (.invokevirtual 58, 4) := by decide +kernel
theorem c_57_4 : ax_code 57 4 = some (.ifCond .ne 12, 7) := by decide +kernel
theorem c_57_7 : ax_code 57 7 = some (.aload 0, 8) := by decide +kernel
theorem c_57_8 : ax_code 57 8 = some (.iconst 1, 9) := by decide +kernel
theorem c_57_9 : ax_code 57 9 = some (.invokevirtual 47, 12) := by decide +kernel
theorem c_57_12 : ax_code 57 12 = some (.return_, 13) := by decide +kernel
theorem c_58_0 : ax_code 58 0 = some (.aload 0, 1) := by decide +kernel
theorem c_58_1 : ax_code 58 1 = some (.getfield 581, 4) := by decide +kernel
theorem c_58_4 : ax_code 58 4 = some (.iconst 4, 5) := by decide +kernel
theorem c_58_5 : ax_code 58 5 = some (.if_icmp .ne 12, 8) := by decide +kernel
theorem c_58_8 : ax_code 58 8 = some (.iconst 1, 9) := by decide +kernel
theorem c_58_9 : ax_code 58 9 = some (.goto 13, 12) := by decide +kernel
theorem c_58_12 : ax_code 58 12 = some (.iconst 0, 13) := by decide +kernel
theorem c_58_13 : ax_code 58 13 = some (.ireturn, 14) := by decide +kernel
theorem c_59_0 : ax_code 59 0 = some (.aload 0, 1) := by decide +kernel
theorem c_59_1 : ax_code 59 1 = some (.getfield 580, 4) := by decide +kernel
theorem c_59_4 : ax_code 59 4 = some (.ireturn, 5) := by decide +kernel
theorem c_60_0 : ax_code 60 0 = some (.aload 0, 1) := by decide +kernel
theorem c_60_1 : ax_code 60 1 = some (.iconst 0, 2) := by decide +kernel
theorem c_60_2 : ax_code 60 2 = some (.putfield 577, 5) := by decide +kernel
theorem c_60_5 : ax_code 60 5 = some (.return_, 6) := by decide +kernel
theorem c_61_0 : ax_code 61 0 = some (.aload 0, 1) := by decide +kernel
theorem c_61_1 : ax_code 61 1 = some (.getfield 579, 4) := by decide +kernel
theorem c_61_4 : ax_code 61 4 = some (.ireturn, 5) := by decide +kernel
theorem c_62_0 : ax_code 62 0 = some (.aload 0, 1) := by decide +kernel
theorem c_62_1 : ax_code 62 1 = some (.aload 1, 2) := by decide +kernel
theorem c_62_2 : ax_code 62 2 = some (.getfield 320, 5) := by decide +kernel
theorem c_62_5 : ax_code 62 5 = some (.putfield 320, 8) := by decide +kernel
theorem c_62_8 : ax_code 62 8 = some (.aload 0, 9) := by decide +kernel
theorem c_62_9 : ax_code 62 9 = some (.aload 1, 10) := by decide +kernel
theorem c_62_10 : ax_code 62 10 = some (.getfield 321, 13) := by decide +kernel
theorem c_62_13 : ax_code 62 13 = some (.putfield 321, 16) := by decide +kernel
theorem c_62_16 : ax_code 62 16 = some (.aload 0, 17) := by decide +kernel
theorem c_62_17 : ax_code 62 17 = some (.aload 1, 18) := by decide +kernel
theorem c_62_18 : ax_code 62 18 = some (.getfield 326, 21) := by decide +kernel
theorem c_62_21 : ax_code 62 21 = some (.putfield 326, 24) := by decide +kernel
theorem c_62_24 : ax_code 62 24 = some (.aload 0, 25) := by decide +kernel
theorem c_62_25 : ax_code 62 25 = some (.aload 1, 26) := by decide +kernel
theorem c_62_26 : ax_code 62 26 = some (.getfield 331, 29) := by decide +kernel
theorem c_62_29 : ax_code 62 29 = some (.putfield 331, 32) := by decide +kernel
theorem c_62_32 : ax_code 62 32 = some (.aload 0, 33) := by decide +kernel
theorem c_62_33 : ax_code 62 33 = some (.aload 1, 34) := by decide +kernel
theorem c_62_34 : ax_code 62 34 = some (.getfield 332, 37) := by decide +kernel
theorem c_62_37 : ax_code 62 37 = some (.putfield 332, 40) := by decide +kernel
theorem c_62_40 : ax_code 62 40 = some (.aload 0, 41) := by decide +kernel
theorem c_62_41 : ax_code 62 41 = some (.aload 1, 42) := by decide +kernel
theorem c_62_42 : ax_code 62 42 = some (.getfield 333, 45) := by decide +kernel
theorem c_62_45 : ax_code 62 45 = some (.putfield 333, 48) := by decide +kernel
theorem c_62_48 : ax_code 62 48 = some (.aload 0, 49) := by decide +kernel
theorem c_62_49 : ax_code 62 49 = some (.aload 1, 50) := by decide +kernel
theorem c_62_50 : ax_code 62 50 = some (.getfield 334, 53) := by decide +kernel
theorem c_62_53 : ax_code 62 53 = some (.putfield 334, 56) := by decide +kernel
theorem c_62_56 : ax_code 62 56 = some (.aload 1, 57) := by decide +kernel
theorem c_62_57 : ax_code 62 57 = some (.getfield 322, 60) := by decide +kernel
theorem c_62_60 : ax_code 62 60 = some (.iconst 0, 61) := by decide +kernel
theorem c_62_61 : ax_code 62 61 = some (.aload 0, 62) := by decide +kernel
theorem c_62_62 : ax_code 62 62 = some (.getfield 322, 65) := by decide +kernel
theorem c_62_65 : ax_code 62 65 = some (.iconst 0, 66) := by decide +kernel
theorem c_62_66 : ax_code 62 66 = some (.iconst 16, 68) := by decide +kernel
theorem c_62_68 : ax_code 62 68 = some (.invokedynamic 3, 71) := by decide +kernel
theorem c_62_71 : ax_code 62 71 = some (.aload 1, 72) := by decide +kernel
theorem c_62_72 : ax_code 62 72 = some (.getfield 323, 75) := by decide +kernel
theorem c_62_75 : ax_code 62 75 = some (.iconst 0, 76) := by decide +kernel
theorem c_62_76 : ax_code 62 76 = some (.aload 0, 77) := by decide +kernel
theorem c_62_77 : ax_code 62 77 = some (.getfield 323, 80) := by decide +kernel
theorem c_62_80 : ax_code 62 80 = some (.iconst 0, 81) := by decide +kernel
theorem c_62_81 : ax_code 62 81 = some (.iconst 16, 83) := by decide +kernel
theorem c_62_83 : ax_code 62 83 = some (.invokedynamic 3, 86) := by decide +kernel
theorem c_62_86 : ax_code 62 86 = some (.aload 1, 87) := by decide +kernel
theorem c_62_87 : ax_code 62 87 = some (.getfield 324, 90) := by decide +kernel
theorem c_62_90 : ax_code 62 90 = some (.iconst 0, 91) := by decide +kernel
theorem c_62_91 : ax_code 62 91 = some (.aload 0, 92) := by decide +kernel
theorem c_62_92 : ax_code 62 92 = some (.getfield 324, 95) := by decide +kernel
theorem c_62_95 : ax_code 62 95 = some (.iconst 0, 96) := by decide +kernel
theorem c_62_96 : ax_code 62 96 = some (.iconst 16, 98) := by decide +kernel
theorem c_62_98 : ax_code 62 98 = some (.invokedynamic 3, 101) := by decide +kernel
theorem c_62_101 : ax_code 62 101 = some (.aload 1, 102) := by decide +kernel
theorem c_62_102 : ax_code 62 102 = some (.getfield 325, 105) := by decide +kernel
theorem c_62_105 : ax_code 62 105 = some (.iconst 0, 106) := by decide +kernel
theorem c_62_106 : ax_code 62 106 = some (.aload 0, 107) := by decide +kernel
theorem c_62_107 : ax_code 62 107 = some (.getfield 325, 110) := by decide +kernel
theorem c_62_110 : ax_code 62 110 = some (.iconst 0, 111) := by decide +kernel
theorem c_62_111 : ax_code 62 111 = some (.iconst 16, 113) := by decide +kernel
theorem c_62_113 : ax_code 62 113 = some (.invokedynamic 3, 116) := by decide +kernel
theorem c_62_116 : ax_code 62 116 = some (.aload 1, 117) := by decide +kernel
theorem c_62_117 : ax_code 62 117 = some (.getfield 327, 120) := by decide +kernel
theorem c_62_120 : ax_code 62 120 = some (.iconst 0, 121) := by decide +kernel
theorem c_62_121 : ax_code 62 121 = some (.aload 0, 122) := by decide +kernel
theorem c_62_122 : ax_code 62 122 = some (.getfield 327, 125) := by decide +kernel
theorem c_62_125 : ax_code 62 125 = some (.iconst 0, 126) := by decide +kernel
theorem c_62_126 : ax_code 62 126 = some (.iconst 8, 128) := by decide +kernel
theorem c_62_128 : ax_code 62 128 = some (.invokedynamic 3, 131) := by decide +kernel
theorem c_62_131 : ax_code 62 131 = some (.aload 1, 132) := by decide +kernel
theorem c_62_132 : ax_code 62 132 = some (.getfield 328, 135) := by decide +kernel
theorem c_62_135 : ax_code 62 135 = some (.iconst 0, 136) := by decide +kernel
theorem c_62_136 : ax_code 62 136 = some (.aload 0, 137) := by decide +kernel
theorem c_62_137 : ax_code 62 137 = some (.getfield 328, 140) := by decide +kernel
theorem c_62_140 : ax_code 62 140 = some (.iconst 0, 141) := by decide +kernel
theorem c_62_141 : ax_code 62 141 = some (.iconst 8, 143) := by decide +kernel
theorem c_62_143 : ax_code 62 143 = some (.invokedynamic 3, 146) := by decide +kernel
theorem c_62_146 : ax_code 62 146 = some (.aload 1, 147) := by decide +kernel
theorem c_62_147 : ax_code 62 147 = some (.getfield 329, 150) := by decide +kernel
theorem c_62_150 : ax_code 62 150 = some (.iconst 0, 151) := by decide +kernel
theorem c_62_151 : ax_code 62 151 = some (.aload 0, 152) := by decide +kernel
theorem c_62_152 : ax_code 62 152 = some (.getfield 329, 155) := by decide +kernel
theorem c_62_155 : ax_code 62 155 = some (.iconst 0, 156) := by decide +kernel
theorem c_62_156 : ax_code 62 156 = some (.iconst 8, 158) := by decide +kernel
theorem c_62_158 : ax_code 62 158 = some (.invokedynamic 3, 161) := by decide +kernel
theorem c_62_161 : ax_code 62 161 = some (.aload 1, 162) := by decide +kernel
theorem c_62_162 : ax_code 62 162 = some (.getfield 330, 165) := by decide +kernel
theorem c_62_165 : ax_code 62 165 = some (.iconst 0, 166) := by decide +kernel
theorem c_62_166 : ax_code 62 166 = some (.aload 0, 167) := by decide +kernel
theorem c_62_167 : ax_code 62 167 = some (.getfield 330, 170) := by decide +kernel
theorem c_62_170 : ax_code 62 170 = some (.iconst 0, 171) := by decide +kernel
theorem c_62_171 : ax_code 62 171 = some (.iconst 8, 173) := by decide +kernel
theorem c_62_173 : ax_code 62 173 = some (.invokedynamic 3, 176) := by decide +kernel
theorem c_62_176 : ax_code 62 176 = some (.return_, 177) := by decide +kernel
theorem c_63_0 : ax_code 63 0 = some (.aload 0, 1) := by decide +kernel
theorem c_63_1 : ax_code 63 1 = some (.iconst 0, 2) := by decide +kernel
theorem c_63_2 : ax_code 63 2 = some (.putfield 64, 5) := by decide +kernel
theorem c_63_5 : ax_code 63 5 = some (.return_, 6) := by decide +kernel
theorem c_64_0 : ax_code 64 0 = some (.aload 0, 1) := by decide +kernel
theorem c_64_1 : ax_code 64 1 = some (.getfield 321, 4) := by decide +kernel
theorem c_64_4 : ax_code 64 4 = some (.ireturn, 5) := by decide +kernel
theorem c_65_0 : ax_code 65 0 = some (.aload 0, 1) := by decide +kernel
theorem c_65_1 : ax_code 65 1 = some (.getfield 326, 4) := by decide +kernel
theorem c_65_4 : ax_code 65 4 = some (.ireturn, 5) := by decide +kernel
theorem c_66_0 : ax_code 66 0 = some (.aload 0, 1) := by decide +kernel
theorem c_66_1 : ax_code 66 1 = some (.getfield 642, 4) := by decide +kernel
theorem c_66_4 : ax_code 66 4 = some (.getfield 256, 7) := by decide +kernel
theorem c_66_7 : ax_code 66 7 = some (.invokevirtual 67, 10) := by decide +kernel
theorem c_66_10 : ax_code 66 10 = some (.ifCond .ne 17, 13) := by decide +kernel
theorem c_66_13 : ax_code 66 13 = some (.ldc2_w 4, 16) := by decide +kernel
theorem c_66_16 : ax_code 66 16 = some (.lreturn, 17) := by decide +kernel
theorem c_66_17 : ax_code 66 17 = some (.aload 0, 18) := by decide +kernel
theorem c_66_18 : ax_code 66 18 = some (.getfield 642, 21) := by decide +kernel
theorem c_66_21 : ax_code 66 21 = some (.getfield 257, 24) := by decide +kernel
theorem c_66_24 : ax_code 66 24 = some (.invokevirtual 68, 27) := by decide +kernel
theorem c_66_27 : ax_code 66 27 = some (.ifCond .eq 34, 30) := by decide +kernel
theorem c_66_30 : ax_code 66 30 = some (.ldc2_w 2, 33) := by decide +kernel
theorem c_66_33 : ax_code 66 33 = some (.lreturn, 34) := by decide +kernel
theorem c_66_34 : ax_code 66 34 = some (.aload 0, 35) := by decide +kernel
theorem c_66_35 : ax_code 66 35 = some (.getfield 646, 38) := by decide +kernel
theorem c_66_38 : ax_code 66 38 = some (.aload 0, 39) := by decide +kernel
theorem c_66_39 : ax_code 66 39 = some (.getfield 641, 42) := by decide +kernel
theorem c_66_42 : ax_code 66 42 = some (.aload 0, 43) := by decide +kernel
theorem c_66_43 : ax_code 66 43 = some (.getfield 642, 46) := by decide +kernel
theorem c_66_46 : ax_code 66 46 = some (.getfield 256, 49) := by decide +kernel
theorem c_66_49 : ax_code 66 49 = some (.invokevirtual 69, 52) := by decide +kernel
theorem c_66_52 : ax_code 66 52 = some (.istore 1, 53) := by decide +kernel
theorem c_66_53 : ax_code 66 53 = some (.aload 0, 54) := by decide +kernel
theorem c_66_54 : ax_code 66 54 = some (.getfield 641, 57) := by decide +kernel
theorem c_66_57 : ax_code 66 57 = some (.invokevirtual 60, 60) := by decide +kernel
theorem c_66_60 : ax_code 66 60 = some (.iload 1, 61) := by decide +kernel
theorem c_66_61 : ax_code 66 61 = some (.ifCond .ne 77, 64) := by decide +kernel
theorem c_66_64 : ax_code 66 64 = some (.ldc2_w 3, 67) := by decide +kernel
theorem c_66_67 : ax_code 66 67 = some (.aload 0, 68) := by decide +kernel
theorem c_66_68 : ax_code 66 68 = some (.getfield 641, 71) := by decide +kernel
theorem c_66_71 : ax_code 66 71 = some (.invokevirtual 61, 74) := by decide +kernel
theorem c_66_74 : ax_code 66 74 = some (.i2l, 75) := by decide +kernel
theorem c_66_75 : ax_code 66 75 = some (.lsub, 76) := by decide +kernel
theorem c_66_76 : ax_code 66 76 = some (.lreturn, 77) := by decide +kernel
theorem c_66_77 : ax_code 66 77 = some (.aload 0, 78) := by decide +kernel
theorem c_66_78 : ax_code 66 78 = some (.getfield 642, 81) := by decide +kernel
theorem c_66_81 : ax_code 66 81 = some (.getfield 257, 84) := by decide +kernel
theorem c_66_84 : ax_code 66 84 = some (.aload 0, 85) := by decide +kernel
theorem c_66_85 : ax_code 66 85 = some (.getfield 646, 88) := by decide +kernel
theorem c_66_88 : ax_code 66 88 = some (.iconst (-1000000), 90) := by decide +kernel
theorem c_66_90 : ax_code 66 90 = some (.invokevirtual 78, 93) := by decide +kernel
theorem c_66_93 : ax_code 66 93 = some (.i2l, 94) := by decide +kernel
theorem c_66_94 : ax_code 66 94 = some (.lreturn, 95) := by decide +kernel
theorem c_67_0 : ax_code 67 0 = some (.aload 0, 1) := by decide +kernel
theorem c_67_1 : ax_code 67 1 = some (.getfield 320, 4) := by decide +kernel
theorem c_67_4 : ax_code 67 4 = some (.ireturn, 5) := by decide +kernel
theorem c_68_0 : ax_code 68 0 = some (.aload 0, 1) := by decide +kernel
theorem c_68_1 : ax_code 68 1 = some (.getfield 64, 4) := by decide +kernel
theorem c_68_4 : ax_code 68 4 = some (.iconst 12, 6) := by decide +kernel
theorem c_68_6 : ax_code 68 6 = some (.if_icmp .lt 13, 9) := by decide +kernel
theorem c_68_9 : ax_code 68 9 = some (.iconst 1, 10) := by decide +kernel
theorem c_68_10 : ax_code 68 10 = some (.goto 14, 13) := by decide +kernel
theorem c_68_13 : ax_code 68 13 = some (.iconst 0, 14) := by decide +kernel
theorem c_68_14 : ax_code 68 14 = some (.ireturn, 15) := by decide +kernel
theorem c_69_0 : ax_code 69 0 = some (.aload 0, 1) := by decide +kernel
theorem c_69_1 : ax_code 69 1 = some (.iconst 0, 2) := by decide +kernel
theorem c_69_2 : ax_code 69 2 = some (.iconst 1800, 5) := by decide +kernel
theorem c_69_5 : ax_code 69 5 = some (.invokevirtual 70, 8) := by decide +kernel
theorem c_69_8 : ax_code 69 8 = some (.aload 1, 9) := by decide +kernel
theorem c_69_9 : ax_code 69 9 = some (.invokevirtual 32, 12) := by decide +kernel
theorem c_69_12 : ax_code 69 12 = some (.aload 1, 13) := by decide +kernel
theorem c_69_13 : ax_code 69 13 = some (.ldc 3, 15) := by decide +kernel
theorem c_69_15 : ax_code 69 15 = some (.invokevirtual 48, 18) := by decide +kernel
theorem c_69_18 : ax_code 69 18 = some (.aload 0, 19) := by decide +kernel
theorem c_69_19 : ax_code 69 19 = some (.aload 1, 20) := by decide +kernel
theorem c_69_20 : ax_code 69 20 = some (.iconst 0, 21) := by decide +kernel
theorem c_69_21 : ax_code 69 21 = some (.iconst 3, 22) := by decide +kernel
theorem c_69_22 : ax_code 69 22 = some (.invokevirtual 50, 25) := by decide +kernel
theorem c_69_25 : ax_code 69 25 = some (.putfield 384, 28) := by decide +kernel
theorem c_69_28 : ax_code 69 28 = some (.aload 0, 29) := by decide +kernel
theorem c_69_29 : ax_code 69 29 = some (.aload 1, 30) := by decide +kernel
theorem c_69_30 : ax_code 69 30 = some (.iconst 1800, 33) := by decide +kernel
theorem c_69_33 : ax_code 69 33 = some (.iconst 2000, 36) := by decide +kernel
theorem c_69_36 : ax_code 69 36 = some (.invokevirtual 50, 39) := by decide +kernel
theorem c_69_39 : ax_code 69 39 = some (.putfield 385, 42) := by decide +kernel
theorem c_69_42 : ax_code 69 42 = some (.aload 1, 43) := by decide +kernel
theorem c_69_43 : ax_code 69 43 = some (.invokevirtual 53, 46) := by decide +kernel
theorem c_69_46 : ax_code 69 46 = some (.iconst 0, 47) := by decide +kernel
theorem c_69_47 : ax_code 69 47 = some (.istore 3, 48) := by decide +kernel
theorem c_69_48 : ax_code 69 48 = some (.iload 3, 49) := by decide +kernel
theorem c_69_49 : ax_code 69 49 = some (.iconst 500, 52) := by decide +kernel
theorem c_69_52 : ax_code 69 52 = some (.if_icmp .ge 81, 55) := by decide +kernel
theorem c_69_55 : ax_code 69 55 = some (.aload 1, 56) := by decide +kernel
theorem c_69_56 : ax_code 69 56 = some (.invokevirtual 59, 59) := by decide +kernel
theorem c_69_59 : ax_code 69 59 = some (.ifCond .ne 81, 62) := by decide +kernel
theorem c_69_62 : ax_code 69 62 = some (.aload 1, 63) := by decide +kernel
theorem c_69_63 : ax_code 69 63 = some (.invokevirtual 58, 66) := by decide +kernel
theorem c_69_66 : ax_code 69 66 = some (.ifCond .ne 81, 69) := by decide +kernel
theorem c_69_69 : ax_code 69 69 = some (.aload 0, 70) := by decide +kernel
theorem c_69_70 : ax_code 69 70 = some (.aload 1, 71) := by decide +kernel
theorem c_69_71 : ax_code 69 71 = some (.aload 2, 72) := by decide +kernel
theorem c_69_72 : ax_code 69 72 = some (.invokevirtual 71, 75) := by decide +kernel
theorem c_69_75 : ax_code 69 75 = some (.iinc 3 (1), 78) := by decide +kernel
theorem c_69_78 : ax_code 69 78 = some (.goto 48, 81) := by decide +kernel
theorem c_69_81 : ax_code 69 81 = some (.aload 1, 82) := by decide +kernel
theorem c_69_82 : ax_code 69 82 = some (.invokevirtual 57, 85) := by decide +kernel
theorem c_69_85 : ax_code 69 85 = some (.aload 1, 86) := by decide +kernel
theorem c_69_86 : ax_code 69 86 = some (.invokevirtual 59, 89) := by decide +kernel
theorem c_69_89 : ax_code 69 89 = some (.ifCond .ne 96, 92) := by decide +kernel
theorem c_69_92 : ax_code 69 92 = some (.iconst 1, 93) := by decide +kernel
theorem c_69_93 : ax_code 69 93 = some (.goto 97, 96) := by decide +kernel
theorem c_69_96 : ax_code 69 96 = some (.iconst 0, 97) := by decide +kernel
theorem c_69_97 : ax_code 69 97 = some (.ireturn, 98) := by decide +kernel
theorem c_70_0 : ax_code 70 0 = some (.aload 0, 1) := by decide +kernel
theorem c_70_1 : ax_code 70 1 = some (.iload 1, 2) := by decide +kernel
theorem c_70_2 : ax_code 70 2 = some (.putfield 384, 5) := by decide +kernel
theorem c_70_5 : ax_code 70 5 = some (.aload 0, 6) := by decide +kernel
theorem c_70_6 : ax_code 70 6 = some (.iload 2, 7) := by decide +kernel
theorem c_70_7 : ax_code 70 7 = some (.putfield 385, 10) := by decide +kernel
theorem c_70_10 : ax_code 70 10 = some (.aload 0, 11) := by decide +kernel
theorem c_70_11 : ax_code 70 11 = some (.iconst 0, 12) := by decide +kernel
theorem c_70_12 : ax_code 70 12 = some (.putfield 387, 15) := by decide +kernel
theorem c_70_15 : ax_code 70 15 = some (.aload 0, 16) := by decide +kernel
theorem c_70_16 : ax_code 70 16 = some (.iconst 0, 17) := by decide +kernel
theorem c_70_17 : ax_code 70 17 = some (.putfield 388, 20) := by decide +kernel
theorem c_70_20 : ax_code 70 20 = some (.aload 0, 21) := by decide +kernel
theorem c_70_21 : ax_code 70 21 = some (.iconst 0, 22) := by decide +kernel
theorem c_70_22 : ax_code 70 22 = some (.putfield 389, 25) := by decide +kernel
theorem c_70_25 : ax_code 70 25 = some (.aload 0, 26) := by decide +kernel
theorem c_70_26 : ax_code 70 26 = some (.getfield 386, 29) := by decide +kernel
theorem c_70_29 : ax_code 70 29 = some (.iconst 0, 30) := by decide +kernel
theorem c_70_30 : ax_code 70 30 = some (.invokestatic 2, 33) := by decide +kernel
theorem c_70_33 : ax_code 70 33 = some (.return_, 34) := by decide +kernel
theorem c_71_0 : ax_code 71 0 = some (.aload 1, 1) := by decide +kernel
theorem c_71_1 : ax_code 71 1 = some (.ldc 4, 3) := by decide +kernel
theorem c_71_3 : ax_code 71 3 = some (.invokevirtual 38, 6) := by decide +kernel
theorem c_71_6 : ax_code 71 6 = some (.ifCond .eq 18, 9) := by decide +kernel
theorem c_71_9 : ax_code 71 9 = some (.aload 0, 10) := by decide +kernel
theorem c_71_10 : ax_code 71 10 = some (.aload 1, 11) := by decide +kernel
theorem c_71_11 : ax_code 71 11 = some (.aload 2, 12) := by decide +kernel
theorem c_71_12 : ax_code 71 12 = some (.invokevirtual 72, 15) := by decide +kernel
theorem c_71_15 : ax_code 71 15 = some (.goto 57, 18) := by decide +kernel
theorem c_71_18 : ax_code 71 18 = some (.aload 1, 19) := by decide +kernel
theorem c_71_19 : ax_code 71 19 = some (.ldc 5, 21) := by decide +kernel
theorem c_71_21 : ax_code 71 21 = some (.invokevirtual 38, 24) := by decide +kernel
theorem c_71_24 : ax_code 71 24 = some (.ifCond .eq 35, 27) := by decide +kernel
theorem c_71_27 : ax_code 71 27 = some (.aload 0, 28) := by decide +kernel
theorem c_71_28 : ax_code 71 28 = some (.aload 1, 29) := by decide +kernel
theorem c_71_29 : ax_code 71 29 = some (.invokevirtual 76, 32) := by decide +kernel
theorem c_71_32 : ax_code 71 32 = some (.goto 57, 35) := by decide +kernel
theorem c_71_35 : ax_code 71 35 = some (.aload 1, 36) := by decide +kernel
theorem c_71_36 : ax_code 71 36 = some (.ldc 6, 38) := by decide +kernel
theorem c_71_38 : ax_code 71 38 = some (.invokevirtual 38, 41) := by decide +kernel
theorem c_71_41 : ax_code 71 41 = some (.ifCond .eq 52, 44) := by decide +kernel
theorem c_71_44 : ax_code 71 44 = some (.aload 0, 45) := by decide +kernel
theorem c_71_45 : ax_code 71 45 = some (.aload 1, 46) := by decide +kernel
theorem c_71_46 : ax_code 71 46 = some (.invokevirtual 77, 49) := by decide +kernel
theorem c_71_49 : ax_code 71 49 = some (.goto 57, 52) := by decide +kernel
theorem c_71_52 : ax_code 71 52 = some (.aload 1, 53) := by decide +kernel
theorem c_71_53 : ax_code 71 53 = some (.iconst 1, 54) := by decide +kernel
theorem c_71_54 : ax_code 71 54 = some (.invokevirtual 47, 57) := by decide +kernel
theorem c_71_57 : ax_code 71 57 = some (.return_, 58) := by decide +kernel
theorem c_72_0 : ax_code 72 0 = some (.aload 1, 1) := by decide +kernel
theorem c_72_1 : ax_code 72 1 = some (.ldc 4, 3) := by decide +kernel
theorem c_72_3 : ax_code 72 3 = some (.invokevirtual 48, 6) := by decide +kernel
theorem c_72_6 : ax_code 72 6 = some (.aload 1, 7) := by decide +kernel
theorem c_72_7 : ax_code 72 7 = some (.iconst 0, 8) := by decide +kernel
theorem c_72_8 : ax_code 72 8 = some (.iconst 7, 10) := by decide +kernel
theorem c_72_10 : ax_code 72 10 = some (.invokevirtual 51, 13) := by decide +kernel
theorem c_72_13 : ax_code 72 13 = some (.istore 3, 14) := by decide +kernel
theorem c_72_14 : ax_code 72 14 = some (.aload 0, 15) := by decide +kernel
theorem c_72_15 : ax_code 72 15 = some (.getfield 387, 18) := by decide +kernel
theorem c_72_18 : ax_code 72 18 = some (.iload 3, 19) := by decide +kernel
theorem c_72_19 : ax_code 72 19 = some (.ishr, 20) := by decide +kernel
theorem c_72_20 : ax_code 72 20 = some (.iconst 1, 21) := by decide +kernel
theorem c_72_21 : ax_code 72 21 = some (.iand, 22) := by decide +kernel
theorem c_72_22 : ax_code 72 22 = some (.ifCond .eq 30, 25) := by decide +kernel
theorem c_72_25 : ax_code 72 25 = some (.aload 1, 26) := by decide +kernel
theorem c_72_26 : ax_code 72 26 = some (.iconst 4, 27) := by decide +kernel
theorem c_72_27 : ax_code 72 27 = some (.invokevirtual 47, 30) := by decide +kernel
theorem c_72_30 : ax_code 72 30 = some (.aload 1, 31) := by decide +kernel
theorem c_72_31 : ax_code 72 31 = some (.iconst 0, 32) := by decide +kernel
theorem c_72_32 : ax_code 72 32 = some (.iconst 7, 34) := by decide +kernel
theorem c_72_34 : ax_code 72 34 = some (.invokevirtual 50, 37) := by decide +kernel
theorem c_72_37 : ax_code 72 37 = some (.pop, 38) := by decide +kernel
theorem c_72_38 : ax_code 72 38 = some (.aload 1, 39) := by decide +kernel
theorem c_72_39 : ax_code 72 39 = some (.iconst 1, 40) := by decide +kernel
theorem c_72_40 : ax_code 72 40 = some (.iconst 99, 42) := by decide +kernel
theorem c_72_42 : ax_code 72 42 = some (.invokevirtual 73, 45) := by decide +kernel
theorem c_72_45 : ax_code 72 45 = some (.istore 4, 47) := by decide +kernel
theorem c_72_47 : ax_code 72 47 = some (.aload 1, 48) := by decide +kernel
theorem c_72_48 : ax_code 72 48 = some (.iconst 0, 49) := by decide +kernel
theorem c_72_49 : ax_code 72 49 = some (.iconst 3, 50) := by decide +kernel
theorem c_72_50 : ax_code 72 50 = some (.invokevirtual 50, 53) := by decide +kernel
theorem c_72_53 : ax_code 72 53 = some (.istore 5, 55) := by decide +kernel
theorem c_72_55 : ax_code 72 55 = some (.aload 1, 56) := by decide +kernel
theorem c_72_56 : ax_code 72 56 = some (.invokevirtual 53, 59) := by decide +kernel
theorem c_72_59 : ax_code 72 59 = some (.aload 0, 60) := by decide +kernel
theorem c_72_60 : ax_code 72 60 = some (.dup, 61) := by decide +kernel
theorem c_72_61 : ax_code 72 61 = some (.getfield 387, 64) := by decide +kernel
theorem c_72_64 : ax_code 72 64 = some (.iconst 1, 65) := by decide +kernel
theorem c_72_65 : ax_code 72 65 = some (.iload 3, 66) := by decide +kernel
theorem c_72_66 : ax_code 72 66 = some (.ishl, 67) := by decide +kernel
theorem c_72_67 : ax_code 72 67 = some (.ior, 68) := by decide +kernel
theorem c_72_68 : ax_code 72 68 = some (.putfield 387, 71) := by decide +kernel
theorem c_72_71 : ax_code 72 71 = some (.iload 3, 72) := by decide +kernel
theorem c_72_72 : ax_code 72 72 = some (.invokestatic 74, 75) := by decide +kernel
theorem c_72_75 : ax_code 72 75 = some (.ifCond .eq 113, 78) := by decide +kernel
theorem c_72_78 : ax_code 72 78 = some (.aload 0, 79) := by decide +kernel
theorem c_72_79 : ax_code 72 79 = some (.getfield 386, 82) := by decide +kernel
theorem c_72_82 : ax_code 72 82 = some (.iload 3, 83) := by decide +kernel
theorem c_72_83 : ax_code 72 83 = some (.iload 4, 85) := by decide +kernel
theorem c_72_85 : ax_code 72 85 = some (.iconst (-1000000), 87) := by decide +kernel
theorem c_72_87 : ax_code 72 87 = some (.if_icmp .ne 95, 90) := by decide +kernel
theorem c_72_90 : ax_code 72 90 = some (.iconst (-1000000), 92) := by decide +kernel
theorem c_72_92 : ax_code 72 92 = some (.goto 112, 95) := by decide +kernel
theorem c_72_95 : ax_code 72 95 = some (.iload 4, 97) := by decide +kernel
theorem c_72_97 : ax_code 72 97 = some (.aload 2, 98) := by decide +kernel
theorem c_72_98 : ax_code 72 98 = some (.iload 5, 100) := by decide +kernel
theorem c_72_100 : ax_code 72 100 = some (.aload 0, 101) := by decide +kernel
theorem c_72_101 : ax_code 72 101 = some (.getfield 384, 104) := by decide +kernel
theorem c_72_104 : ax_code 72 104 = some (.aload 0, 105) := by decide +kernel
theorem c_72_105 : ax_code 72 105 = some (.getfield 385, 108) := by decide +kernel
theorem c_72_108 : ax_code 72 108 = some (.invokevirtual 75, 111) := by decide +kernel
theorem c_72_111 : ax_code 72 111 = some (.imul, 112) := by decide +kernel
theorem c_72_112 : ax_code 72 112 = some (.iastore, 113) := by decide +kernel
theorem c_72_113 : ax_code 72 113 = some (.return_, 114) := by decide +kernel
theorem c_73_0 : ax_code 73 0 = some (.aload 0, 1) := by decide +kernel
theorem c_73_1 : ax_code 73 1 = some (.iconst 63, 3) := by decide +kernel
theorem c_73_3 : ax_code 73 3 = some (.invokevirtual 54, 6) := by decide +kernel
theorem c_73_6 : ax_code 73 6 = some (.ifCond .eq 14, 9) := by decide +kernel
theorem c_73_9 : ax_code 73 9 = some (.iconst (-1000000), 11) := by decide +kernel
theorem c_73_11 : ax_code 73 11 = some (.goto 20, 14) := by decide +kernel
theorem c_73_14 : ax_code 73 14 = some (.aload 0, 15) := by decide +kernel
theorem c_73_15 : ax_code 73 15 = some (.iload 1, 16) := by decide +kernel
theorem c_73_16 : ax_code 73 16 = some (.iload 2, 17) := by decide +kernel
theorem c_73_17 : ax_code 73 17 = some (.invokevirtual 51, 20) := by decide +kernel
theorem c_73_20 : ax_code 73 20 = some (.istore 3, 21) := by decide +kernel
theorem c_73_21 : ax_code 73 21 = some (.aload 0, 22) := by decide +kernel
theorem c_73_22 : ax_code 73 22 = some (.getfield 580, 25) := by decide +kernel
theorem c_73_25 : ax_code 73 25 = some (.ifCond .ne 32, 28) := by decide +kernel
theorem c_73_28 : ax_code 73 28 = some (.aload 0, 29) := by decide +kernel
theorem c_73_29 : ax_code 73 29 = some (.invokevirtual 33, 32) := by decide +kernel
theorem c_73_32 : ax_code 73 32 = some (.iload 3, 33) := by decide +kernel
theorem c_73_33 : ax_code 73 33 = some (.ireturn, 34) := by decide +kernel
theorem c_74_0 : ax_code 74 0 = some (.iload 0, 1) := by decide +kernel
theorem c_74_1 : ax_code 74 1 = some (.ifCond .lt 14, 4) := by decide +kernel
theorem c_74_4 : ax_code 74 4 = some (.iload 0, 5) := by decide +kernel
theorem c_74_5 : ax_code 74 5 = some (.iconst 8, 7) := by decide +kernel
theorem c_74_7 : ax_code 74 7 = some (.if_icmp .ge 14, 10) := by decide +kernel
theorem c_74_10 : ax_code 74 10 = some (.iconst 1, 11) := by decide +kernel
theorem c_74_11 : ax_code 74 11 = some (.goto 15, 14) := by decide +kernel
theorem c_74_14 : ax_code 74 14 = some (.iconst 0, 15) := by decide +kernel
theorem c_74_15 : ax_code 74 15 = some (.ireturn, 16) := by decide +kernel
theorem c_75_0 : ax_code 75 0 = some (.iconst 0, 1) := by decide +kernel
theorem c_75_1 : ax_code 75 1 = some (.istore 4, 3) := by decide +kernel
theorem c_75_3 : ax_code 75 3 = some (.iconst 1, 4) := by decide +kernel
theorem c_75_4 : ax_code 75 4 = some (.istore 5, 6) := by decide +kernel
theorem c_75_6 : ax_code 75 6 = some (.iconst 0, 7) := by decide +kernel
theorem c_75_7 : ax_code 75 7 = some (.istore 6, 9) := by decide +kernel
theorem c_75_9 : ax_code 75 9 = some (.iload 6, 11) := by decide +kernel
theorem c_75_11 : ax_code 75 11 = some (.aload 0, 12) := by decide +kernel
theorem c_75_12 : ax_code 75 12 = some (.getfield 321, 15) := by decide +kernel
theorem c_75_15 : ax_code 75 15 = some (.if_icmp .ge 106, 18) := by decide +kernel
theorem c_75_18 : ax_code 75 18 = some (.iload 6, 20) := by decide +kernel
theorem c_75_20 : ax_code 75 20 = some (.iconst 16, 22) := by decide +kernel
theorem c_75_22 : ax_code 75 22 = some (.if_icmp .ge 106, 25) := by decide +kernel
theorem c_75_25 : ax_code 75 25 = some (.aload 0, 26) := by decide +kernel
theorem c_75_26 : ax_code 75 26 = some (.getfield 322, 29) := by decide +kernel
theorem c_75_29 : ax_code 75 29 = some (.iload 6, 31) := by decide +kernel
theorem c_75_31 : ax_code 75 31 = some (.iaload, 32) := by decide +kernel
theorem c_75_32 : ax_code 75 32 = some (.iload 1, 33) := by decide +kernel
theorem c_75_33 : ax_code 75 33 = some (.if_icmp .ne 62, 36) := by decide +kernel
theorem c_75_36 : ax_code 75 36 = some (.aload 0, 37) := by decide +kernel
theorem c_75_37 : ax_code 75 37 = some (.getfield 323, 40) := by decide +kernel
theorem c_75_40 : ax_code 75 40 = some (.iload 6, 42) := by decide +kernel
theorem c_75_42 : ax_code 75 42 = some (.iaload, 43) := by decide +kernel
theorem c_75_43 : ax_code 75 43 = some (.iload 2, 44) := by decide +kernel
theorem c_75_44 : ax_code 75 44 = some (.if_icmp .ne 62, 47) := by decide +kernel
theorem c_75_47 : ax_code 75 47 = some (.aload 0, 48) := by decide +kernel
theorem c_75_48 : ax_code 75 48 = some (.getfield 324, 51) := by decide +kernel
theorem c_75_51 : ax_code 75 51 = some (.iload 6, 53) := by decide +kernel
theorem c_75_53 : ax_code 75 53 = some (.iaload, 54) := by decide +kernel
theorem c_75_54 : ax_code 75 54 = some (.iload 3, 55) := by decide +kernel
theorem c_75_55 : ax_code 75 55 = some (.if_icmp .gt 62, 58) := by decide +kernel
theorem c_75_58 : ax_code 75 58 = some (.iconst 1, 59) := by decide +kernel
theorem c_75_59 : ax_code 75 59 = some (.goto 63, 62) := by decide +kernel
theorem c_75_62 : ax_code 75 62 = some (.iconst 0, 63) := by decide +kernel
theorem c_75_63 : ax_code 75 63 = some (.istore 7, 65) := by decide +kernel
theorem c_75_65 : ax_code 75 65 = some (.iload 7, 67) := by decide +kernel
theorem c_75_67 : ax_code 75 67 = some (.ifCond .eq 100, 70) := by decide +kernel
theorem c_75_70 : ax_code 75 70 = some (.aload 0, 71) := by decide +kernel
theorem c_75_71 : ax_code 75 71 = some (.getfield 324, 74) := by decide +kernel
theorem c_75_74 : ax_code 75 74 = some (.iload 6, 76) := by decide +kernel
theorem c_75_76 : ax_code 75 76 = some (.iaload, 77) := by decide +kernel
theorem c_75_77 : ax_code 75 77 = some (.iload 4, 79) := by decide +kernel
theorem c_75_79 : ax_code 75 79 = some (.if_icmp .lt 100, 82) := by decide +kernel
theorem c_75_82 : ax_code 75 82 = some (.aload 0, 83) := by decide +kernel
theorem c_75_83 : ax_code 75 83 = some (.getfield 324, 86) := by decide +kernel
theorem c_75_86 : ax_code 75 86 = some (.iload 6, 88) := by decide +kernel
theorem c_75_88 : ax_code 75 88 = some (.iaload, 89) := by decide +kernel
theorem c_75_89 : ax_code 75 89 = some (.istore 4, 91) := by decide +kernel
theorem c_75_91 : ax_code 75 91 = some (.aload 0, 92) := by decide +kernel
theorem c_75_92 : ax_code 75 92 = some (.getfield 325, 95) := by decide +kernel
theorem c_75_95 : ax_code 75 95 = some (.iload 6, 97) := by decide +kernel
theorem c_75_97 : ax_code 75 97 = some (.iaload, 98) := by decide +kernel
theorem c_75_98 : ax_code 75 98 = some (.istore 5, 100) := by decide +kernel
theorem c_75_100 : ax_code 75 100 = some (.iinc 6 (1), 103) := by decide +kernel
theorem c_75_103 : ax_code 75 103 = some (.goto 9, 106) := by decide +kernel
theorem c_75_106 : ax_code 75 106 = some (.iload 5, 108) := by decide +kernel
theorem c_75_108 : ax_code 75 108 = some (.ireturn, 109) := by decide +kernel
theorem c_76_0 : ax_code 76 0 = some (.aload 0, 1) := by decide +kernel
theorem c_76_1 : ax_code 76 1 = some (.getfield 388, 4) := by decide +kernel
theorem c_76_4 : ax_code 76 4 = some (.ifCond .eq 12, 7) := by decide +kernel
theorem c_76_7 : ax_code 76 7 = some (.aload 1, 8) := by decide +kernel
theorem c_76_8 : ax_code 76 8 = some (.iconst 4, 9) := by decide +kernel
theorem c_76_9 : ax_code 76 9 = some (.invokevirtual 47, 12) := by decide +kernel
theorem c_76_12 : ax_code 76 12 = some (.aload 0, 13) := by decide +kernel
theorem c_76_13 : ax_code 76 13 = some (.iconst 1, 14) := by decide +kernel
theorem c_76_14 : ax_code 76 14 = some (.putfield 388, 17) := by decide +kernel
theorem c_76_17 : ax_code 76 17 = some (.aload 1, 18) := by decide +kernel
theorem c_76_18 : ax_code 76 18 = some (.ldc 5, 20) := by decide +kernel
theorem c_76_20 : ax_code 76 20 = some (.invokevirtual 48, 23) := by decide +kernel
theorem c_76_23 : ax_code 76 23 = some (.aload 0, 24) := by decide +kernel
theorem c_76_24 : ax_code 76 24 = some (.getfield 386, 27) := by decide +kernel
theorem c_76_27 : ax_code 76 27 = some (.iconst 8, 29) := by decide +kernel
theorem c_76_29 : ax_code 76 29 = some (.aload 1, 30) := by decide +kernel
theorem c_76_30 : ax_code 76 30 = some (.iconst 0, 31) := by decide +kernel
theorem c_76_31 : ax_code 76 31 = some (.iconst 9, 33) := by decide +kernel
theorem c_76_33 : ax_code 76 33 = some (.invokevirtual 73, 36) := by decide +kernel
theorem c_76_36 : ax_code 76 36 = some (.iastore, 37) := by decide +kernel
theorem c_76_37 : ax_code 76 37 = some (.aload 0, 38) := by decide +kernel
theorem c_76_38 : ax_code 76 38 = some (.getfield 386, 41) := by decide +kernel
theorem c_76_41 : ax_code 76 41 = some (.iconst 9, 43) := by decide +kernel
theorem c_76_43 : ax_code 76 43 = some (.aload 1, 44) := by decide +kernel
theorem c_76_44 : ax_code 76 44 = some (.iconst 1, 45) := by decide +kernel
theorem c_76_45 : ax_code 76 45 = some (.iconst 99, 47) := by decide +kernel
theorem c_76_47 : ax_code 76 47 = some (.invokevirtual 73, 50) := by decide +kernel
theorem c_76_50 : ax_code 76 50 = some (.iastore, 51) := by decide +kernel
theorem c_76_51 : ax_code 76 51 = some (.aload 1, 52) := by decide +kernel
theorem c_76_52 : ax_code 76 52 = some (.invokevirtual 53, 55) := by decide +kernel
theorem c_76_55 : ax_code 76 55 = some (.return_, 56) := by decide +kernel
theorem c_77_0 : ax_code 77 0 = some (.aload 0, 1) := by decide +kernel
theorem c_77_1 : ax_code 77 1 = some (.getfield 389, 4) := by decide +kernel
theorem c_77_4 : ax_code 77 4 = some (.ifCond .eq 12, 7) := by decide +kernel
theorem c_77_7 : ax_code 77 7 = some (.aload 1, 8) := by decide +kernel
theorem c_77_8 : ax_code 77 8 = some (.iconst 4, 9) := by decide +kernel
theorem c_77_9 : ax_code 77 9 = some (.invokevirtual 47, 12) := by decide +kernel
theorem c_77_12 : ax_code 77 12 = some (.aload 0, 13) := by decide +kernel
theorem c_77_13 : ax_code 77 13 = some (.iconst 1, 14) := by decide +kernel
theorem c_77_14 : ax_code 77 14 = some (.putfield 389, 17) := by decide +kernel
theorem c_77_17 : ax_code 77 17 = some (.aload 1, 18) := by decide +kernel
theorem c_77_18 : ax_code 77 18 = some (.ldc 6, 20) := by decide +kernel
theorem c_77_20 : ax_code 77 20 = some (.invokevirtual 48, 23) := by decide +kernel
theorem c_77_23 : ax_code 77 23 = some (.aload 0, 24) := by decide +kernel
theorem c_77_24 : ax_code 77 24 = some (.getfield 386, 27) := by decide +kernel
theorem c_77_27 : ax_code 77 27 = some (.iconst 10, 29) := by decide +kernel
theorem c_77_29 : ax_code 77 29 = some (.aload 1, 30) := by decide +kernel
theorem c_77_30 : ax_code 77 30 = some (.iconst 1, 31) := by decide +kernel
theorem c_77_31 : ax_code 77 31 = some (.iconst 99, 33) := by decide +kernel
theorem c_77_33 : ax_code 77 33 = some (.invokevirtual 73, 36) := by decide +kernel
theorem c_77_36 : ax_code 77 36 = some (.iastore, 37) := by decide +kernel
theorem c_77_37 : ax_code 77 37 = some (.aload 1, 38) := by decide +kernel
theorem c_77_38 : ax_code 77 38 = some (.invokevirtual 53, 41) := by decide +kernel
theorem c_77_41 : ax_code 77 41 = some (.return_, 42) := by decide +kernel
theorem c_78_0 : ax_code 78 0 = some (.aload 0, 1) := by decide +kernel
theorem c_78_1 : ax_code 78 1 = some (.invokevirtual 68, 4) := by decide +kernel
theorem c_78_4 : ax_code 78 4 = some (.ifCond .eq 10, 7) := by decide +kernel
theorem c_78_7 : ax_code 78 7 = some (.iconst (-1000000), 9) := by decide +kernel
theorem c_78_9 : ax_code 78 9 = some (.ireturn, 10) := by decide +kernel
theorem c_78_10 : ax_code 78 10 = some (.aload 0, 11) := by decide +kernel
theorem c_78_11 : ax_code 78 11 = some (.getfield 64, 14) := by decide +kernel
theorem c_78_14 : ax_code 78 14 = some (.istore 3, 15) := by decide +kernel
theorem c_78_15 : ax_code 78 15 = some (.aload 0, 16) := by decide +kernel
theorem c_78_16 : ax_code 78 16 = some (.dup, 17) := by decide +kernel
theorem c_78_17 : ax_code 78 17 = some (.getfield 64, 20) := by decide +kernel
theorem c_78_20 : ax_code 78 20 = some (.iconst 1, 21) := by decide +kernel
theorem c_78_21 : ax_code 78 21 = some (.iadd, 22) := by decide +kernel
theorem c_78_22 : ax_code 78 22 = some (.putfield 64, 25) := by decide +kernel
theorem c_78_25 : ax_code 78 25 = some (.aload 0, 26) := by decide +kernel
theorem c_78_26 : ax_code 78 26 = some (.getfield 65, 29) := by decide +kernel
theorem c_78_29 : ax_code 78 29 = some (.iload 3, 30) := by decide +kernel
theorem c_78_30 : ax_code 78 30 = some (.aload 1, 31) := by decide +kernel
theorem c_78_31 : ax_code 78 31 = some (.invokevirtual 79, 34) := by decide +kernel
theorem c_78_34 : ax_code 78 34 = some (.iastore, 35) := by decide +kernel
theorem c_78_35 : ax_code 78 35 = some (.aload 0, 36) := by decide +kernel
theorem c_78_36 : ax_code 78 36 = some (.getfield 66, 39) := by decide +kernel
theorem c_78_39 : ax_code 78 39 = some (.iload 3, 40) := by decide +kernel
theorem c_78_40 : ax_code 78 40 = some (.aload 1, 41) := by decide +kernel
theorem c_78_41 : ax_code 78 41 = some (.invokevirtual 80, 44) := by decide +kernel
theorem c_78_44 : ax_code 78 44 = some (.iastore, 45) := by decide +kernel
theorem c_78_45 : ax_code 78 45 = some (.aload 0, 46) := by decide +kernel
theorem c_78_46 : ax_code 78 46 = some (.getfield 67, 49) := by decide +kernel
theorem c_78_49 : ax_code 78 49 = some (.iload 3, 50) := by decide +kernel
theorem c_78_50 : ax_code 78 50 = some (.iload 2, 51) := by decide +kernel
theorem c_78_51 : ax_code 78 51 = some (.iastore, 52) := by decide +kernel
theorem c_78_52 : ax_code 78 52 = some (.iconst 0, 53) := by decide +kernel
theorem c_78_53 : ax_code 78 53 = some (.istore 4, 55) := by decide +kernel
theorem c_78_55 : ax_code 78 55 = some (.iload 4, 57) := by decide +kernel
theorem c_78_57 : ax_code 78 57 = some (.iconst 11, 59) := by decide +kernel
theorem c_78_59 : ax_code 78 59 = some (.if_icmp .ge 81, 62) := by decide +kernel
theorem c_78_62 : ax_code 78 62 = some (.aload 0, 63) := by decide +kernel
theorem c_78_63 : ax_code 78 63 = some (.iload 3, 64) := by decide +kernel
theorem c_78_64 : ax_code 78 64 = some (.iload 4, 66) := by decide +kernel
theorem c_78_66 : ax_code 78 66 = some (.aload 1, 67) := by decide +kernel
theorem c_78_67 : ax_code 78 67 = some (.iload 4, 69) := by decide +kernel
theorem c_78_69 : ax_code 78 69 = some (.invokevirtual 81, 72) := by decide +kernel
theorem c_78_72 : ax_code 78 72 = some (.invokevirtual 83, 75) := by decide +kernel
theorem c_78_75 : ax_code 78 75 = some (.iinc 4 (1), 78) := by decide +kernel
theorem c_78_78 : ax_code 78 78 = some (.goto 55, 81) := by decide +kernel
theorem c_78_81 : ax_code 78 81 = some (.iload 3, 82) := by decide +kernel
theorem c_78_82 : ax_code 78 82 = some (.ireturn, 83) := by decide +kernel
