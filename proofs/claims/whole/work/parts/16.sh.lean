/-! the cells one by one; the methods one by one -/
theorem sh_0 : ax_Sh[0]? = some (.inr (10, [4, 8, 10, 25, 40, 55, 64, 66, 69, 83, 0])) := by decide +kernel
theorem sh_1 : ax_Sh[1]? = some (.inr (7, [5, 6, 7])) := by decide +kernel
theorem sh_2 : ax_Sh[2]? = some (.inl (0, 8)) := by decide +kernel
theorem sh_3 : ax_Sh[3]? = some (.inl (0, 8)) := by decide +kernel
theorem sh_4 : ax_Sh[4]? = some (.inl (0, 320)) := by decide +kernel
theorem sh_5 : ax_Sh[5]? = some (.inr (9, [9, 0, 0, 0, 1, 0, 0, 0])) := by decide +kernel
theorem sh_6 : ax_Sh[6]? = some (.inl (1, 500)) := by decide +kernel
theorem sh_7 : ax_Sh[7]? = some (.inr (4, [11, 20])) := by decide +kernel
theorem sh_8 : ax_Sh[8]? = some (.inr (5, [1, 0, 12, 13, 14, 15, 0, 16, 17, 18, 19, 0, 0, 0, 0])) := by decide +kernel
theorem sh_9 : ax_Sh[9]? = some (.inl (0, 16)) := by decide +kernel
theorem sh_10 : ax_Sh[10]? = some (.inl (0, 16)) := by decide +kernel
theorem sh_11 : ax_Sh[11]? = some (.inl (0, 16)) := by decide +kernel
theorem sh_12 : ax_Sh[12]? = some (.inl (0, 16)) := by decide +kernel
theorem sh_13 : ax_Sh[13]? = some (.inl (0, 8)) := by decide +kernel
theorem sh_14 : ax_Sh[14]? = some (.inl (0, 8)) := by decide +kernel
theorem sh_15 : ax_Sh[15]? = some (.inl (0, 8)) := by decide +kernel
theorem sh_16 : ax_Sh[16]? = some (.inl (0, 8)) := by decide +kernel
theorem sh_17 : ax_Sh[17]? = some (.inr (1, [0, 21, 22, 23, 24])) := by decide +kernel
theorem sh_18 : ax_Sh[18]? = some (.inl (0, 12)) := by decide +kernel
theorem sh_19 : ax_Sh[19]? = some (.inl (0, 12)) := by decide +kernel
theorem sh_20 : ax_Sh[20]? = some (.inl (0, 12)) := by decide +kernel
theorem sh_21 : ax_Sh[21]? = some (.inl (0, 132)) := by decide +kernel
theorem sh_22 : ax_Sh[22]? = some (.inr (4, [26, 35])) := by decide +kernel
theorem sh_23 : ax_Sh[23]? = some (.inr (5, [1, 0, 27, 28, 29, 30, 0, 31, 32, 33, 34, 0, 0, 0, 0])) := by decide +kernel
theorem sh_24 : ax_Sh[24]? = some (.inl (0, 16)) := by decide +kernel
theorem sh_25 : ax_Sh[25]? = some (.inl (0, 16)) := by decide +kernel
theorem sh_26 : ax_Sh[26]? = some (.inl (0, 16)) := by decide +kernel
theorem sh_27 : ax_Sh[27]? = some (.inl (0, 16)) := by decide +kernel
theorem sh_28 : ax_Sh[28]? = some (.inl (0, 8)) := by decide +kernel
theorem sh_29 : ax_Sh[29]? = some (.inl (0, 8)) := by decide +kernel
theorem sh_30 : ax_Sh[30]? = some (.inl (0, 8)) := by decide +kernel
theorem sh_31 : ax_Sh[31]? = some (.inl (0, 8)) := by decide +kernel
theorem sh_32 : ax_Sh[32]? = some (.inr (1, [0, 36, 37, 38, 39])) := by decide +kernel
theorem sh_33 : ax_Sh[33]? = some (.inl (0, 12)) := by decide +kernel
theorem sh_34 : ax_Sh[34]? = some (.inl (0, 12)) := by decide +kernel
theorem sh_35 : ax_Sh[35]? = some (.inl (0, 12)) := by decide +kernel
theorem sh_36 : ax_Sh[36]? = some (.inl (0, 132)) := by decide +kernel
theorem sh_37 : ax_Sh[37]? = some (.inr (4, [41, 50])) := by decide +kernel
theorem sh_38 : ax_Sh[38]? = some (.inr (5, [1, 0, 42, 43, 44, 45, 0, 46, 47, 48, 49, 0, 0, 0, 0])) := by decide +kernel
theorem sh_39 : ax_Sh[39]? = some (.inl (0, 16)) := by decide +kernel
theorem sh_40 : ax_Sh[40]? = some (.inl (0, 16)) := by decide +kernel
theorem sh_41 : ax_Sh[41]? = some (.inl (0, 16)) := by decide +kernel
theorem sh_42 : ax_Sh[42]? = some (.inl (0, 16)) := by decide +kernel
theorem sh_43 : ax_Sh[43]? = some (.inl (0, 8)) := by decide +kernel
theorem sh_44 : ax_Sh[44]? = some (.inl (0, 8)) := by decide +kernel
theorem sh_45 : ax_Sh[45]? = some (.inl (0, 8)) := by decide +kernel
theorem sh_46 : ax_Sh[46]? = some (.inl (0, 8)) := by decide +kernel
theorem sh_47 : ax_Sh[47]? = some (.inr (1, [0, 51, 52, 53, 54])) := by decide +kernel
theorem sh_48 : ax_Sh[48]? = some (.inl (0, 12)) := by decide +kernel
theorem sh_49 : ax_Sh[49]? = some (.inl (0, 12)) := by decide +kernel
theorem sh_50 : ax_Sh[50]? = some (.inl (0, 12)) := by decide +kernel
theorem sh_51 : ax_Sh[51]? = some (.inl (0, 132)) := by decide +kernel
theorem sh_52 : ax_Sh[52]? = some (.inr (5, [1, 0, 56, 57, 58, 59, 0, 60, 61, 62, 63, 0, 0, 0, 0])) := by decide +kernel
theorem sh_53 : ax_Sh[53]? = some (.inl (0, 16)) := by decide +kernel
theorem sh_54 : ax_Sh[54]? = some (.inl (0, 16)) := by decide +kernel
theorem sh_55 : ax_Sh[55]? = some (.inl (0, 16)) := by decide +kernel
theorem sh_56 : ax_Sh[56]? = some (.inl (0, 16)) := by decide +kernel
theorem sh_57 : ax_Sh[57]? = some (.inl (0, 8)) := by decide +kernel
theorem sh_58 : ax_Sh[58]? = some (.inl (0, 8)) := by decide +kernel
theorem sh_59 : ax_Sh[59]? = some (.inl (0, 8)) := by decide +kernel
theorem sh_60 : ax_Sh[60]? = some (.inl (0, 8)) := by decide +kernel
theorem sh_61 : ax_Sh[61]? = some (.inr (6, [0, 0, 65, 0, 1, 1])) := by decide +kernel
theorem sh_62 : ax_Sh[62]? = some (.inl (0, 11)) := by decide +kernel
theorem sh_63 : ax_Sh[63]? = some (.inr (8, [67, 68, 0, 0, 0])) := by decide +kernel
theorem sh_64 : ax_Sh[64]? = some (.inl (0, 12)) := by decide +kernel
theorem sh_65 : ax_Sh[65]? = some (.inl (0, 4096)) := by decide +kernel
theorem sh_66 : ax_Sh[66]? = some (.inr (2, [70, 0, 75, 76, 77, 78, 79, 80, 0, 81, 0, 0, 0, 0, 0, 2, 82])) := by decide +kernel
theorem sh_67 : ax_Sh[67]? = some (.inr (3, [0, 71, 72, 73, 74])) := by decide +kernel
theorem sh_68 : ax_Sh[68]? = some (.inl (0, 6)) := by decide +kernel
theorem sh_69 : ax_Sh[69]? = some (.inl (0, 66)) := by decide +kernel
theorem sh_70 : ax_Sh[70]? = some (.inl (0, 11)) := by decide +kernel
theorem sh_71 : ax_Sh[71]? = some (.inl (0, 66)) := by decide +kernel
theorem sh_72 : ax_Sh[72]? = some (.inl (0, 121)) := by decide +kernel
theorem sh_73 : ax_Sh[73]? = some (.inl (0, 11)) := by decide +kernel
theorem sh_74 : ax_Sh[74]? = some (.inl (0, 11)) := by decide +kernel
theorem sh_75 : ax_Sh[75]? = some (.inl (0, 11)) := by decide +kernel
theorem sh_76 : ax_Sh[76]? = some (.inl (0, 11)) := by decide +kernel
theorem sh_77 : ax_Sh[77]? = some (.inl (0, 6)) := by decide +kernel
theorem sh_78 : ax_Sh[78]? = some (.inl (0, 11)) := by decide +kernel
theorem sh_79 : ax_Sh[79]? = some (.inl (0, 11)) := by decide +kernel
theorem sh_80 : ax_Sh[80]? = some (.inr (0, [84, 0, 0, 0, 0, 0, 0, 0])) := by decide +kernel
theorem sh_81 : ax_Sh[81]? = some (.inl (0, 16)) := by decide +kernel
theorem sh_82 : ax_Sh[82]? = some (.inr (11, [0, 0, 86, 87, 88, 89, 90, 1, 91, 92, 0, 0, 0, 0, 0, 0, 0, 0, 0, 93, 0, 0, 0, 0, 94, 0, 95, 96, 97, 0, 98, 99, 100, 0, 0, 0, 101, 102, 103, 104, 105, 106, 107, 0])) := by decide +kernel
theorem sh_83 : ax_Sh[83]? = some (.inl (0, 8)) := by decide +kernel
theorem sh_84 : ax_Sh[84]? = some (.inl (0, 8)) := by decide +kernel
theorem sh_85 : ax_Sh[85]? = some (.inl (0, 320)) := by decide +kernel
theorem sh_86 : ax_Sh[86]? = some (.inl (0, 102)) := by decide +kernel
theorem sh_87 : ax_Sh[87]? = some (.inl (0, 102)) := by decide +kernel
theorem sh_88 : ax_Sh[88]? = some (.inl (0, 181)) := by decide +kernel
theorem sh_89 : ax_Sh[89]? = some (.inl (0, 500)) := by decide +kernel
theorem sh_90 : ax_Sh[90]? = some (.inl (0, 15)) := by decide +kernel
theorem sh_91 : ax_Sh[91]? = some (.inl (0, 6)) := by decide +kernel
theorem sh_92 : ax_Sh[92]? = some (.inl (0, 11)) := by decide +kernel
theorem sh_93 : ax_Sh[93]? = some (.inl (0, 11)) := by decide +kernel
theorem sh_94 : ax_Sh[94]? = some (.inl (0, 11)) := by decide +kernel
theorem sh_95 : ax_Sh[95]? = some (.inl (0, 11)) := by decide +kernel
theorem sh_96 : ax_Sh[96]? = some (.inl (0, 11)) := by decide +kernel
theorem sh_97 : ax_Sh[97]? = some (.inl (0, 6)) := by decide +kernel
theorem sh_98 : ax_Sh[98]? = some (.inl (2, 945)) := by decide +kernel
theorem sh_99 : ax_Sh[99]? = some (.inl (2, 4096)) := by decide +kernel
theorem sh_100 : ax_Sh[100]? = some (.inl (0, 12)) := by decide +kernel
theorem sh_101 : ax_Sh[101]? = some (.inl (2, 2)) := by decide +kernel
theorem sh_102 : ax_Sh[102]? = some (.inl (0, 204)) := by decide +kernel
theorem sh_103 : ax_Sh[103]? = some (.inl (0, 362)) := by decide +kernel
theorem sh_104 : ax_Sh[104]? = some (.inl (0, 16)) := by decide +kernel
def ax_rk (rt : Option FieldType) : Nat := match rt with
  | none => 0
  | some .int => 1
  | some .boolean => 2
  | some .byte => 3
  | some .char => 4
  | some .long => 5
  | _ => 6
def ax_rt (k : Nat) : Option FieldType := match k with
  | 0 => none
  | 1 => some .int
  | 2 => some .boolean
  | 3 => some .byte
  | 4 => some .char
  | _ => some .long
theorem ax_rk_rt {rt : Option FieldType} {k : Nat} (h : ax_rk rt = k) (hk : k < 6) : rt = ax_rt k := by
  subst h
  unfold ax_rk at hk ⊢
  split at hk <;> first | rfl | (simp at hk)
def ax_mj (M : Nat) : Option (Nat × Nat × Bool × Bool × Nat × Nat) := (ax_mi M).map fun q => (q.1, q.2.1, q.2.2.1, q.2.2.2.1, ax_rk q.2.2.2.2.1, q.2.2.2.2.2)
theorem ax_mj_of {M np oc k mx : Nat} {s i : Bool} (h : ax_mj M = some (np, oc, s, i, k, mx)) (hk : k < 6) : ax_mi M = some (np, oc, s, i, ax_rt k, mx) := by
  obtain ⟨q, hq, e⟩ := Option.map_eq_some_iff.mp h
  obtain ⟨a, b, c, d, f, z⟩ := q
  cases e
  rw [hq, ← ax_rk_rt rfl hk]
theorem mi_0 : ax_mi 0 = some (0, 10, false, true, none, 1) := ax_mj_of (k := 0) (by decide +kernel) (by decide)
theorem mi_1 : ax_mi 1 = some (0, 7, false, true, none, 1) := ax_mj_of (k := 0) (by decide +kernel) (by decide)
theorem mi_2 : ax_mi 2 = some (2, 14, true, false, none, 4) := ax_mj_of (k := 0) (by decide +kernel) (by decide)
theorem mi_3 : ax_mi 3 = some (0, 9, false, true, none, 1) := ax_mj_of (k := 0) (by decide +kernel) (by decide)
theorem mi_4 : ax_mi 4 = some (0, 4, false, true, none, 1) := ax_mj_of (k := 0) (by decide +kernel) (by decide)
theorem mi_5 : ax_mi 5 = some (0, 5, false, true, none, 1) := ax_mj_of (k := 0) (by decide +kernel) (by decide)
theorem mi_6 : ax_mi 6 = some (0, 1, false, true, none, 1) := ax_mj_of (k := 0) (by decide +kernel) (by decide)
theorem mi_7 : ax_mi 7 = some (0, 6, false, true, none, 1) := ax_mj_of (k := 0) (by decide +kernel) (by decide)
theorem mi_8 : ax_mi 8 = some (0, 8, false, true, none, 1) := ax_mj_of (k := 0) (by decide +kernel) (by decide)
theorem mi_9 : ax_mi 9 = some (0, 2, false, true, none, 1) := ax_mj_of (k := 0) (by decide +kernel) (by decide)
theorem mi_10 : ax_mi 10 = some (0, 3, false, true, none, 1) := ax_mj_of (k := 0) (by decide +kernel) (by decide)
theorem mi_11 : ax_mi 11 = some (0, 0, false, true, none, 1) := ax_mj_of (k := 0) (by decide +kernel) (by decide)
theorem mi_12 : ax_mi 12 = some (3, 10, false, false, some .long, 4) := ax_mj_of (k := 5) (by decide +kernel) (by decide)
theorem mi_13 : ax_mi 13 = some (1, 10, true, false, some .boolean, 1) := ax_mj_of (k := 2) (by decide +kernel) (by decide)
theorem mi_14 : ax_mi 14 = some (1, 10, false, false, some .long, 2) := ax_mj_of (k := 5) (by decide +kernel) (by decide)
theorem mi_15 : ax_mi 15 = some (3, 7, false, false, none, 5) := ax_mj_of (k := 0) (by decide +kernel) (by decide)
theorem mi_16 : ax_mi 16 = some (1, 10, false, false, some .long, 3) := ax_mj_of (k := 5) (by decide +kernel) (by decide)
theorem mi_17 : ax_mi 17 = some (3, 10, false, false, some .long, 4) := ax_mj_of (k := 5) (by decide +kernel) (by decide)
theorem mi_18 : ax_mi 18 = some (1, 7, false, false, some .boolean, 2) := ax_mj_of (k := 2) (by decide +kernel) (by decide)
theorem mi_19 : ax_mi 19 = some (1, 7, false, false, some .int, 2) := ax_mj_of (k := 1) (by decide +kernel) (by decide)
theorem mi_20 : ax_mi 20 = some (3, 7, false, false, some .boolean, 4) := ax_mj_of (k := 2) (by decide +kernel) (by decide)
theorem mi_21 : ax_mi 21 = some (3, 7, false, false, some .int, 6) := ax_mj_of (k := 1) (by decide +kernel) (by decide)
theorem mi_22 : ax_mi 22 = some (5, 10, false, false, some .long, 6) := ax_mj_of (k := 5) (by decide +kernel) (by decide)
theorem mi_23 : ax_mi 23 = some (1, 7, false, false, some .int, 2) := ax_mj_of (k := 1) (by decide +kernel) (by decide)
theorem mi_24 : ax_mi 24 = some (5, 7, false, false, none, 6) := ax_mj_of (k := 0) (by decide +kernel) (by decide)
theorem mi_25 : ax_mi 25 = some (1, 10, false, false, some .long, 2) := ax_mj_of (k := 5) (by decide +kernel) (by decide)
theorem mi_26 : ax_mi 26 = some (1, 7, false, false, some .int, 3) := ax_mj_of (k := 1) (by decide +kernel) (by decide)
theorem mi_27 : ax_mi 27 = some (2, 10, false, false, some .long, 4) := ax_mj_of (k := 5) (by decide +kernel) (by decide)
theorem mi_28 : ax_mi 28 = some (1, 9, false, false, some .boolean, 2) := ax_mj_of (k := 2) (by decide +kernel) (by decide)
theorem mi_29 : ax_mi 29 = some (2, 9, false, false, some .int, 5) := ax_mj_of (k := 1) (by decide +kernel) (by decide)
theorem mi_30 : ax_mi 30 = some (0, 10, false, false, some .long, 2) := ax_mj_of (k := 5) (by decide +kernel) (by decide)
theorem mi_31 : ax_mi 31 = some (1, 5, false, false, some .boolean, 3) := ax_mj_of (k := 2) (by decide +kernel) (by decide)
theorem mi_32 : ax_mi 32 = some (0, 9, false, false, none, 1) := ax_mj_of (k := 0) (by decide +kernel) (by decide)
theorem mi_33 : ax_mi 33 = some (0, 9, false, false, none, 2) := ax_mj_of (k := 0) (by decide +kernel) (by decide)
theorem mi_34 : ax_mi 34 = some (1, 9, false, false, some .int, 2) := ax_mj_of (k := 1) (by decide +kernel) (by decide)
theorem mi_35 : ax_mi 35 = some (1, 9, true, false, some .boolean, 1) := ax_mj_of (k := 2) (by decide +kernel) (by decide)
theorem mi_36 : ax_mi 36 = some (1, 9, true, false, some .boolean, 1) := ax_mj_of (k := 2) (by decide +kernel) (by decide)
theorem mi_37 : ax_mi 37 = some (1, 9, true, false, some .boolean, 1) := ax_mj_of (k := 2) (by decide +kernel) (by decide)
theorem mi_38 : ax_mi 38 = some (1, 9, false, false, some .boolean, 3) := ax_mj_of (k := 2) (by decide +kernel) (by decide)
theorem mi_39 : ax_mi 39 = some (0, 15, false, false, some .int, 1) := ax_mj_of (k := 1) (by decide +kernel) (by decide)
theorem mi_40 : ax_mi 40 = some (0, 15, false, false, some .byte, 1) := ax_mj_of (k := 3) (by decide +kernel) (by decide)
theorem mi_41 : ax_mi 41 = some (1, 15, false, false, some .char, 2) := ax_mj_of (k := 4) (by decide +kernel) (by decide)
theorem mi_42 : ax_mi 42 = some (0, 15, false, false, some .boolean, 1) := ax_mj_of (k := 2) (by decide +kernel) (by decide)
theorem mi_43 : ax_mi 43 = some (2, 16, true, false, some .char, 2) := ax_mj_of (k := 4) (by decide +kernel) (by decide)
theorem mi_44 : ax_mi 44 = some (2, 15, true, false, none, 2) := ax_mj_of (k := 0) (by decide +kernel) (by decide)
theorem mi_45 : ax_mi 45 = some (3, 17, true, false, some .int, 3) := ax_mj_of (k := 1) (by decide +kernel) (by decide)
theorem mi_46 : ax_mi 46 = some (1, 5, false, false, none, 2) := ax_mj_of (k := 0) (by decide +kernel) (by decide)
theorem mi_47 : ax_mi 47 = some (1, 9, false, false, none, 2) := ax_mj_of (k := 0) (by decide +kernel) (by decide)
theorem mi_48 : ax_mi 48 = some (1, 9, false, false, none, 2) := ax_mj_of (k := 0) (by decide +kernel) (by decide)
theorem mi_49 : ax_mi 49 = some (1, 9, false, false, none, 2) := ax_mj_of (k := 0) (by decide +kernel) (by decide)
theorem mi_50 : ax_mi 50 = some (2, 9, false, false, some .int, 4) := ax_mj_of (k := 1) (by decide +kernel) (by decide)
theorem mi_51 : ax_mi 51 = some (2, 9, false, false, some .int, 4) := ax_mj_of (k := 1) (by decide +kernel) (by decide)
theorem mi_52 : ax_mi 52 = some (0, 9, false, false, some .int, 3) := ax_mj_of (k := 1) (by decide +kernel) (by decide)
theorem mi_53 : ax_mi 53 = some (0, 9, false, false, none, 1) := ax_mj_of (k := 0) (by decide +kernel) (by decide)
theorem mi_54 : ax_mi 54 = some (1, 9, false, false, some .boolean, 2) := ax_mj_of (k := 2) (by decide +kernel) (by decide)
theorem mi_55 : ax_mi 55 = some (1, 5, false, false, none, 2) := ax_mj_of (k := 0) (by decide +kernel) (by decide)
theorem mi_56 : ax_mi 56 = some (1, 5, false, false, none, 3) := ax_mj_of (k := 0) (by decide +kernel) (by decide)
theorem mi_57 : ax_mi 57 = some (0, 9, false, false, none, 1) := ax_mj_of (k := 0) (by decide +kernel) (by decide)
theorem mi_58 : ax_mi 58 = some (0, 9, false, false, some .boolean, 1) := ax_mj_of (k := 2) (by decide +kernel) (by decide)
theorem mi_59 : ax_mi 59 = some (0, 9, false, false, some .boolean, 1) := ax_mj_of (k := 2) (by decide +kernel) (by decide)
theorem mi_60 : ax_mi 60 = some (0, 9, false, false, none, 1) := ax_mj_of (k := 0) (by decide +kernel) (by decide)
theorem mi_61 : ax_mi 61 = some (0, 9, false, false, some .int, 1) := ax_mj_of (k := 1) (by decide +kernel) (by decide)
theorem mi_62 : ax_mi 62 = some (1, 5, false, false, none, 2) := ax_mj_of (k := 0) (by decide +kernel) (by decide)
theorem mi_63 : ax_mi 63 = some (0, 1, false, false, none, 1) := ax_mj_of (k := 0) (by decide +kernel) (by decide)
theorem mi_64 : ax_mi 64 = some (0, 5, false, false, some .int, 1) := ax_mj_of (k := 1) (by decide +kernel) (by decide)
theorem mi_65 : ax_mi 65 = some (0, 5, false, false, some .int, 1) := ax_mj_of (k := 1) (by decide +kernel) (by decide)
theorem mi_66 : ax_mi 66 = some (0, 10, false, false, some .long, 2) := ax_mj_of (k := 5) (by decide +kernel) (by decide)
theorem mi_67 : ax_mi 67 = some (0, 5, false, false, some .boolean, 1) := ax_mj_of (k := 2) (by decide +kernel) (by decide)
theorem mi_68 : ax_mi 68 = some (0, 1, false, false, some .boolean, 1) := ax_mj_of (k := 2) (by decide +kernel) (by decide)
theorem mi_69 : ax_mi 69 = some (2, 6, false, false, some .boolean, 4) := ax_mj_of (k := 2) (by decide +kernel) (by decide)
theorem mi_70 : ax_mi 70 = some (2, 6, false, false, none, 3) := ax_mj_of (k := 0) (by decide +kernel) (by decide)
theorem mi_71 : ax_mi 71 = some (2, 6, false, false, none, 3) := ax_mj_of (k := 0) (by decide +kernel) (by decide)
theorem mi_72 : ax_mi 72 = some (2, 6, false, false, none, 6) := ax_mj_of (k := 0) (by decide +kernel) (by decide)
theorem mi_73 : ax_mi 73 = some (2, 9, false, false, some .int, 4) := ax_mj_of (k := 1) (by decide +kernel) (by decide)
theorem mi_74 : ax_mi 74 = some (1, 10, true, false, some .boolean, 1) := ax_mj_of (k := 2) (by decide +kernel) (by decide)
theorem mi_75 : ax_mi 75 = some (3, 5, false, false, some .int, 8) := ax_mj_of (k := 1) (by decide +kernel) (by decide)
theorem mi_76 : ax_mi 76 = some (1, 6, false, false, none, 2) := ax_mj_of (k := 0) (by decide +kernel) (by decide)
theorem mi_77 : ax_mi 77 = some (1, 6, false, false, none, 2) := ax_mj_of (k := 0) (by decide +kernel) (by decide)
theorem mi_78 : ax_mi 78 = some (2, 1, false, false, some .int, 5) := ax_mj_of (k := 1) (by decide +kernel) (by decide)
theorem mi_79 : ax_mi 79 = some (0, 6, false, false, some .int, 1) := ax_mj_of (k := 1) (by decide +kernel) (by decide)
theorem mi_80 : ax_mi 80 = some (0, 6, false, false, some .int, 1) := ax_mj_of (k := 1) (by decide +kernel) (by decide)
theorem mi_81 : ax_mi 81 = some (1, 6, false, false, some .int, 2) := ax_mj_of (k := 1) (by decide +kernel) (by decide)
theorem mi_82 : ax_mi 82 = some (1, 10, true, false, some .boolean, 1) := ax_mj_of (k := 2) (by decide +kernel) (by decide)
theorem mi_83 : ax_mi 83 = some (3, 1, false, false, none, 4) := ax_mj_of (k := 0) (by decide +kernel) (by decide)
theorem mi_84 : ax_mi 84 = some (1, 1, false, false, some .boolean, 2) := ax_mj_of (k := 2) (by decide +kernel) (by decide)
theorem mi_85 : ax_mi 85 = some (0, 10, false, false, some .int, 1) := ax_mj_of (k := 1) (by decide +kernel) (by decide)
theorem mi_86 : ax_mi 86 = some (0, 9, false, false, some .int, 1) := ax_mj_of (k := 1) (by decide +kernel) (by decide)
theorem mi_87 : ax_mi 87 = some (5, 10, false, false, some .long, 6) := ax_mj_of (k := 5) (by decide +kernel) (by decide)
theorem mi_88 : ax_mi 88 = some (1, 10, true, false, some .boolean, 1) := ax_mj_of (k := 2) (by decide +kernel) (by decide)
theorem mi_89 : ax_mi 89 = some (1, 10, true, false, some .boolean, 1) := ax_mj_of (k := 2) (by decide +kernel) (by decide)
theorem mi_90 : ax_mi 90 = some (2, 1, false, false, some .boolean, 3) := ax_mj_of (k := 2) (by decide +kernel) (by decide)
theorem mi_91 : ax_mi 91 = some (1, 1, false, false, some .int, 2) := ax_mj_of (k := 1) (by decide +kernel) (by decide)
theorem mi_92 : ax_mi 92 = some (3, 6, false, false, some .boolean, 6) := ax_mj_of (k := 2) (by decide +kernel) (by decide)
theorem mi_93 : ax_mi 93 = some (2, 7, false, false, some .int, 3) := ax_mj_of (k := 1) (by decide +kernel) (by decide)
theorem mi_94 : ax_mi 94 = some (1, 6, true, false, some .int, 1) := ax_mj_of (k := 1) (by decide +kernel) (by decide)
theorem mi_95 : ax_mi 95 = some (6, 10, false, false, some .long, 7) := ax_mj_of (k := 5) (by decide +kernel) (by decide)
theorem mi_96 : ax_mi 96 = some (2, 6, false, false, none, 4) := ax_mj_of (k := 0) (by decide +kernel) (by decide)
theorem mi_97 : ax_mi 97 = some (2, 1, false, false, some .int, 3) := ax_mj_of (k := 1) (by decide +kernel) (by decide)
theorem mi_98 : ax_mi 98 = some (3, 6, false, false, some .boolean, 4) := ax_mj_of (k := 2) (by decide +kernel) (by decide)
theorem mi_99 : ax_mi 99 = some (2, 10, false, false, some .long, 3) := ax_mj_of (k := 5) (by decide +kernel) (by decide)
theorem mi_100 : ax_mi 100 = some (2, 10, false, false, some .long, 3) := ax_mj_of (k := 5) (by decide +kernel) (by decide)
theorem mi_101 : ax_mi 101 = some (1, 1, false, false, some .int, 2) := ax_mj_of (k := 1) (by decide +kernel) (by decide)
theorem mi_102 : ax_mi 102 = some (1, 1, false, false, some .int, 2) := ax_mj_of (k := 1) (by decide +kernel) (by decide)
theorem mi_103 : ax_mi 103 = some (1, 1, false, false, some .int, 4) := ax_mj_of (k := 1) (by decide +kernel) (by decide)
theorem mi_104 : ax_mi 104 = some (1, 1, false, false, some .int, 4) := ax_mj_of (k := 1) (by decide +kernel) (by decide)
theorem mi_105 : ax_mi 105 = some (2, 10, false, false, some .long, 3) := ax_mj_of (k := 5) (by decide +kernel) (by decide)
theorem mi_106 : ax_mi 106 = some (3, 10, false, false, some .long, 4) := ax_mj_of (k := 5) (by decide +kernel) (by decide)
theorem mi_107 : ax_mi 107 = some (2, 10, false, false, some .long, 3) := ax_mj_of (k := 5) (by decide +kernel) (by decide)
theorem mi_108 : ax_mi 108 = some (2, 1, false, false, some .int, 5) := ax_mj_of (k := 1) (by decide +kernel) (by decide)
theorem mi_109 : ax_mi 109 = some (3, 1, false, false, some .boolean, 6) := ax_mj_of (k := 2) (by decide +kernel) (by decide)
theorem mi_110 : ax_mi 110 = some (2, 10, false, false, some .long, 3) := ax_mj_of (k := 5) (by decide +kernel) (by decide)
theorem mi_111 : ax_mi 111 = some (1, 4, false, false, some .int, 4) := ax_mj_of (k := 1) (by decide +kernel) (by decide)
theorem mi_112 : ax_mi 112 = some (2, 5, false, false, some .int, 4) := ax_mj_of (k := 1) (by decide +kernel) (by decide)
theorem mi_113 : ax_mi 113 = some (1, 4, false, false, some .boolean, 2) := ax_mj_of (k := 2) (by decide +kernel) (by decide)
theorem mi_114 : ax_mi 114 = some (0, 5, false, false, some .int, 1) := ax_mj_of (k := 1) (by decide +kernel) (by decide)
theorem mi_115 : ax_mi 115 = some (3, 10, false, false, some .long, 4) := ax_mj_of (k := 5) (by decide +kernel) (by decide)
theorem mi_116 : ax_mi 116 = some (3, 8, false, false, none, 8) := ax_mj_of (k := 0) (by decide +kernel) (by decide)
theorem mi_117 : ax_mi 117 = some (0, 8, false, false, none, 1) := ax_mj_of (k := 0) (by decide +kernel) (by decide)
theorem mi_118 : ax_mi 118 = some (1, 13, true, false, some .int, 2) := ax_mj_of (k := 1) (by decide +kernel) (by decide)
theorem mi_119 : ax_mi 119 = some (1, 8, false, false, none, 3) := ax_mj_of (k := 0) (by decide +kernel) (by decide)
theorem mi_120 : ax_mi 120 = some (1, 13, true, false, some .int, 1) := ax_mj_of (k := 1) (by decide +kernel) (by decide)
theorem mi_121 : ax_mi 121 = some (0, 8, false, false, some .int, 1) := ax_mj_of (k := 1) (by decide +kernel) (by decide)
theorem mi_122 : ax_mi 122 = some (0, 8, false, false, some .int, 1) := ax_mj_of (k := 1) (by decide +kernel) (by decide)
theorem mi_123 : ax_mi 123 = some (1, 10, false, false, some .long, 2) := ax_mj_of (k := 5) (by decide +kernel) (by decide)
theorem mi_124 : ax_mi 124 = some (0, 1, false, false, some .int, 1) := ax_mj_of (k := 1) (by decide +kernel) (by decide)
theorem mi_125 : ax_mi 125 = some (0, 1, false, false, some .int, 4) := ax_mj_of (k := 1) (by decide +kernel) (by decide)
theorem mi_126 : ax_mi 126 = some (1, 1, false, false, some .int, 5) := ax_mj_of (k := 1) (by decide +kernel) (by decide)
theorem mi_127 : ax_mi 127 = some (2, 1, false, false, some .boolean, 5) := ax_mj_of (k := 2) (by decide +kernel) (by decide)
theorem mi_128 : ax_mi 128 = some (0, 1, false, false, some .long, 5) := ax_mj_of (k := 5) (by decide +kernel) (by decide)
theorem mi_129 : ax_mi 129 = some (2, 1, false, false, some .int, 5) := ax_mj_of (k := 1) (by decide +kernel) (by decide)
theorem mi_130 : ax_mi 130 = some (1, 10, false, false, some .long, 2) := ax_mj_of (k := 5) (by decide +kernel) (by decide)
theorem mi_131 : ax_mi 131 = some (2, 10, false, false, some .long, 3) := ax_mj_of (k := 5) (by decide +kernel) (by decide)
theorem mi_132 : ax_mi 132 = some (2, 1, false, false, some .int, 9) := ax_mj_of (k := 1) (by decide +kernel) (by decide)
theorem mi_133 : ax_mi 133 = some (3, 1, false, false, some .int, 7) := ax_mj_of (k := 1) (by decide +kernel) (by decide)
theorem mi_134 : ax_mi 134 = some (2, 10, false, false, some .long, 3) := ax_mj_of (k := 5) (by decide +kernel) (by decide)
theorem mi_135 : ax_mi 135 = some (1, 10, false, false, some .boolean, 3) := ax_mj_of (k := 2) (by decide +kernel) (by decide)
theorem mi_136 : ax_mi 136 = some (2, 2, false, false, none, 4) := ax_mj_of (k := 0) (by decide +kernel) (by decide)
theorem mi_137 : ax_mi 137 = some (2, 3, false, false, none, 5) := ax_mj_of (k := 0) (by decide +kernel) (by decide)
theorem mi_138 : ax_mi 138 = some (2, 3, false, false, none, 7) := ax_mj_of (k := 0) (by decide +kernel) (by decide)
theorem mi_139 : ax_mi 139 = some (2, 3, false, false, some .int, 5) := ax_mj_of (k := 1) (by decide +kernel) (by decide)
theorem mi_140 : ax_mi 140 = some (0, 2, false, false, some .boolean, 6) := ax_mj_of (k := 2) (by decide +kernel) (by decide)
theorem mi_141 : ax_mi 141 = some (0, 3, false, false, some .int, 1) := ax_mj_of (k := 1) (by decide +kernel) (by decide)
theorem mi_142 : ax_mi 142 = some (1, 2, true, false, some .int, 1) := ax_mj_of (k := 1) (by decide +kernel) (by decide)
theorem mi_143 : ax_mi 143 = some (2, 3, false, false, some .int, 3) := ax_mj_of (k := 1) (by decide +kernel) (by decide)
theorem mi_144 : ax_mi 144 = some (0, 2, false, false, none, 5) := ax_mj_of (k := 0) (by decide +kernel) (by decide)
theorem mi_145 : ax_mi 145 = some (1, 2, false, false, none, 5) := ax_mj_of (k := 0) (by decide +kernel) (by decide)
theorem mi_146 : ax_mi 146 = some (2, 2, false, false, none, 6) := ax_mj_of (k := 0) (by decide +kernel) (by decide)
theorem mi_147 : ax_mi 147 = some (0, 2, false, false, none, 7) := ax_mj_of (k := 0) (by decide +kernel) (by decide)
theorem mi_148 : ax_mi 148 = some (0, 2, false, false, none, 5) := ax_mj_of (k := 0) (by decide +kernel) (by decide)
theorem mi_149 : ax_mi 149 = some (0, 2, false, false, some .long, 5) := ax_mj_of (k := 5) (by decide +kernel) (by decide)
theorem mi_150 : ax_mi 150 = some (0, 2, false, false, some .int, 1) := ax_mj_of (k := 1) (by decide +kernel) (by decide)
theorem mi_151 : ax_mi 151 = some (0, 2, false, false, some .int, 1) := ax_mj_of (k := 1) (by decide +kernel) (by decide)
theorem mi_152 : ax_mi 152 = some (0, 2, false, false, some .int, 1) := ax_mj_of (k := 1) (by decide +kernel) (by decide)
theorem mi_153 : ax_mi 153 = some (2, 10, false, false, some .long, 3) := ax_mj_of (k := 5) (by decide +kernel) (by decide)
theorem mi_154 : ax_mi 154 = some (1, 2, false, false, some .long, 4) := ax_mj_of (k := 5) (by decide +kernel) (by decide)
theorem mi_155 : ax_mi 155 = some (1, 3, false, false, some .int, 4) := ax_mj_of (k := 1) (by decide +kernel) (by decide)
theorem mi_156 : ax_mi 156 = some (3, 10, false, false, some .long, 4) := ax_mj_of (k := 5) (by decide +kernel) (by decide)
theorem mi_157 : ax_mi 157 = some (2, 2, false, false, some .long, 5) := ax_mj_of (k := 5) (by decide +kernel) (by decide)
theorem mi_158 : ax_mi 158 = some (2, 3, false, false, some .int, 3) := ax_mj_of (k := 1) (by decide +kernel) (by decide)
theorem mi_159 : ax_mi 159 = some (2, 10, false, false, some .long, 5) := ax_mj_of (k := 5) (by decide +kernel) (by decide)
theorem mi_160 : ax_mi 160 = some (1, 4, false, false, some .int, 4) := ax_mj_of (k := 1) (by decide +kernel) (by decide)
theorem mi_161 : ax_mi 161 = some (1, 5, false, false, some .int, 4) := ax_mj_of (k := 1) (by decide +kernel) (by decide)
theorem mi_162 : ax_mi 162 = some (1, 4, false, false, some .int, 4) := ax_mj_of (k := 1) (by decide +kernel) (by decide)
theorem mi_163 : ax_mi 163 = some (1, 5, false, false, some .int, 4) := ax_mj_of (k := 1) (by decide +kernel) (by decide)
theorem mi_164 : ax_mi 164 = some (2, 10, false, false, some .long, 3) := ax_mj_of (k := 5) (by decide +kernel) (by decide)
theorem mi_165 : ax_mi 165 = some (2, 1, false, false, some .int, 7) := ax_mj_of (k := 1) (by decide +kernel) (by decide)
theorem mi_166 : ax_mi 166 = some (3, 10, false, false, some .long, 8) := ax_mj_of (k := 5) (by decide +kernel) (by decide)
theorem mi_167 : ax_mi 167 = some (4, 10, false, false, some .long, 5) := ax_mj_of (k := 5) (by decide +kernel) (by decide)
theorem mi_168 : ax_mi 168 = some (4, 1, false, false, some .int, 8) := ax_mj_of (k := 1) (by decide +kernel) (by decide)
theorem mi_169 : ax_mi 169 = some (3, 1, true, false, some .int, 3) := ax_mj_of (k := 1) (by decide +kernel) (by decide)
theorem mi_170 : ax_mi 170 = some (1, 10, false, false, some .long, 2) := ax_mj_of (k := 5) (by decide +kernel) (by decide)
theorem mi_171 : ax_mi 171 = some (2, 8, false, false, none, 7) := ax_mj_of (k := 0) (by decide +kernel) (by decide)
theorem mi_172 : ax_mi 172 = some (3, 8, true, false, some .int, 5) := ax_mj_of (k := 1) (by decide +kernel) (by decide)
theorem mi_173 : ax_mi 173 = some (1, 10, false, false, some .long, 2) := ax_mj_of (k := 5) (by decide +kernel) (by decide)
theorem mi_174 : ax_mi 174 = some (1, 10, false, false, some (.object "CakeCards$Household"), 2) := by rfl
theorem mi_175 : ax_mi 175 = some (1, 4, false, false, none, 2) := ax_mj_of (k := 0) (by decide +kernel) (by decide)
theorem mi_176 : ax_mi 176 = some (1, 1, false, false, none, 2) := ax_mj_of (k := 0) (by decide +kernel) (by decide)
theorem mi_177 : ax_mi 177 = some (1, 10, false, false, some .long, 2) := ax_mj_of (k := 5) (by decide +kernel) (by decide)
theorem mi_178 : ax_mi 178 = some (1, 10, false, false, some .long, 2) := ax_mj_of (k := 5) (by decide +kernel) (by decide)
theorem mi_179 : ax_mi 179 = some (1, 4, false, false, some .int, 3) := ax_mj_of (k := 1) (by decide +kernel) (by decide)
theorem mi_180 : ax_mi 180 = some (2, 10, false, false, some .long, 3) := ax_mj_of (k := 5) (by decide +kernel) (by decide)
theorem mi_181 : ax_mi 181 = some (2, 10, true, false, some .boolean, 2) := ax_mj_of (k := 2) (by decide +kernel) (by decide)
theorem mi_182 : ax_mi 182 = some (2, 10, false, false, some .long, 3) := ax_mj_of (k := 5) (by decide +kernel) (by decide)
theorem mi_183 : ax_mi 183 = some (3, 0, false, false, some .int, 4) := ax_mj_of (k := 1) (by decide +kernel) (by decide)
theorem mi_184 : ax_mi 184 = some (1, 1, false, false, some .int, 4) := ax_mj_of (k := 1) (by decide +kernel) (by decide)
theorem mi_185 : ax_mi 185 = some (1, 0, false, false, some .int, 2) := ax_mj_of (k := 1) (by decide +kernel) (by decide)
theorem mi_186 : ax_mi 186 = some (2, 0, false, false, some .int, 4) := ax_mj_of (k := 1) (by decide +kernel) (by decide)
theorem mi_187 : ax_mi 187 = some (1, 0, false, false, none, 2) := ax_mj_of (k := 0) (by decide +kernel) (by decide)
theorem mi_188 : ax_mi 188 = some (1, 10, false, false, some .int, 2) := ax_mj_of (k := 1) (by decide +kernel) (by decide)
theorem mi_189 : ax_mi 189 = some (1, 0, false, false, some .int, 2) := ax_mj_of (k := 1) (by decide +kernel) (by decide)
theorem mi_190 : ax_mi 190 = some (1, 10, false, false, some .long, 2) := ax_mj_of (k := 5) (by decide +kernel) (by decide)
theorem mi_191 : ax_mi 191 = some (0, 7, false, false, some .int, 6) := ax_mj_of (k := 1) (by decide +kernel) (by decide)
theorem mi_192 : ax_mi 192 = some (0, 1, false, false, some .int, 3) := ax_mj_of (k := 1) (by decide +kernel) (by decide)
theorem mi_193 : ax_mi 193 = some (0, 9, false, false, some .int, 1) := ax_mj_of (k := 1) (by decide +kernel) (by decide)
theorem mi_194 : ax_mi 194 = some (0, 10, false, false, some .int, 1) := ax_mj_of (k := 1) (by decide +kernel) (by decide)
theorem mi_195 : ax_mi 195 = some (0, 11, false, true, none, 1) := ax_mj_of (k := 0) (by decide +kernel) (by decide)
theorem mi_196 : ax_mi 196 = some (3, 11, false, false, some .long, 5) := ax_mj_of (k := 5) (by decide +kernel) (by decide)
theorem mi_197 : ax_mi 197 = some (1, 11, true, false, some .boolean, 1) := ax_mj_of (k := 2) (by decide +kernel) (by decide)
theorem mi_198 : ax_mi 198 = some (3, 11, true, false, some .boolean, 6) := ax_mj_of (k := 2) (by decide +kernel) (by decide)
theorem mi_199 : ax_mi 199 = some (1, 11, false, false, some .long, 2) := ax_mj_of (k := 5) (by decide +kernel) (by decide)
theorem mi_200 : ax_mi 200 = some (3, 11, false, false, some .long, 4) := ax_mj_of (k := 5) (by decide +kernel) (by decide)
theorem mi_201 : ax_mi 201 = some (5, 11, false, false, some .long, 9) := ax_mj_of (k := 5) (by decide +kernel) (by decide)
theorem mi_202 : ax_mi 202 = some (1, 11, false, false, some .long, 2) := ax_mj_of (k := 5) (by decide +kernel) (by decide)
theorem mi_203 : ax_mi 203 = some (2, 11, false, false, some .long, 5) := ax_mj_of (k := 5) (by decide +kernel) (by decide)
theorem mi_204 : ax_mi 204 = some (0, 11, false, false, some .long, 4) := ax_mj_of (k := 5) (by decide +kernel) (by decide)
theorem mi_205 : ax_mi 205 = some (0, 11, false, false, none, 1) := ax_mj_of (k := 0) (by decide +kernel) (by decide)
theorem mi_206 : ax_mi 206 = some (0, 11, false, false, none, 2) := ax_mj_of (k := 0) (by decide +kernel) (by decide)
theorem mi_207 : ax_mi 207 = some (1, 11, false, false, some .int, 2) := ax_mj_of (k := 1) (by decide +kernel) (by decide)
theorem mi_208 : ax_mi 208 = some (1, 11, true, false, some .boolean, 1) := ax_mj_of (k := 2) (by decide +kernel) (by decide)
theorem mi_209 : ax_mi 209 = some (1, 11, true, false, some .boolean, 1) := ax_mj_of (k := 2) (by decide +kernel) (by decide)
theorem mi_210 : ax_mi 210 = some (0, 11, false, false, some .long, 4) := ax_mj_of (k := 5) (by decide +kernel) (by decide)
theorem mi_211 : ax_mi 211 = some (0, 11, false, false, none, 6) := ax_mj_of (k := 0) (by decide +kernel) (by decide)
theorem mi_212 : ax_mi 212 = some (1, 11, false, false, none, 2) := ax_mj_of (k := 0) (by decide +kernel) (by decide)
theorem mi_213 : ax_mi 213 = some (1, 11, false, false, none, 2) := ax_mj_of (k := 0) (by decide +kernel) (by decide)
theorem mi_214 : ax_mi 214 = some (2, 11, false, false, some .int, 4) := ax_mj_of (k := 1) (by decide +kernel) (by decide)
theorem mi_215 : ax_mi 215 = some (0, 11, false, false, some .int, 3) := ax_mj_of (k := 1) (by decide +kernel) (by decide)
theorem mi_216 : ax_mi 216 = some (0, 11, false, false, none, 1) := ax_mj_of (k := 0) (by decide +kernel) (by decide)
theorem mi_217 : ax_mi 217 = some (0, 11, false, false, none, 5) := ax_mj_of (k := 0) (by decide +kernel) (by decide)
theorem mi_218 : ax_mi 218 = some (0, 11, false, false, some .long, 1) := ax_mj_of (k := 5) (by decide +kernel) (by decide)
theorem mi_219 : ax_mi 219 = some (0, 11, false, false, some .long, 5) := ax_mj_of (k := 5) (by decide +kernel) (by decide)
theorem mi_220 : ax_mi 220 = some (3, 11, false, false, none, 5) := ax_mj_of (k := 0) (by decide +kernel) (by decide)
theorem mi_221 : ax_mi 221 = some (2, 11, false, false, none, 8) := ax_mj_of (k := 0) (by decide +kernel) (by decide)
theorem mi_222 : ax_mi 222 = some (2, 11, false, false, none, 6) := ax_mj_of (k := 0) (by decide +kernel) (by decide)
theorem mi_223 : ax_mi 223 = some (2, 11, false, false, some .int, 3) := ax_mj_of (k := 1) (by decide +kernel) (by decide)
theorem mi_224 : ax_mi 224 = some (3, 11, false, false, some .int, 8) := ax_mj_of (k := 1) (by decide +kernel) (by decide)
theorem mi_225 : ax_mi 225 = some (2, 11, false, false, none, 3) := ax_mj_of (k := 0) (by decide +kernel) (by decide)
theorem mi_226 : ax_mi 226 = some (0, 11, false, false, some .int, 3) := ax_mj_of (k := 1) (by decide +kernel) (by decide)
theorem mi_227 : ax_mi 227 = some (0, 11, false, false, some .int, 1) := ax_mj_of (k := 1) (by decide +kernel) (by decide)
theorem mi_228 : ax_mi 228 = some (5, 11, false, false, some .long, 8) := ax_mj_of (k := 5) (by decide +kernel) (by decide)
theorem mi_229 : ax_mi 229 = some (1, 11, true, false, some .boolean, 1) := ax_mj_of (k := 2) (by decide +kernel) (by decide)
theorem mi_230 : ax_mi 230 = some (1, 11, true, false, some .boolean, 1) := ax_mj_of (k := 2) (by decide +kernel) (by decide)
theorem mi_231 : ax_mi 231 = some (1, 11, false, false, some .boolean, 2) := ax_mj_of (k := 2) (by decide +kernel) (by decide)
theorem mi_232 : ax_mi 232 = some (2, 11, false, false, some .int, 3) := ax_mj_of (k := 1) (by decide +kernel) (by decide)
theorem mi_233 : ax_mi 233 = some (6, 11, false, false, some .long, 8) := ax_mj_of (k := 5) (by decide +kernel) (by decide)
theorem mi_234 : ax_mi 234 = some (2, 11, false, false, some .boolean, 3) := ax_mj_of (k := 2) (by decide +kernel) (by decide)
theorem mi_235 : ax_mi 235 = some (2, 11, false, false, some .int, 3) := ax_mj_of (k := 1) (by decide +kernel) (by decide)
theorem mi_236 : ax_mi 236 = some (2, 11, false, false, some .long, 3) := ax_mj_of (k := 5) (by decide +kernel) (by decide)
theorem mi_237 : ax_mi 237 = some (1, 11, true, false, some .boolean, 1) := ax_mj_of (k := 2) (by decide +kernel) (by decide)
theorem mi_238 : ax_mi 238 = some (2, 11, false, false, some .long, 5) := ax_mj_of (k := 5) (by decide +kernel) (by decide)
theorem mi_239 : ax_mi 239 = some (2, 11, false, false, some .int, 4) := ax_mj_of (k := 1) (by decide +kernel) (by decide)
theorem mi_240 : ax_mi 240 = some (1, 11, true, false, some .int, 3) := ax_mj_of (k := 1) (by decide +kernel) (by decide)
theorem mi_241 : ax_mi 241 = some (2, 11, false, false, some .long, 4) := ax_mj_of (k := 5) (by decide +kernel) (by decide)
theorem mi_242 : ax_mi 242 = some (3, 11, false, false, some .long, 4) := ax_mj_of (k := 5) (by decide +kernel) (by decide)
theorem mi_243 : ax_mi 243 = some (2, 11, false, false, some .long, 3) := ax_mj_of (k := 5) (by decide +kernel) (by decide)
theorem mi_244 : ax_mi 244 = some (2, 11, false, false, some .int, 5) := ax_mj_of (k := 1) (by decide +kernel) (by decide)
theorem mi_245 : ax_mi 245 = some (3, 11, false, false, some .boolean, 4) := ax_mj_of (k := 2) (by decide +kernel) (by decide)
theorem mi_246 : ax_mi 246 = some (2, 11, false, false, some .long, 3) := ax_mj_of (k := 5) (by decide +kernel) (by decide)
theorem mi_247 : ax_mi 247 = some (3, 11, false, false, some .int, 7) := ax_mj_of (k := 1) (by decide +kernel) (by decide)
theorem mi_248 : ax_mi 248 = some (1, 11, true, false, some .int, 1) := ax_mj_of (k := 1) (by decide +kernel) (by decide)
theorem mi_249 : ax_mi 249 = some (3, 11, false, false, some .boolean, 4) := ax_mj_of (k := 2) (by decide +kernel) (by decide)
theorem mi_250 : ax_mi 250 = some (3, 11, false, false, some .long, 9) := ax_mj_of (k := 5) (by decide +kernel) (by decide)
theorem mi_251 : ax_mi 251 = some (1, 11, false, false, some .long, 7) := ax_mj_of (k := 5) (by decide +kernel) (by decide)
theorem mi_252 : ax_mi 252 = some (1, 11, false, false, none, 5) := ax_mj_of (k := 0) (by decide +kernel) (by decide)
theorem mi_253 : ax_mi 253 = some (2, 11, false, false, some .boolean, 5) := ax_mj_of (k := 2) (by decide +kernel) (by decide)
theorem mi_254 : ax_mi 254 = some (1, 11, false, false, some .long, 2) := ax_mj_of (k := 5) (by decide +kernel) (by decide)
theorem mi_255 : ax_mi 255 = some (2, 11, false, false, some .long, 10) := ax_mj_of (k := 5) (by decide +kernel) (by decide)
theorem mi_256 : ax_mi 256 = some (3, 11, false, false, some .boolean, 4) := ax_mj_of (k := 2) (by decide +kernel) (by decide)
theorem mi_257 : ax_mi 257 = some (2, 11, false, false, some .long, 3) := ax_mj_of (k := 5) (by decide +kernel) (by decide)
theorem mi_258 : ax_mi 258 = some (1, 11, false, false, some .boolean, 3) := ax_mj_of (k := 2) (by decide +kernel) (by decide)
theorem mi_259 : ax_mi 259 = some (0, 11, false, false, some .int, 3) := ax_mj_of (k := 1) (by decide +kernel) (by decide)
theorem mi_260 : ax_mi 260 = some (0, 11, false, false, none, 5) := ax_mj_of (k := 0) (by decide +kernel) (by decide)
theorem mi_261 : ax_mi 261 = some (1, 11, false, false, none, 5) := ax_mj_of (k := 0) (by decide +kernel) (by decide)
theorem mi_262 : ax_mi 262 = some (3, 11, false, false, none, 5) := ax_mj_of (k := 0) (by decide +kernel) (by decide)
theorem mi_263 : ax_mi 263 = some (0, 11, false, false, some .int, 3) := ax_mj_of (k := 1) (by decide +kernel) (by decide)
theorem mi_264 : ax_mi 264 = some (1, 11, false, false, some .int, 6) := ax_mj_of (k := 1) (by decide +kernel) (by decide)
theorem mi_265 : ax_mi 265 = some (1, 11, false, false, none, 7) := ax_mj_of (k := 0) (by decide +kernel) (by decide)
theorem mi_266 : ax_mi 266 = some (2, 11, false, false, some .long, 6) := ax_mj_of (k := 5) (by decide +kernel) (by decide)
theorem mi_267 : ax_mi 267 = some (1, 11, false, false, some .boolean, 4) := ax_mj_of (k := 2) (by decide +kernel) (by decide)
theorem mi_268 : ax_mi 268 = some (3, 11, false, false, some .long, 8) := ax_mj_of (k := 5) (by decide +kernel) (by decide)
theorem mi_269 : ax_mi 269 = some (2, 11, false, false, some .long, 7) := ax_mj_of (k := 5) (by decide +kernel) (by decide)
theorem mi_270 : ax_mi 270 = some (2, 11, false, false, some .boolean, 3) := ax_mj_of (k := 2) (by decide +kernel) (by decide)
theorem mi_271 : ax_mi 271 = some (2, 11, false, false, some .long, 3) := ax_mj_of (k := 5) (by decide +kernel) (by decide)
theorem mi_272 : ax_mi 272 = some (1, 11, true, false, some .boolean, 1) := ax_mj_of (k := 2) (by decide +kernel) (by decide)
theorem mi_273 : ax_mi 273 = some (2, 11, false, false, some .int, 7) := ax_mj_of (k := 1) (by decide +kernel) (by decide)
theorem mi_274 : ax_mi 274 = some (2, 11, false, false, some .boolean, 3) := ax_mj_of (k := 2) (by decide +kernel) (by decide)
theorem mi_275 : ax_mi 275 = some (3, 11, false, false, some .long, 8) := ax_mj_of (k := 5) (by decide +kernel) (by decide)
theorem mi_276 : ax_mi 276 = some (4, 11, false, false, some .long, 8) := ax_mj_of (k := 5) (by decide +kernel) (by decide)
theorem mi_277 : ax_mi 277 = some (1, 11, false, false, some .long, 7) := ax_mj_of (k := 5) (by decide +kernel) (by decide)
theorem mi_278 : ax_mi 278 = some (1, 11, false, false, some .long, 3) := ax_mj_of (k := 5) (by decide +kernel) (by decide)
theorem mi_279 : ax_mi 279 = some (1, 11, false, false, some .long, 3) := ax_mj_of (k := 5) (by decide +kernel) (by decide)
theorem mi_280 : ax_mi 280 = some (1, 11, false, false, some .long, 2) := ax_mj_of (k := 5) (by decide +kernel) (by decide)
theorem mi_281 : ax_mi 281 = some (1, 11, false, false, some .int, 3) := ax_mj_of (k := 1) (by decide +kernel) (by decide)
theorem mi_282 : ax_mi 282 = some (2, 11, false, false, some .long, 3) := ax_mj_of (k := 5) (by decide +kernel) (by decide)
theorem mi_283 : ax_mi 283 = some (2, 11, true, false, some .boolean, 2) := ax_mj_of (k := 2) (by decide +kernel) (by decide)
theorem mi_284 : ax_mi 284 = some (2, 11, false, false, some .long, 3) := ax_mj_of (k := 5) (by decide +kernel) (by decide)
theorem mi_285 : ax_mi 285 = some (2, 11, false, false, some .int, 4) := ax_mj_of (k := 1) (by decide +kernel) (by decide)
theorem mi_286 : ax_mi 286 = some (2, 11, false, false, some .int, 3) := ax_mj_of (k := 1) (by decide +kernel) (by decide)
theorem mi_287 : ax_mi 287 = some (1, 11, false, false, none, 2) := ax_mj_of (k := 0) (by decide +kernel) (by decide)
theorem mi_288 : ax_mi 288 = some (1, 11, false, false, some .int, 4) := ax_mj_of (k := 1) (by decide +kernel) (by decide)
theorem mi_289 : ax_mi 289 = some (2, 11, false, false, some .int, 5) := ax_mj_of (k := 1) (by decide +kernel) (by decide)
theorem mi_290 : ax_mi 290 = some (1, 11, false, false, some .int, 2) := ax_mj_of (k := 1) (by decide +kernel) (by decide)
theorem mi_291 : ax_mi 291 = some (1, 11, false, false, some .long, 4) := ax_mj_of (k := 5) (by decide +kernel) (by decide)
theorem mi_292 : ax_mi 292 = some (0, 11, false, false, some .int, 1) := ax_mj_of (k := 1) (by decide +kernel) (by decide)
def ax_shc (q : (Nat × Nat) ⊕ (Nat × List Nat)) : Bool := match q with
  | .inl _ => true
  | .inr p => decide (p.1 < 12)
theorem ax_Sh_c : ax_Sh.all ax_shc = true := by decide +kernel
section KL
variable {d m pc pc' : Nat} {L L' st st' : List Value} {σ : ax_S}
theorem sO_kl {a ci : Nat} {ks : List Nat} (hs : ax_Sh[a]? = some (.inr (ci, ks))) : sO.2.2.2.2.2.2.2.2 σ a = some ci := by
  show ax_skl σ a = _
  have hl := ax_Sh_lt hs
  unfold ax_skl
  rw [if_neg (by omega), hs]
theorem sO_kls {a : Nat} (ha : 1001 ≤ a ∧ a < 1008) : sO.2.2.2.2.2.2.2.2 σ a = some 15 := by
  show ax_skl σ a = _
  unfold ax_skl
  rw [if_pos ha.1, if_pos ha.2]
theorem sO_get {a z ci k kd : Nat} {ks : List Nat} (hs : ax_Sh[a]? = some (.inr (ci, ks))) (hz : z / 64 = ci) (hk : z % 64 = k) (hd : ks[k]? = some kd) : sO.1 σ a z = some (ax_fl σ a k kd) := by
  show ax_sget σ a z = _
  subst hk
  subst hz
  have hw : z / 64 < 12 := by
    have h1 := ax_mk_at (σ := σ) hs
    by_cases q : z / 64 < 12
    · exact q
    · exfalso
      have := List.all_eq_true.mp ax_Sh_c _ (List.mem_of_getElem? hs)
      simp only [ax_shc, decide_eq_true_eq] at this
      omega
  unfold ax_sget
  rw [if_neg (by omega), hs]
  simp only
  rw [if_pos trivial, hd]
theorem E_gfi {a z ci k kd : Nat} {ks : List Nat} (hc : ax_code m pc = some (.getfield z, pc')) (hs : ax_Sh[a]? = some (.inr (ci, ks))) (hz : z / 64 = ci) (hk : z % 64 = k) (hd : ks[k]? = some kd) (hb : kd < 2) : ev sO d m pc L (.ref a :: st) σ = ev sO d m pc' L (.int (σ.1 a k) :: st) σ := by
  refine E_gf hc ?_
  rw [sO_get hs hz hk hd]
  match kd, hb with
  | 0, _ => rfl
  | 1, _ => rfl
theorem E_gfr {a z ci k r : Nat} {ks : List Nat} (hc : ax_code m pc = some (.getfield z, pc')) (hs : ax_Sh[a]? = some (.inr (ci, ks))) (hz : z / 64 = ci) (hk : z % 64 = k) (hd : ks[k]? = some (r + 3)) : ev sO d m pc L (.ref a :: st) σ = ev sO d m pc' L (.ref r :: st) σ := by
  refine E_gf hc ?_
  rw [sO_get hs hz hk hd]
  rfl
theorem E_gfl {a z ci k : Nat} {ks : List Nat} (hc : ax_code m pc = some (.getfield z, pc')) (hs : ax_Sh[a]? = some (.inr (ci, ks))) (hz : z / 64 = ci) (hk : z % 64 = k) (hd : ks[k]? = some 2) : ev sO d m pc L (.ref a :: st) σ = ev sO d m pc' L (.long σ.2 :: st) σ := by
  refine E_gf hc ?_
  rw [sO_get hs hz hk hd]
  rfl
theorem E_gfs0 {a b : Nat} (hc : ax_code m pc = some (.getfield 4096, pc')) (ha : 1001 ≤ a ∧ a < 1008) (hb : a + 100 = b) : ev sO d m pc L (.ref a :: st) σ = ev sO d m pc' L (.ref b :: st) σ := by
  refine E_gf hc ?_
  show ax_sget σ a 4096 = _
  unfold ax_sget
  rw [if_pos (by omega), if_pos ha, if_pos rfl, hb]
theorem E_gfs1 {a : Nat} (hc : ax_code m pc = some (.getfield 4097, pc')) (ha : 1001 ≤ a ∧ a < 1008) : ev sO d m pc L (.ref a :: st) σ = ev sO d m pc' L (.int 0 :: st) σ := by
  refine E_gf hc ?_
  show ax_sget σ a 4097 = _
  unfold ax_sget
  rw [if_pos (by omega), if_pos ha, if_neg (by omega), if_pos rfl]
theorem E_pfi {a z ci k : Nat} {ks : List Nat} {x : Int32} (hc : ax_code m pc = some (.putfield z, pc')) (hs : ax_Sh[a]? = some (.inr (ci, ks))) (hz : z / 64 = ci) (hk : z % 64 = k) (hd : ks[k]? = some 0) : ev sO d m pc L (.int x :: .ref a :: st) σ = ev sO d m pc' L st (sI σ a k x) := by
  subst hk
  refine E_pf hc ?_
  show ax_sput σ a z (.int x) = _
  unfold ax_sput
  rw [hs]
  simp only
  rw [if_pos hz.symm, hd]
  rfl
theorem E_pfz {a z ci k : Nat} {ks : List Nat} {x : Int32} (hc : ax_code m pc = some (.putfield z, pc')) (hs : ax_Sh[a]? = some (.inr (ci, ks))) (hz : z / 64 = ci) (hk : z % 64 = k) (hd : ks[k]? = some 1) (hx : x = 0 ∨ x = 1) : ev sO d m pc L (.int x :: .ref a :: st) σ = ev sO d m pc' L st (sI σ a k x) := by
  subst hk
  exact E_pfb hc hs hz.symm hd hx
theorem E_pfzg {a z ci k : Nat} {ks : List Nat} {x : Int32} (hc : ax_code m pc = some (.putfield z, pc')) (hs : ax_Sh[a]? = some (.inr (ci, ks))) (hz : z / 64 = ci) (hk : z % 64 = k) (hd : ks[k]? = some 1) : ev sO d m pc L (.int x :: .ref a :: st) σ = gd (x = 0 ∨ x = 1) (ev sO d m pc' L st (sI σ a k x)) := by
  by_cases hx : x = 0 ∨ x = 1
  · rw [gd_t hx]
    exact E_pfz hc hs hz hk hd hx
  · rw [gd_f hx]
    refine E_pfn hc ?_
    subst hk
    show ax_sput σ a z (.int x) = _
    unfold ax_sput
    rw [hs]
    simp only
    rw [if_pos hz.symm, hd]
    exact if_neg hx
theorem E_pfl {a z ci k : Nat} {ks : List Nat} {x : Int64} (hc : ax_code m pc = some (.putfield z, pc')) (hs : ax_Sh[a]? = some (.inr (ci, ks))) (hz : z / 64 = ci) (hk : z % 64 = k) (hd : ks[k]? = some 2) : ev sO d m pc L (.long x :: .ref a :: st) σ = ev sO d m pc' L st (sJ σ x) := by
  subst hk
  refine E_pf hc ?_
  show ax_sput σ a z (.long x) = _
  unfold ax_sput
  rw [hs]
  simp only
  rw [if_pos hz.symm, hd]
  rfl
/-- a switch, case by case -/
def ax_swl (x : Int32) : List (Int32 × Nat) → Nat → Nat
  | [], q => q
  | c :: cs, q => if x = c.1 then c.2 else ax_swl x cs q
def ax_swk : Int → List Int → List (Int32 × Nat) → Bool
  | _, [], [] => true
  | lo, o :: os, c :: cs => decide (c.1.toInt = lo) && decide (o = (c.2 : Int)) && ax_swk (lo + 1) os cs
  | _, _, _ => false
theorem ax_swl_of {x : Int32} {q : Nat} : ∀ (os : List Int) (cs : List (Int32 × Nat)) (lo : Int), ax_swk lo os cs = true → (if x.toInt < lo ∨ lo + os.length ≤ x.toInt then (q : Int) else os.getD (x.toInt - lo).toNat q) = (ax_swl x cs q : Int)
  | [], [], lo, _ => by
    rw [if_pos (by simp only [List.length_nil]; omega)]
    rfl
  | [], c :: cs, lo, h => by cases h
  | o :: os, [], lo, h => by cases h
  | o :: os, c :: cs, lo, h => by
    simp only [ax_swk, Bool.and_eq_true, decide_eq_true_eq] at h
    obtain ⟨⟨h1, h2⟩, h3⟩ := h
    have ih := ax_swl_of (x := x) (q := q) os cs (lo + 1) h3
    rw [ax_swl]
    by_cases hx : x = c.1
    · rw [if_pos hx, hx, h1, if_neg (by simp only [List.length_cons]; omega), Int.sub_self]
      exact h2
    · have hn : x.toInt ≠ lo := fun e => hx (Int32.toInt_inj.mp (e.trans h1.symm))
      rw [if_neg hx, ← ih]
      simp only [List.length_cons]
      by_cases hr : x.toInt < lo ∨ lo + ((os.length : Int) + 1) ≤ x.toInt
      · rw [if_pos (by omega), if_pos (by omega)]
      · rw [if_neg (by omega), if_neg (by omega)]
        have e : (x.toInt - lo).toNat = (x.toInt - (lo + 1)).toNat + 1 := by omega
        rw [e]
        rfl
theorem E_sw {H : Type} {O : ax_O H} {h : H} {dd lo hi : Int} {os : Array Int} {x : Int32} {q : Nat} (hc : ax_code m pc = some (.tableswitch dd lo hi os, pc')) (cs : List (Int32 × Nat)) (hd : dd = (q : Int)) (hk : ax_swk lo os.toList cs = true) (hh : hi + 1 = lo + (os.size : Int)) (hp : 0 < os.size) : ev O d m pc L (.int x :: st) h = ev O d m (ax_swl x cs q) L st h := by
  have e : ax_swt dd lo hi os x = (ax_swl x cs q : Int) := by
    rw [← ax_swl_of os.toList cs lo hk]
    unfold ax_swt
    subst hd
    have hl : (os.toList.length : Int) = os.size := by simp
    by_cases hr : x.toInt < lo ∨ hi < x.toInt
    · rw [if_pos hr, if_pos (by omega)]
    · rw [if_neg hr, if_neg (by omega)]
      simp [Array.getD_eq_getD_getElem?, List.getD_eq_getElem?_getD]
  refine E_stp hc rfl ?_
  show (if 0 ≤ ax_swt dd lo hi os x ∧ (hi - lo).toNat < os.size then some ((ax_swt dd lo hi os x).toNat, L, st, h) else none) = _
  rw [if_pos ⟨by rw [e]; exact Int.natCast_nonneg _, by omega⟩, e]
  rfl
theorem ev_sw1 {H : Type} {O : ax_O H} {h : H} {x v : Int32} {t q : Nat} {cs : List (Int32 × Nat)} : ev O d m (ax_swl x ((v, t) :: cs) q) L st h = if x = v then ev O d m t L st h else ev O d m (ax_swl x cs q) L st h := by
  rw [ax_swl]
  exact ev_if
theorem ev_sw0 {H : Type} {O : ax_O H} {h : H} {x : Int32} {q : Nat} : ev O d m (ax_swl x [] q) L st h = ev O d m q L st h := rfl
end KL
