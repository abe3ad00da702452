set_option maxHeartbeats 4000000 in
theorem u_141_67 (d : Nat) (σ : ax_S) : ev sO d 141 0 [.ref 67] [] σ = some (some (.int (σ.1 67 0)), σ) := by
  refine (E_al c_141_0 rfl (by decide)).trans ?_
  refine (E_gfi (k := 0) c_141_1 sh_67 rfl rfl rfl (by decide)).trans ?_
  exact E_rI c_141_4 mi_141
set_option maxHeartbeats 4000000 in
theorem u_142 (d : Nat) (σ : ax_S) (x0 : Int32) : ev sO d 142 0 [.int x0] [] σ = if x0 = 0 then (some (some (.int (0 : Int32)), σ)) else (some (some (.int (((2 : Int32) * x0) - (1 : Int32))), σ)) := by
  refine (E_il c_142_0 rfl).trans ?_
  refine (E_b0_ne (q := 8) c_142_1 rfl).trans (ax_ite ?_ ?_)
  · refine (E_ic (v := (0 : Int32)) c_142_4 (by decide)).trans ?_
    refine (E_goto (q := 13) c_142_5 rfl).trans ?_
    exact E_rI c_142_13 mi_142
  · refine (E_ic (v := (2 : Int32)) c_142_8 (by decide)).trans ?_
    refine (E_il c_142_9 rfl).trans ?_
    refine (E_imul c_142_10).trans ?_
    refine (E_ic (v := (1 : Int32)) c_142_11 (by decide)).trans ?_
    refine (E_isub c_142_12).trans ?_
    exact E_rI c_142_13 mi_142
set_option maxHeartbeats 4000000 in
theorem u_143_67 (d : Nat) (σ : ax_S) (x1 : Int32) (x2 : Int32) : ev sO (d + 1) 143 0 [.ref 67, .int x1, .int x2] [] σ = (cI sO d 82 [.int x1] σ).bind fun u0 => if u0.1 = 0 then (some (some (.int (0 : Int32)), u0.2)) else (if x2 < 0 then (some (some (.int (0 : Int32)), u0.2)) else (if x2 < (u0.2.1 67 0) then (gd (0 ≤ ((x1 * (6 : Int32)) + x2).toInt ∧ ((x1 * (6 : Int32)) + x2).toInt < (66 : Nat)) (some (some (.int (u0.2.1 71 ((x1 * (6 : Int32)) + x2).toNatClampNeg)), u0.2))) else (some (some (.int (0 : Int32)), u0.2)))) := by
  refine (E_il c_143_0 rfl).trans ?_
  refine (E_cIS c_143_1 mi_82 rfl rfl (Nat.le_of_ble_eq_true rfl) (Nat.le_of_ble_eq_true rfl)).trans (ax_bnd fun u0 => ?_)
  refine (E_b0_eq (q := 33) c_143_4 rfl).trans (ax_ite ?_ ?_)
  · refine (E_ic (v := (0 : Int32)) c_143_33 (by decide)).trans ?_
    exact E_rI c_143_34 mi_143
  · refine (E_il c_143_7 rfl).trans ?_
    refine (E_b0_lt (q := 33) c_143_8 rfl).trans (ax_ite ?_ ?_)
    · refine (E_ic (v := (0 : Int32)) c_143_33 (by decide)).trans ?_
      exact E_rI c_143_34 mi_143
    · refine (E_il c_143_11 rfl).trans ?_
      refine (E_al c_143_12 rfl (by decide)).trans ?_
      refine (E_gfi (k := 0) c_143_13 sh_67 rfl rfl rfl (by decide)).trans ?_
      refine (E_br_ge (q := 33) c_143_16 rfl).trans (ax_ite ?_ ?_)
      · refine (E_al c_143_19 rfl (by decide)).trans ?_
        refine (E_gfr (k := 4) (r := 71) c_143_20 sh_67 rfl rfl rfl).trans ?_
        refine (E_il c_143_23 rfl).trans ?_
        refine (E_ic (v := (6 : Int32)) c_143_24 (by decide)).trans ?_
        refine (E_imul c_143_26).trans ?_
        refine (E_il c_143_27 rfl).trans ?_
        refine (E_iadd c_143_28).trans ?_
        refine (E_ial c_143_29 sh_71).trans (ax_gd ?_)
        refine (E_goto (q := 34) c_143_30 rfl).trans ?_
        exact E_rI c_143_34 mi_143
      · refine (E_ic (v := (0 : Int32)) c_143_33 (by decide)).trans ?_
        exact E_rI c_143_34 mi_143
set_option maxHeartbeats 4000000 in
theorem u_146_66 (d : Nat) (σ : ax_S) (x1 : Int32) (x2 : Int32) : ev sO (d + 1) 146 0 [.ref 66, .int x1, .int x2, .null, .null, .null] [] σ = gd (0 ≤ x2.toInt ∧ x2.toInt < (11 : Nat)) (gd (0 ≤ ((2 : Int32) * x1).toInt ∧ ((2 : Int32) * x1).toInt < (11 : Nat)) ((cI sO d 142 [.int x1] (sI σ 74 ((2 : Int32) * x1).toNatClampNeg x2)).bind fun u0 => gd (0 ≤ ((2 : Int32) * x1).toInt ∧ ((2 : Int32) * x1).toInt < (11 : Nat)) (gd (0 ≤ ((2 : Int32) * x1).toInt ∧ ((2 : Int32) * x1).toInt < (11 : Nat)) (gd (0 ≤ x2.toInt ∧ x2.toInt < (11 : Nat)) ((cI sO d 142 [.int x1] (sI (sI (sI u0.2 75 ((2 : Int32) * x1).toNatClampNeg u0.1) 73 ((2 : Int32) * x1).toNatClampNeg (σ.1 73 x2.toNatClampNeg)) 73 x2.toNatClampNeg ((2 : Int32) * x1))).bind fun u1 => gd (0 ≤ u1.1.toInt ∧ u1.1.toInt < (11 : Nat)) (if (σ.1 73 x2.toNatClampNeg) = (-1000000 : Int32) then (if (σ.1 73 x2.toNatClampNeg) = (-1000000 : Int32) then (ev sO (d + 1) 146 104 [.ref 66, .int x1, .int x2, .int ((2 : Int32) * x1), .int (σ.1 73 x2.toNatClampNeg), .int ((sI u1.2 73 u1.1.toNatClampNeg ((2 : Int32) * x1)).1 66 8)] [] (sI u1.2 73 u1.1.toNatClampNeg ((2 : Int32) * x1))) else (gd (0 ≤ (σ.1 73 x2.toNatClampNeg).toInt ∧ (σ.1 73 x2.toNatClampNeg).toInt < (11 : Nat)) (ev sO (d + 1) 146 104 [.ref 66, .int x1, .int x2, .int ((2 : Int32) * x1), .int (σ.1 73 x2.toNatClampNeg), .int ((sI (sI u1.2 73 u1.1.toNatClampNeg ((2 : Int32) * x1)) 75 (σ.1 73 x2.toNatClampNeg).toNatClampNeg ((2 : Int32) * x1)).1 66 8)] [] (sI (sI u1.2 73 u1.1.toNatClampNeg ((2 : Int32) * x1)) 75 (σ.1 73 x2.toNatClampNeg).toNatClampNeg ((2 : Int32) * x1))))) else (gd (0 ≤ (σ.1 73 x2.toNatClampNeg).toInt ∧ (σ.1 73 x2.toNatClampNeg).toInt < (11 : Nat)) (if ((sI u1.2 73 u1.1.toNatClampNeg ((2 : Int32) * x1)).1 74 (σ.1 73 x2.toNatClampNeg).toNatClampNeg) = x2 then (gd (0 ≤ (σ.1 73 x2.toNatClampNeg).toInt ∧ (σ.1 73 x2.toNatClampNeg).toInt < (11 : Nat)) (ev sO (d + 1) 146 104 [.ref 66, .int x1, .int x2, .int ((2 : Int32) * x1), .int (σ.1 73 x2.toNatClampNeg), .int ((sI (sI u1.2 73 u1.1.toNatClampNeg ((2 : Int32) * x1)) 74 (σ.1 73 x2.toNatClampNeg).toNatClampNeg ((2 : Int32) * x1)).1 66 8)] [] (sI (sI u1.2 73 u1.1.toNatClampNeg ((2 : Int32) * x1)) 74 (σ.1 73 x2.toNatClampNeg).toNatClampNeg ((2 : Int32) * x1)))) else (if (σ.1 73 x2.toNatClampNeg) = (-1000000 : Int32) then (ev sO (d + 1) 146 104 [.ref 66, .int x1, .int x2, .int ((2 : Int32) * x1), .int (σ.1 73 x2.toNatClampNeg), .int ((sI u1.2 73 u1.1.toNatClampNeg ((2 : Int32) * x1)).1 66 8)] [] (sI u1.2 73 u1.1.toNatClampNeg ((2 : Int32) * x1))) else (gd (0 ≤ (σ.1 73 x2.toNatClampNeg).toInt ∧ (σ.1 73 x2.toNatClampNeg).toInt < (11 : Nat)) (ev sO (d + 1) 146 104 [.ref 66, .int x1, .int x2, .int ((2 : Int32) * x1), .int (σ.1 73 x2.toNatClampNeg), .int ((sI (sI u1.2 73 u1.1.toNatClampNeg ((2 : Int32) * x1)) 75 (σ.1 73 x2.toNatClampNeg).toNatClampNeg ((2 : Int32) * x1)).1 66 8)] [] (sI (sI u1.2 73 u1.1.toNatClampNeg ((2 : Int32) * x1)) 75 (σ.1 73 x2.toNatClampNeg).toNatClampNeg ((2 : Int32) * x1))))))))))))) := by
  refine (E_ic (v := (2 : Int32)) c_146_0 (by decide)).trans ?_
  refine (E_il c_146_1 rfl).trans ?_
  refine (E_imul c_146_2).trans ?_
  refine (E_is (L' := [.ref 66, .int x1, .int x2, .int ((2 : Int32) * x1), .null, .null]) c_146_3 (Nat.le_of_ble_eq_true rfl) rfl).trans ?_
  refine (E_al c_146_4 rfl (by decide)).trans ?_
  refine (E_gfr (k := 3) (r := 73) c_146_5 sh_66 rfl rfl rfl).trans ?_
  refine (E_il c_146_8 rfl).trans ?_
  refine (E_ial c_146_9 sh_73).trans (ax_gd ?_)
  refine (E_is (L' := [.ref 66, .int x1, .int x2, .int ((2 : Int32) * x1), .int (σ.1 73 x2.toNatClampNeg), .null]) c_146_10 (Nat.le_of_ble_eq_true rfl) rfl).trans ?_
  refine (E_al c_146_12 rfl (by decide)).trans ?_
  refine (E_gfr (k := 4) (r := 74) c_146_13 sh_66 rfl rfl rfl).trans ?_
  refine (E_il c_146_16 rfl).trans ?_
  refine (E_il c_146_17 rfl).trans ?_
  refine (E_ias (v := x2) c_146_18 sh_74 rfl).trans (ax_gd ?_)
  refine (E_al c_146_19 rfl (by decide)).trans ?_
  refine (E_gfr (k := 5) (r := 75) c_146_20 sh_66 rfl rfl rfl).trans ?_
  refine (E_il c_146_23 rfl).trans ?_
  refine (E_il c_146_24 rfl).trans ?_
  refine (E_cIS c_146_25 mi_142 rfl rfl (Nat.le_of_ble_eq_true rfl) (Nat.le_of_ble_eq_true rfl)).trans (ax_bnd fun u0 => ?_)
  refine (E_ias (v := u0.1) c_146_28 sh_75 rfl).trans (ax_gd ?_)
  refine (E_al c_146_29 rfl (by decide)).trans ?_
  refine (E_gfr (k := 3) (r := 73) c_146_30 sh_66 rfl rfl rfl).trans ?_
  refine (E_il c_146_33 rfl).trans ?_
  refine (E_il c_146_34 rfl).trans ?_
  refine (E_ias (v := (σ.1 73 x2.toNatClampNeg)) c_146_36 sh_73 rfl).trans (ax_gd ?_)
  refine (E_al c_146_37 rfl (by decide)).trans ?_
  refine (E_gfr (k := 3) (r := 73) c_146_38 sh_66 rfl rfl rfl).trans ?_
  refine (E_il c_146_41 rfl).trans ?_
  refine (E_il c_146_42 rfl).trans ?_
  refine (E_ias (v := ((2 : Int32) * x1)) c_146_43 sh_73 rfl).trans (ax_gd ?_)
  refine (E_al c_146_44 rfl (by decide)).trans ?_
  refine (E_gfr (k := 3) (r := 73) c_146_45 sh_66 rfl rfl rfl).trans ?_
  refine (E_il c_146_48 rfl).trans ?_
  refine (E_cIS c_146_49 mi_142 rfl rfl (Nat.le_of_ble_eq_true rfl) (Nat.le_of_ble_eq_true rfl)).trans (ax_bnd fun u1 => ?_)
  refine (E_il c_146_52 rfl).trans ?_
  refine (E_ias (v := ((2 : Int32) * x1)) c_146_53 sh_73 rfl).trans (ax_gd ?_)
  refine (E_il c_146_54 rfl).trans ?_
  refine (E_ic (v := (-1000000 : Int32)) c_146_56 (by decide)).trans ?_
  refine (E_br_eq (q := 83) c_146_58 rfl).trans (ax_ite ?_ ?_)
  · refine (E_il c_146_83 rfl).trans ?_
    refine (E_ic (v := (-1000000 : Int32)) c_146_85 (by decide)).trans ?_
    refine (E_br_eq (q := 98) c_146_87 rfl).trans (ax_ite ?_ ?_)
    · refine (E_al c_146_98 rfl (by decide)).trans ?_
      refine (E_gfi (k := 8) c_146_99 sh_66 rfl rfl rfl (by decide)).trans ?_
      refine (E_is (L' := [.ref 66, .int x1, .int x2, .int ((2 : Int32) * x1), .int (σ.1 73 x2.toNatClampNeg), .int ((sI u1.2 73 u1.1.toNatClampNeg ((2 : Int32) * x1)).1 66 8)]) c_146_102 (Nat.le_of_ble_eq_true rfl) rfl).trans ?_
      rfl
    · refine (E_al c_146_90 rfl (by decide)).trans ?_
      refine (E_gfr (k := 5) (r := 75) c_146_91 sh_66 rfl rfl rfl).trans ?_
      refine (E_il c_146_94 rfl).trans ?_
      refine (E_il c_146_96 rfl).trans ?_
      refine (E_ias (v := ((2 : Int32) * x1)) c_146_97 sh_75 rfl).trans (ax_gd ?_)
      refine (E_al c_146_98 rfl (by decide)).trans ?_
      refine (E_gfi (k := 8) c_146_99 sh_66 rfl rfl rfl (by decide)).trans ?_
      refine (E_is (L' := [.ref 66, .int x1, .int x2, .int ((2 : Int32) * x1), .int (σ.1 73 x2.toNatClampNeg), .int ((sI (sI u1.2 73 u1.1.toNatClampNeg ((2 : Int32) * x1)) 75 (σ.1 73 x2.toNatClampNeg).toNatClampNeg ((2 : Int32) * x1)).1 66 8)]) c_146_102 (Nat.le_of_ble_eq_true rfl) rfl).trans ?_
      rfl
  · refine (E_al c_146_61 rfl (by decide)).trans ?_
    refine (E_gfr (k := 4) (r := 74) c_146_62 sh_66 rfl rfl rfl).trans ?_
    refine (E_il c_146_65 rfl).trans ?_
    refine (E_ial c_146_67 sh_74).trans (ax_gd ?_)
    refine (E_il c_146_68 rfl).trans ?_
    refine (E_br_ne (q := 83) c_146_69 rfl).trans (ax_ite ?_ ?_)
    · refine (E_al c_146_72 rfl (by decide)).trans ?_
      refine (E_gfr (k := 4) (r := 74) c_146_73 sh_66 rfl rfl rfl).trans ?_
      refine (E_il c_146_76 rfl).trans ?_
      refine (E_il c_146_78 rfl).trans ?_
      refine (E_ias (v := ((2 : Int32) * x1)) c_146_79 sh_74 rfl).trans (ax_gd ?_)
      refine (E_goto (q := 98) c_146_80 rfl).trans ?_
      refine (E_al c_146_98 rfl (by decide)).trans ?_
      refine (E_gfi (k := 8) c_146_99 sh_66 rfl rfl rfl (by decide)).trans ?_
      refine (E_is (L' := [.ref 66, .int x1, .int x2, .int ((2 : Int32) * x1), .int (σ.1 73 x2.toNatClampNeg), .int ((sI (sI u1.2 73 u1.1.toNatClampNeg ((2 : Int32) * x1)) 74 (σ.1 73 x2.toNatClampNeg).toNatClampNeg ((2 : Int32) * x1)).1 66 8)]) c_146_102 (Nat.le_of_ble_eq_true rfl) rfl).trans ?_
      rfl
    · refine (E_il c_146_83 rfl).trans ?_
      refine (E_ic (v := (-1000000 : Int32)) c_146_85 (by decide)).trans ?_
      refine (E_br_eq (q := 98) c_146_87 rfl).trans (ax_ite ?_ ?_)
      · refine (E_al c_146_98 rfl (by decide)).trans ?_
        refine (E_gfi (k := 8) c_146_99 sh_66 rfl rfl rfl (by decide)).trans ?_
        refine (E_is (L' := [.ref 66, .int x1, .int x2, .int ((2 : Int32) * x1), .int (σ.1 73 x2.toNatClampNeg), .int ((sI u1.2 73 u1.1.toNatClampNeg ((2 : Int32) * x1)).1 66 8)]) c_146_102 (Nat.le_of_ble_eq_true rfl) rfl).trans ?_
        rfl
      · refine (E_al c_146_90 rfl (by decide)).trans ?_
        refine (E_gfr (k := 5) (r := 75) c_146_91 sh_66 rfl rfl rfl).trans ?_
        refine (E_il c_146_94 rfl).trans ?_
        refine (E_il c_146_96 rfl).trans ?_
        refine (E_ias (v := ((2 : Int32) * x1)) c_146_97 sh_75 rfl).trans (ax_gd ?_)
        refine (E_al c_146_98 rfl (by decide)).trans ?_
        refine (E_gfi (k := 8) c_146_99 sh_66 rfl rfl rfl (by decide)).trans ?_
        refine (E_is (L' := [.ref 66, .int x1, .int x2, .int ((2 : Int32) * x1), .int (σ.1 73 x2.toNatClampNeg), .int ((sI (sI u1.2 73 u1.1.toNatClampNeg ((2 : Int32) * x1)) 75 (σ.1 73 x2.toNatClampNeg).toNatClampNeg ((2 : Int32) * x1)).1 66 8)]) c_146_102 (Nat.le_of_ble_eq_true rfl) rfl).trans ?_
        rfl
set_option maxHeartbeats 4000000 in
theorem u_146_66p104 (d : Nat) (σ : ax_S) (w1 : Value) (hw1 : w1.category = 1) (x2 : Int32) (x3 : Int32) (w4 : Value) (hw4 : w4.category = 1) (x5 : Int32) : ev sO (d + 1) 146 104 [.ref 66, w1, .int x2, .int x3, w4, .int x5] [] σ = if 0 < x5 then (gd (0 ≤ (x5 - (1 : Int32)).toInt ∧ (x5 - (1 : Int32)).toInt < (6 : Nat)) (if (σ.1 77 (x5 - (1 : Int32)).toNatClampNeg) = x2 then (gd (0 ≤ x5.toInt ∧ x5.toInt < (6 : Nat)) (some (none, (sI (sI σ 77 x5.toNatClampNeg x3) 66 8 (((sI σ 77 x5.toNatClampNeg x3).1 66 8) + (1 : Int32)))))) else (gd (0 ≤ (x5 - (1 : Int32)).toInt ∧ (x5 - (1 : Int32)).toInt < (6 : Nat)) (gd (0 ≤ x5.toInt ∧ x5.toInt < (6 : Nat)) (ev sO (d + 1) 146 104 [.ref 66, w1, .int x2, .int x3, w4, .int (x5 + (-1 : Int32))] [] (sI σ 77 x5.toNatClampNeg (σ.1 77 (x5 - (1 : Int32)).toNatClampNeg))))))) else (gd (0 ≤ x5.toInt ∧ x5.toInt < (6 : Nat)) (some (none, (sI (sI σ 77 x5.toNatClampNeg x3) 66 8 (((sI σ 77 x5.toNatClampNeg x3).1 66 8) + (1 : Int32)))))) := by
  refine (E_il c_146_104 rfl).trans ?_
  refine (E_b0_le (q := 144) c_146_106 rfl).trans (ax_ite ?_ ?_)
  · refine (E_al c_146_109 rfl (by decide)).trans ?_
    refine (E_gfr (k := 7) (r := 77) c_146_110 sh_66 rfl rfl rfl).trans ?_
    refine (E_il c_146_113 rfl).trans ?_
    refine (E_ic (v := (1 : Int32)) c_146_115 (by decide)).trans ?_
    refine (E_isub c_146_116).trans ?_
    refine (E_ial c_146_117 sh_77).trans (ax_gd ?_)
    refine (E_il c_146_118 rfl).trans ?_
    refine (E_br_eq (q := 144) c_146_119 rfl).trans (ax_ite ?_ ?_)
    · refine (E_al c_146_144 rfl (by decide)).trans ?_
      refine (E_gfr (k := 7) (r := 77) c_146_145 sh_66 rfl rfl rfl).trans ?_
      refine (E_il c_146_148 rfl).trans ?_
      refine (E_il c_146_150 rfl).trans ?_
      refine (E_ias (v := x3) c_146_151 sh_77 rfl).trans (ax_gd ?_)
      refine (E_al c_146_152 rfl (by decide)).trans ?_
      refine (E_dup c_146_153 rfl).trans ?_
      refine (E_gfi (k := 8) c_146_154 sh_66 rfl rfl rfl (by decide)).trans ?_
      refine (E_ic (v := (1 : Int32)) c_146_157 (by decide)).trans ?_
      refine (E_iadd c_146_158).trans ?_
      refine (E_pfi (k := 8) c_146_159 sh_66 rfl rfl rfl).trans ?_
      exact E_rV c_146_162 mi_146
    · refine (E_al c_146_122 rfl (by decide)).trans ?_
      refine (E_gfr (k := 7) (r := 77) c_146_123 sh_66 rfl rfl rfl).trans ?_
      refine (E_il c_146_126 rfl).trans ?_
      refine (E_al c_146_128 rfl (by decide)).trans ?_
      refine (E_gfr (k := 7) (r := 77) c_146_129 sh_66 rfl rfl rfl).trans ?_
      refine (E_il c_146_132 rfl).trans ?_
      refine (E_ic (v := (1 : Int32)) c_146_134 (by decide)).trans ?_
      refine (E_isub c_146_135).trans ?_
      refine (E_ial c_146_136 sh_77).trans (ax_gd ?_)
      refine (E_ias (v := (σ.1 77 (x5 - (1 : Int32)).toNatClampNeg)) c_146_137 sh_77 rfl).trans (ax_gd ?_)
      refine (E_inc (v := (-1 : Int32)) (L' := [.ref 66, w1, .int x2, .int x3, w4, .int (x5 + (-1 : Int32))]) c_146_138 rfl (by decide) (by simp [ax_st1, ax_drp, hw4])).trans ?_
      refine (E_goto (q := 104) c_146_141 rfl).trans ?_
      rfl
  · refine (E_al c_146_144 rfl (by decide)).trans ?_
    refine (E_gfr (k := 7) (r := 77) c_146_145 sh_66 rfl rfl rfl).trans ?_
    refine (E_il c_146_148 rfl).trans ?_
    refine (E_il c_146_150 rfl).trans ?_
    refine (E_ias (v := x3) c_146_151 sh_77 rfl).trans (ax_gd ?_)
    refine (E_al c_146_152 rfl (by decide)).trans ?_
    refine (E_dup c_146_153 rfl).trans ?_
    refine (E_gfi (k := 8) c_146_154 sh_66 rfl rfl rfl (by decide)).trans ?_
    refine (E_ic (v := (1 : Int32)) c_146_157 (by decide)).trans ?_
    refine (E_iadd c_146_158).trans ?_
    refine (E_pfi (k := 8) c_146_159 sh_66 rfl rfl rfl).trans ?_
    exact E_rV c_146_162 mi_146
set_option maxHeartbeats 4000000 in
theorem u_149_66 (d : Nat) (σ : ax_S) : ev sO d 149 0 [.ref 66, .null, .null, .null, .null] [] σ = ev sO d 149 4 [.ref 66, .long (0 : Int64), .null, .int (0 : Int32), .null] [] σ := by
  refine (E_lc (v := (0 : Int64)) c_149_0 (by decide)).trans ?_
  refine (E_lss (L' := [.ref 66, .long (0 : Int64), .null, .null, .null]) c_149_1 (Nat.le_of_ble_eq_true rfl) rfl).trans ?_
  refine (E_ic (v := (0 : Int32)) c_149_2 (by decide)).trans ?_
  refine (E_is (L' := [.ref 66, .long (0 : Int64), .null, .int (0 : Int32), .null]) c_149_3 (Nat.le_of_ble_eq_true rfl) rfl).trans ?_
  rfl
set_option maxHeartbeats 4000000 in
theorem u_149_66p4 (d : Nat) (σ : ax_S) (x1 : Int64) (x3 : Int32) (w4 : Value) (hw4 : w4.category = 1) : ev sO d 149 4 [.ref 66, .long x1, .null, .int x3, w4] [] σ = if x3 < ((σ.1 66 8) - (1 : Int32)) then (gd (0 ≤ x3.toInt ∧ x3.toInt < (6 : Nat)) (gd (0 ≤ (σ.1 77 x3.toNatClampNeg).toInt ∧ (σ.1 77 x3.toNatClampNeg).toInt < (11 : Nat)) (gd (0 ≤ (σ.1 74 (σ.1 77 x3.toNatClampNeg).toNatClampNeg).toInt ∧ (σ.1 74 (σ.1 77 x3.toNatClampNeg).toNatClampNeg).toInt < (11 : Nat)) (gd (0 ≤ (σ.1 77 x3.toNatClampNeg).toInt ∧ (σ.1 77 x3.toNatClampNeg).toInt < (11 : Nat)) (gd (0 ≤ (σ.1 75 (σ.1 77 x3.toNatClampNeg).toNatClampNeg).toInt ∧ (σ.1 75 (σ.1 77 x3.toNatClampNeg).toNatClampNeg).toInt < (11 : Nat)) (gd (0 ≤ (σ.1 77 x3.toNatClampNeg).toInt ∧ (σ.1 77 x3.toNatClampNeg).toInt < (11 : Nat)) (gd (0 ≤ (σ.1 77 x3.toNatClampNeg).toInt ∧ (σ.1 77 x3.toNatClampNeg).toInt < (11 : Nat)) (ev sO d 149 4 [.ref 66, .long (x1 ||| ((1 : Int64) <<< (((sI σ 76 (σ.1 77 x3.toNatClampNeg).toNatClampNeg ((σ.1 76 (σ.1 74 (σ.1 77 x3.toNatClampNeg).toNatClampNeg).toNatClampNeg) ||| (σ.1 76 (σ.1 75 (σ.1 77 x3.toNatClampNeg).toNatClampNeg).toNatClampNeg))).1 76 (σ.1 77 x3.toNatClampNeg).toNatClampNeg).toInt64 &&& 63))), .null, .int (x3 + (1 : Int32)), .int (σ.1 77 x3.toNatClampNeg)] [] (sI σ 76 (σ.1 77 x3.toNatClampNeg).toNatClampNeg ((σ.1 76 (σ.1 74 (σ.1 77 x3.toNatClampNeg).toNatClampNeg).toNatClampNeg) ||| (σ.1 76 (σ.1 75 (σ.1 77 x3.toNatClampNeg).toNatClampNeg).toNatClampNeg))))))))))) else (some (some (.long x1), σ)) := by
  refine (E_il c_149_4 rfl).trans ?_
  refine (E_al c_149_5 rfl (by decide)).trans ?_
  refine (E_gfi (k := 8) c_149_6 sh_66 rfl rfl rfl (by decide)).trans ?_
  refine (E_ic (v := (1 : Int32)) c_149_9 (by decide)).trans ?_
  refine (E_isub c_149_10).trans ?_
  refine (E_br_ge (q := 72) c_149_11 rfl).trans (ax_ite ?_ ?_)
  · refine (E_al c_149_14 rfl (by decide)).trans ?_
    refine (E_gfr (k := 7) (r := 77) c_149_15 sh_66 rfl rfl rfl).trans ?_
    refine (E_il c_149_18 rfl).trans ?_
    refine (E_ial c_149_19 sh_77).trans (ax_gd ?_)
    refine (E_is (L' := [.ref 66, .long x1, .null, .int x3, .int (σ.1 77 x3.toNatClampNeg)]) c_149_20 (Nat.le_of_ble_eq_true rfl) rfl).trans ?_
    refine (E_al c_149_22 rfl (by decide)).trans ?_
    refine (E_gfr (k := 6) (r := 76) c_149_23 sh_66 rfl rfl rfl).trans ?_
    refine (E_il c_149_26 rfl).trans ?_
    refine (E_al c_149_28 rfl (by decide)).trans ?_
    refine (E_gfr (k := 6) (r := 76) c_149_29 sh_66 rfl rfl rfl).trans ?_
    refine (E_al c_149_32 rfl (by decide)).trans ?_
    refine (E_gfr (k := 4) (r := 74) c_149_33 sh_66 rfl rfl rfl).trans ?_
    refine (E_il c_149_36 rfl).trans ?_
    refine (E_ial c_149_38 sh_74).trans (ax_gd ?_)
    refine (E_ial c_149_39 sh_76).trans (ax_gd ?_)
    refine (E_al c_149_40 rfl (by decide)).trans ?_
    refine (E_gfr (k := 6) (r := 76) c_149_41 sh_66 rfl rfl rfl).trans ?_
    refine (E_al c_149_44 rfl (by decide)).trans ?_
    refine (E_gfr (k := 5) (r := 75) c_149_45 sh_66 rfl rfl rfl).trans ?_
    refine (E_il c_149_48 rfl).trans ?_
    refine (E_ial c_149_50 sh_75).trans (ax_gd ?_)
    refine (E_ial c_149_51 sh_76).trans (ax_gd ?_)
    refine (E_ior c_149_52).trans ?_
    refine (E_ias (v := ((σ.1 76 (σ.1 74 (σ.1 77 x3.toNatClampNeg).toNatClampNeg).toNatClampNeg) ||| (σ.1 76 (σ.1 75 (σ.1 77 x3.toNatClampNeg).toNatClampNeg).toNatClampNeg))) c_149_53 sh_76 rfl).trans (ax_gd ?_)
    refine (E_ll c_149_54 rfl).trans ?_
    refine (E_lc (v := (1 : Int64)) c_149_55 (by decide)).trans ?_
    refine (E_al c_149_56 rfl (by decide)).trans ?_
    refine (E_gfr (k := 6) (r := 76) c_149_57 sh_66 rfl rfl rfl).trans ?_
    refine (E_il c_149_60 rfl).trans ?_
    refine (E_ial c_149_62 sh_76).trans (ax_gd ?_)
    refine (E_lshl c_149_63).trans ?_
    refine (E_lor c_149_64).trans ?_
    refine (E_lss (L' := [.ref 66, .long (x1 ||| ((1 : Int64) <<< (((sI σ 76 (σ.1 77 x3.toNatClampNeg).toNatClampNeg ((σ.1 76 (σ.1 74 (σ.1 77 x3.toNatClampNeg).toNatClampNeg).toNatClampNeg) ||| (σ.1 76 (σ.1 75 (σ.1 77 x3.toNatClampNeg).toNatClampNeg).toNatClampNeg))).1 76 (σ.1 77 x3.toNatClampNeg).toNatClampNeg).toInt64 &&& 63))), .null, .int x3, .int (σ.1 77 x3.toNatClampNeg)]) c_149_65 (Nat.le_of_ble_eq_true rfl) rfl).trans ?_
    refine (E_inc (v := (1 : Int32)) (L' := [.ref 66, .long (x1 ||| ((1 : Int64) <<< (((sI σ 76 (σ.1 77 x3.toNatClampNeg).toNatClampNeg ((σ.1 76 (σ.1 74 (σ.1 77 x3.toNatClampNeg).toNatClampNeg).toNatClampNeg) ||| (σ.1 76 (σ.1 75 (σ.1 77 x3.toNatClampNeg).toNatClampNeg).toNatClampNeg))).1 76 (σ.1 77 x3.toNatClampNeg).toNatClampNeg).toInt64 &&& 63))), .null, .int (x3 + (1 : Int32)), .int (σ.1 77 x3.toNatClampNeg)]) c_149_66 rfl (by decide) rfl).trans ?_
    refine (E_goto (q := 4) c_149_69 rfl).trans ?_
    rfl
  · refine (E_ll c_149_72 rfl).trans ?_
    exact E_rL c_149_73 mi_149
set_option maxHeartbeats 4000000 in
theorem u_187_80 (d : Nat) (σ : ax_S) (x1 : Int32) : ev sO d 187 0 [.ref 80, .int x1] [] σ = if (σ.1 80 1) < (16 : Int32) then (gd (0 ≤ (σ.1 80 1).toInt ∧ (σ.1 80 1).toInt < (16 : Nat)) (some (none, (sI (sI σ 81 (σ.1 80 1).toNatClampNeg x1) 80 1 (((sI σ 81 (σ.1 80 1).toNatClampNeg x1).1 80 1) + (1 : Int32)))))) else (some (none, σ)) := by
  refine (E_al c_187_0 rfl (by decide)).trans ?_
  refine (E_gfi (k := 1) c_187_1 sh_80 rfl rfl rfl (by decide)).trans ?_
  refine (E_ic (v := (16 : Int32)) c_187_4 (by decide)).trans ?_
  refine (E_br_ge (q := 29) c_187_6 rfl).trans (ax_ite ?_ ?_)
  · refine (E_al c_187_9 rfl (by decide)).trans ?_
    refine (E_gfr (k := 0) (r := 81) c_187_10 sh_80 rfl rfl rfl).trans ?_
    refine (E_al c_187_13 rfl (by decide)).trans ?_
    refine (E_gfi (k := 1) c_187_14 sh_80 rfl rfl rfl (by decide)).trans ?_
    refine (E_il c_187_17 rfl).trans ?_
    refine (E_ias (v := x1) c_187_18 sh_81 rfl).trans (ax_gd ?_)
    refine (E_al c_187_19 rfl (by decide)).trans ?_
    refine (E_dup c_187_20 rfl).trans ?_
    refine (E_gfi (k := 1) c_187_21 sh_80 rfl rfl rfl (by decide)).trans ?_
    refine (E_ic (v := (1 : Int32)) c_187_24 (by decide)).trans ?_
    refine (E_iadd c_187_25).trans ?_
    refine (E_pfi (k := 1) c_187_26 sh_80 rfl rfl rfl).trans ?_
    exact E_rV c_187_29 mi_187
  · exact E_rV c_187_29 mi_187
set_option maxHeartbeats 4000000 in
theorem u_35 (d : Nat) (σ : ax_S) (x0 : Int32) : ev sO d 35 0 [.int x0] [] σ = if x0 = (32 : Int32) then (some (some (.int (1 : Int32)), σ)) else (if x0 = (10 : Int32) then (some (some (.int (1 : Int32)), σ)) else (some (some (.int (0 : Int32)), σ))) := by
  refine (E_il c_35_0 rfl).trans ?_
  refine (E_ic (v := (32 : Int32)) c_35_1 (by decide)).trans ?_
  refine (E_br_eq (q := 12) c_35_3 rfl).trans (ax_ite ?_ ?_)
  · refine (E_ic (v := (1 : Int32)) c_35_12 (by decide)).trans ?_
    refine (E_goto (q := 17) c_35_13 rfl).trans ?_
    exact E_rZ (v := (1 : Int32)) c_35_17 mi_35 (by decide)
  · refine (E_il c_35_6 rfl).trans ?_
    refine (E_ic (v := (10 : Int32)) c_35_7 (by decide)).trans ?_
    refine (E_br_ne (q := 16) c_35_9 rfl).trans (ax_ite ?_ ?_)
    · refine (E_ic (v := (1 : Int32)) c_35_12 (by decide)).trans ?_
      refine (E_goto (q := 17) c_35_13 rfl).trans ?_
      exact E_rZ (v := (1 : Int32)) c_35_17 mi_35 (by decide)
    · refine (E_ic (v := (0 : Int32)) c_35_16 (by decide)).trans ?_
      exact E_rZ (v := (0 : Int32)) c_35_17 mi_35 (by decide)
set_option maxHeartbeats 4000000 in
theorem u_36 (d : Nat) (σ : ax_S) (x0 : Int32) : ev sO d 36 0 [.int x0] [] σ = if x0 < (97 : Int32) then (some (some (.int (0 : Int32)), σ)) else (if (122 : Int32) < x0 then (some (some (.int (0 : Int32)), σ)) else (some (some (.int (1 : Int32)), σ))) := by
  refine (E_il c_36_0 rfl).trans ?_
  refine (E_ic (v := (97 : Int32)) c_36_1 (by decide)).trans ?_
  refine (E_br_lt (q := 16) c_36_3 rfl).trans (ax_ite ?_ ?_)
  · refine (E_ic (v := (0 : Int32)) c_36_16 (by decide)).trans ?_
    exact E_rZ (v := (0 : Int32)) c_36_17 mi_36 (by decide)
  · refine (E_il c_36_6 rfl).trans ?_
    refine (E_ic (v := (122 : Int32)) c_36_7 (by decide)).trans ?_
    refine (E_br_gt (q := 16) c_36_9 rfl).trans (ax_ite ?_ ?_)
    · refine (E_ic (v := (0 : Int32)) c_36_16 (by decide)).trans ?_
      exact E_rZ (v := (0 : Int32)) c_36_17 mi_36 (by decide)
    · refine (E_ic (v := (1 : Int32)) c_36_12 (by decide)).trans ?_
      refine (E_goto (q := 17) c_36_13 rfl).trans ?_
      exact E_rZ (v := (1 : Int32)) c_36_17 mi_36 (by decide)
set_option maxHeartbeats 4000000 in
theorem u_37 (d : Nat) (σ : ax_S) (x0 : Int32) : ev sO d 37 0 [.int x0] [] σ = if x0 < (48 : Int32) then (some (some (.int (0 : Int32)), σ)) else (if (57 : Int32) < x0 then (some (some (.int (0 : Int32)), σ)) else (some (some (.int (1 : Int32)), σ))) := by
  refine (E_il c_37_0 rfl).trans ?_
  refine (E_ic (v := (48 : Int32)) c_37_1 (by decide)).trans ?_
  refine (E_br_lt (q := 16) c_37_3 rfl).trans (ax_ite ?_ ?_)
  · refine (E_ic (v := (0 : Int32)) c_37_16 (by decide)).trans ?_
    exact E_rZ (v := (0 : Int32)) c_37_17 mi_37 (by decide)
  · refine (E_il c_37_6 rfl).trans ?_
    refine (E_ic (v := (57 : Int32)) c_37_7 (by decide)).trans ?_
    refine (E_br_gt (q := 16) c_37_9 rfl).trans (ax_ite ?_ ?_)
    · refine (E_ic (v := (0 : Int32)) c_37_16 (by decide)).trans ?_
      exact E_rZ (v := (0 : Int32)) c_37_17 mi_37 (by decide)
    · refine (E_ic (v := (1 : Int32)) c_37_12 (by decide)).trans ?_
      refine (E_goto (q := 17) c_37_13 rfl).trans ?_
      exact E_rZ (v := (1 : Int32)) c_37_17 mi_37 (by decide)
set_option maxHeartbeats 4000000 in
theorem u_40_1001 (d : Nat) (σ : ax_S) : ev sO d 40 0 [.ref 1001] [] σ = some (some (.int (0 : Int32)), σ) := by
  refine (E_gs2 c_40_0).trans ?_
  refine (E_b0_eq (q := 13) c_40_3 rfl).trans ?_
  refine (if_neg (by decide)).trans ?_
  refine (E_al c_40_6 rfl (by decide)).trans ?_
  refine (E_gfs1 c_40_7 (by decide)).trans ?_
  refine (E_goto (q := 14) c_40_10 rfl).trans ?_
  exact E_rB (v := (0 : Int32)) c_40_14 mi_40 (by decide)
set_option maxHeartbeats 4000000 in
theorem u_42_1001 (d : Nat) (σ : ax_S) : ev sO d 42 0 [.ref 1001] [] σ = some (some (.int (1 : Int32)), σ) := by
  refine (E_gs2 c_42_0).trans ?_
  refine (E_b0_eq (q := 17) c_42_3 rfl).trans ?_
  refine (if_neg (by decide)).trans ?_
  refine (E_al c_42_6 rfl (by decide)).trans ?_
  refine (E_gfs1 c_42_7 (by decide)).trans ?_
  refine (E_b0_ne (q := 17) c_42_10 rfl).trans ?_
  refine (if_pos (by decide)).trans ?_
  refine (E_ic (v := (1 : Int32)) c_42_13 (by decide)).trans ?_
  refine (E_goto (q := 18) c_42_14 rfl).trans ?_
  exact E_rZ (v := (1 : Int32)) c_42_18 mi_42 (by decide)
set_option maxHeartbeats 4000000 in
theorem u_43_1101 (d : Nat) (σ : ax_S) (x1 : Int32) : ev sO (d + 2) 43 0 [.ref 1101, .int x1] [] σ = (cV sO (d + 1) 44 [.int x1, .int (7 : Int32)] σ).bind fun u0 => gd (0 ≤ x1.toInt ∧ x1.toInt < ([109, 101, 97, 115, 117, 114, 101] : List Int32).length) (some (some (.int ((((([109, 101, 97, 115, 117, 114, 101] : List Int32).getD x1.toNatClampNeg 0) &&& (255 : Int32)).toUInt32 % 65536).toInt32).toUInt32.toUInt16.toUInt32.toInt32), u0)) := by
  refine (E_il c_43_0 rfl).trans ?_
  refine (E_al c_43_1 rfl (by decide)).trans ?_
  refine (E_alns (v := (7 : Int32)) c_43_2 (by decide) (by decide)).trans ?_
  refine (E_cVS c_43_3 mi_44 rfl (Nat.le_of_ble_eq_true rfl) (Nat.le_of_ble_eq_true rfl)).trans (ax_bnd fun u0 => ?_)
  refine (E_al c_43_6 rfl (by decide)).trans ?_
  refine (E_il c_43_7 rfl).trans ?_
  refine (E_bals (t := [109, 101, 97, 115, 117, 114, 101]) c_43_8 (by decide) (by decide +kernel)).trans (ax_gd ?_)
  refine (E_ic (v := (255 : Int32)) c_43_9 (by decide)).trans ?_
  refine (E_iand c_43_12).trans ?_
  refine (E_i2c c_43_13).trans ?_
  exact E_rC (v := ((((([109, 101, 97, 115, 117, 114, 101] : List Int32).getD x1.toNatClampNeg 0) &&& (255 : Int32)).toUInt32 % 65536).toInt32).toUInt32.toUInt16.toUInt32.toInt32) c_43_14 mi_43 rfl
set_option maxHeartbeats 4000000 in
theorem u_38_5_1003 (d : Nat) (σ : ax_S) : ev sO (d + 4) 38 0 [.ref 5, .ref 1003, .null] [] σ = if (σ.1 5 5) = (1 : Int32) then ((cI sO (d + 3) 39 [.ref 1003] σ).bind fun u0 => if u0.1 = ((u0.2.1 5 7) - (u0.2.1 5 6)) then (ev sO (d + 4) 38 28 [.ref 5, .ref 1003, .int (0 : Int32)] [] u0.2) else (some (some (.int (0 : Int32)), u0.2))) else (some (some (.int (0 : Int32)), σ)) := by
  refine (E_al c_38_0 rfl (by decide)).trans ?_
  refine (E_gfi (k := 5) c_38_1 sh_5 rfl rfl rfl (by decide)).trans ?_
  refine (E_ic (v := (1 : Int32)) c_38_4 (by decide)).trans ?_
  refine (E_br_ne (q := 24) c_38_5 rfl).trans (ax_ite ?_ ?_)
  · refine (E_al c_38_8 rfl (by decide)).trans ?_
    refine (E_cIV c_38_9 mi_39 rfl rfl (sO_kls (by decide)) (Nat.le_of_ble_eq_true rfl) (Nat.le_of_ble_eq_true rfl)).trans (ax_bnd fun u0 => ?_)
    refine (E_al c_38_12 rfl (by decide)).trans ?_
    refine (E_gfi (k := 7) c_38_13 sh_5 rfl rfl rfl (by decide)).trans ?_
    refine (E_al c_38_16 rfl (by decide)).trans ?_
    refine (E_gfi (k := 6) c_38_17 sh_5 rfl rfl rfl (by decide)).trans ?_
    refine (E_isub c_38_20).trans ?_
    refine (E_br_eq (q := 26) c_38_21 rfl).trans (ax_ite ?_ ?_)
    · refine (E_ic (v := (0 : Int32)) c_38_26 (by decide)).trans ?_
      refine (E_is (L' := [.ref 5, .ref 1003, .int (0 : Int32)]) c_38_27 (Nat.le_of_ble_eq_true rfl) rfl).trans ?_
      rfl
    · refine (E_ic (v := (0 : Int32)) c_38_24 (by decide)).trans ?_
      exact E_rZ (v := (0 : Int32)) c_38_25 mi_38 (by decide)
  · refine (E_ic (v := (0 : Int32)) c_38_24 (by decide)).trans ?_
    exact E_rZ (v := (0 : Int32)) c_38_25 mi_38 (by decide)
set_option maxHeartbeats 4000000 in
theorem u_38_5_1003p28 (d : Nat) (σ : ax_S) (x2 : Int32) : ev sO (d + 4) 38 28 [.ref 5, .ref 1003, .int x2] [] σ = (cI sO (d + 3) 39 [.ref 1003] σ).bind fun u0 => if x2 < u0.1 then ((cI sO (d + 3) 34 [.ref 5, .int ((u0.2.1 5 6) + x2)] u0.2).bind fun u1 => (cI sO (d + 3) 41 [.ref 1003, .int x2] u1.2).bind fun u2 => if u1.1 = u2.1 then (ev sO (d + 4) 38 28 [.ref 5, .ref 1003, .int (x2 + (1 : Int32))] [] u2.2) else (some (some (.int (0 : Int32)), u2.2))) else (some (some (.int (1 : Int32)), u0.2)) := by
  refine (E_il c_38_28 rfl).trans ?_
  refine (E_al c_38_29 rfl (by decide)).trans ?_
  refine (E_cIV c_38_30 mi_39 rfl rfl (sO_kls (by decide)) (Nat.le_of_ble_eq_true rfl) (Nat.le_of_ble_eq_true rfl)).trans (ax_bnd fun u0 => ?_)
  refine (E_br_ge (q := 62) c_38_33 rfl).trans (ax_ite ?_ ?_)
  · refine (E_al c_38_36 rfl (by decide)).trans ?_
    refine (E_al c_38_37 rfl (by decide)).trans ?_
    refine (E_gfi (k := 6) c_38_38 sh_5 rfl rfl rfl (by decide)).trans ?_
    refine (E_il c_38_41 rfl).trans ?_
    refine (E_iadd c_38_42).trans ?_
    refine (E_cIV c_38_43 mi_34 rfl rfl (sO_kl sh_5) (Nat.le_of_ble_eq_true rfl) (Nat.le_of_ble_eq_true rfl)).trans (ax_bnd fun u1 => ?_)
    refine (E_al c_38_46 rfl (by decide)).trans ?_
    refine (E_il c_38_47 rfl).trans ?_
    refine (E_cIV c_38_48 mi_41 rfl rfl (sO_kls (by decide)) (Nat.le_of_ble_eq_true rfl) (Nat.le_of_ble_eq_true rfl)).trans (ax_bnd fun u2 => ?_)
    refine (E_br_eq (q := 56) c_38_51 rfl).trans (ax_ite ?_ ?_)
    · refine (E_inc (v := (1 : Int32)) (L' := [.ref 5, .ref 1003, .int (x2 + (1 : Int32))]) c_38_56 rfl (by decide) rfl).trans ?_
      refine (E_goto (q := 28) c_38_59 rfl).trans ?_
      rfl
    · refine (E_ic (v := (0 : Int32)) c_38_54 (by decide)).trans ?_
      exact E_rZ (v := (0 : Int32)) c_38_55 mi_38 (by decide)
  · refine (E_ic (v := (1 : Int32)) c_38_62 (by decide)).trans ?_
    exact E_rZ (v := (1 : Int32)) c_38_63 mi_38 (by decide)
set_option maxHeartbeats 4000000 in
theorem u_40_1002 (d : Nat) (σ : ax_S) : ev sO d 40 0 [.ref 1002] [] σ = some (some (.int (0 : Int32)), σ) := by
  refine (E_gs2 c_40_0).trans ?_
  refine (E_b0_eq (q := 13) c_40_3 rfl).trans ?_
  refine (if_neg (by decide)).trans ?_
  refine (E_al c_40_6 rfl (by decide)).trans ?_
  refine (E_gfs1 c_40_7 (by decide)).trans ?_
  refine (E_goto (q := 14) c_40_10 rfl).trans ?_
  exact E_rB (v := (0 : Int32)) c_40_14 mi_40 (by decide)
set_option maxHeartbeats 4000000 in
theorem u_42_1002 (d : Nat) (σ : ax_S) : ev sO d 42 0 [.ref 1002] [] σ = some (some (.int (1 : Int32)), σ) := by
  refine (E_gs2 c_42_0).trans ?_
  refine (E_b0_eq (q := 17) c_42_3 rfl).trans ?_
  refine (if_neg (by decide)).trans ?_
  refine (E_al c_42_6 rfl (by decide)).trans ?_
  refine (E_gfs1 c_42_7 (by decide)).trans ?_
  refine (E_b0_ne (q := 17) c_42_10 rfl).trans ?_
  refine (if_pos (by decide)).trans ?_
  refine (E_ic (v := (1 : Int32)) c_42_13 (by decide)).trans ?_
  refine (E_goto (q := 18) c_42_14 rfl).trans ?_
  exact E_rZ (v := (1 : Int32)) c_42_18 mi_42 (by decide)
set_option maxHeartbeats 4000000 in
theorem u_43_1102 (d : Nat) (σ : ax_S) (x1 : Int32) : ev sO (d + 2) 43 0 [.ref 1102, .int x1] [] σ = (cV sO (d + 1) 44 [.int x1, .int (6 : Int32)] σ).bind fun u0 => gd (0 ≤ x1.toInt ∧ x1.toInt < ([112, 97, 99, 107, 101, 116] : List Int32).length) (some (some (.int ((((([112, 97, 99, 107, 101, 116] : List Int32).getD x1.toNatClampNeg 0) &&& (255 : Int32)).toUInt32 % 65536).toInt32).toUInt32.toUInt16.toUInt32.toInt32), u0)) := by
  refine (E_il c_43_0 rfl).trans ?_
  refine (E_al c_43_1 rfl (by decide)).trans ?_
  refine (E_alns (v := (6 : Int32)) c_43_2 (by decide) (by decide)).trans ?_
  refine (E_cVS c_43_3 mi_44 rfl (Nat.le_of_ble_eq_true rfl) (Nat.le_of_ble_eq_true rfl)).trans (ax_bnd fun u0 => ?_)
  refine (E_al c_43_6 rfl (by decide)).trans ?_
  refine (E_il c_43_7 rfl).trans ?_
  refine (E_bals (t := [112, 97, 99, 107, 101, 116]) c_43_8 (by decide) (by decide +kernel)).trans (ax_gd ?_)
  refine (E_ic (v := (255 : Int32)) c_43_9 (by decide)).trans ?_
  refine (E_iand c_43_12).trans ?_
  refine (E_i2c c_43_13).trans ?_
  exact E_rC (v := ((((([112, 97, 99, 107, 101, 116] : List Int32).getD x1.toNatClampNeg 0) &&& (255 : Int32)).toUInt32 % 65536).toInt32).toUInt32.toUInt16.toUInt32.toInt32) c_43_14 mi_43 rfl
set_option maxHeartbeats 4000000 in
theorem u_39_1004 (d : Nat) (σ : ax_S) : ev sO (d + 1) 39 0 [.ref 1004] [] σ = (cI sO d 40 [.ref 1004] σ).bind fun u0 => some (some (.int ((4 : Int32) >>> (u0.1 &&& 31))), u0.2) := by
  refine (E_al c_39_0 rfl (by decide)).trans ?_
  refine (E_gfs0 (b := 1104) c_39_1 (by decide) rfl).trans ?_
  refine (E_alns (v := (4 : Int32)) c_39_4 (by decide) (by decide)).trans ?_
  refine (E_al c_39_5 rfl (by decide)).trans ?_
  refine (E_cIV c_39_6 mi_40 rfl rfl (sO_kls (by decide)) (Nat.le_of_ble_eq_true rfl) (Nat.le_of_ble_eq_true rfl)).trans (ax_bnd fun u0 => ?_)
  refine (E_ishr c_39_9).trans ?_
  exact E_rI c_39_10 mi_39
set_option maxHeartbeats 4000000 in
theorem u_41_1004 (d : Nat) (σ : ax_S) (x1 : Int32) : ev sO (d + 3) 41 0 [.ref 1004, .int x1] [] σ = (cI sO (d + 2) 42 [.ref 1004] σ).bind fun u0 => if u0.1 = 0 then (ev sO (d + 3) 41 21 [.ref 1004, .int x1] [.int x1, .ref 1104] u0.2) else ((cI sO (d + 2) 43 [.ref 1104, .int x1] u0.2).bind fun u1 => some (some (.int u1.1.toUInt32.toUInt16.toUInt32.toInt32), u1.2)) := by
  refine (E_al c_41_0 rfl (by decide)).trans ?_
  refine (E_cIV c_41_1 mi_42 rfl rfl (sO_kls (by decide)) (Nat.le_of_ble_eq_true rfl) (Nat.le_of_ble_eq_true rfl)).trans (ax_bnd fun u0 => ?_)
  refine (E_b0_eq (q := 16) c_41_4 rfl).trans (ax_ite ?_ ?_)
  · refine (E_al c_41_16 rfl (by decide)).trans ?_
    refine (E_gfs0 (b := 1104) c_41_17 (by decide) rfl).trans ?_
    refine (E_il c_41_20 rfl).trans ?_
    rfl
  · refine (E_al c_41_7 rfl (by decide)).trans ?_
    refine (E_gfs0 (b := 1104) c_41_8 (by decide) rfl).trans ?_
    refine (E_il c_41_11 rfl).trans ?_
    refine (E_cIS c_41_12 mi_43 rfl rfl (Nat.le_of_ble_eq_true rfl) (Nat.le_of_ble_eq_true rfl)).trans (ax_bnd fun u1 => ?_)
    exact E_rC (v := u1.1.toUInt32.toUInt16.toUInt32.toInt32) c_41_15 mi_41 rfl
set_option maxHeartbeats 4000000 in
theorem u_52_5 (d : Nat) (σ : ax_S) : ev sO (d + 1) 52 0 [.ref 5, .null, .null] [] σ = ev sO (d + 1) 52 7 [.ref 5, .int (0 : Int32), .int (σ.1 5 6)] [] σ := by
  refine (E_ic (v := (0 : Int32)) c_52_0 (by decide)).trans ?_
  refine (E_is (L' := [.ref 5, .int (0 : Int32), .null]) c_52_1 (Nat.le_of_ble_eq_true rfl) rfl).trans ?_
  refine (E_al c_52_2 rfl (by decide)).trans ?_
  refine (E_gfi (k := 6) c_52_3 sh_5 rfl rfl rfl (by decide)).trans ?_
  refine (E_is (L' := [.ref 5, .int (0 : Int32), .int (σ.1 5 6)]) c_52_6 (Nat.le_of_ble_eq_true rfl) rfl).trans ?_
  rfl
set_option maxHeartbeats 4000000 in
theorem u_52_5p7 (d : Nat) (σ : ax_S) (x1 : Int32) (x2 : Int32) : ev sO (d + 1) 52 7 [.ref 5, .int x1, .int x2] [] σ = if x2 < (σ.1 5 7) then ((cI sO d 34 [.ref 5, .int x2] σ).bind fun u0 => ev sO (d + 1) 52 7 [.ref 5, .int ((x1 * (10 : Int32)) + (u0.1 - (48 : Int32))), .int (x2 + (1 : Int32))] [] u0.2) else (some (some (.int x1), σ)) := by
  refine (E_il c_52_7 rfl).trans ?_
  refine (E_al c_52_8 rfl (by decide)).trans ?_
  refine (E_gfi (k := 7) c_52_9 sh_5 rfl rfl rfl (by decide)).trans ?_
  refine (E_br_ge (q := 35) c_52_12 rfl).trans (ax_ite ?_ ?_)
  · refine (E_il c_52_15 rfl).trans ?_
    refine (E_ic (v := (10 : Int32)) c_52_16 (by decide)).trans ?_
    refine (E_imul c_52_18).trans ?_
    refine (E_al c_52_19 rfl (by decide)).trans ?_
    refine (E_il c_52_20 rfl).trans ?_
    refine (E_cIV c_52_21 mi_34 rfl rfl (sO_kl sh_5) (Nat.le_of_ble_eq_true rfl) (Nat.le_of_ble_eq_true rfl)).trans (ax_bnd fun u0 => ?_)
    refine (E_ic (v := (48 : Int32)) c_52_24 (by decide)).trans ?_
    refine (E_isub c_52_26).trans ?_
    refine (E_iadd c_52_27).trans ?_
    refine (E_is (L' := [.ref 5, .int ((x1 * (10 : Int32)) + (u0.1 - (48 : Int32))), .int x2]) c_52_28 (Nat.le_of_ble_eq_true rfl) rfl).trans ?_
    refine (E_inc (v := (1 : Int32)) (L' := [.ref 5, .int ((x1 * (10 : Int32)) + (u0.1 - (48 : Int32))), .int (x2 + (1 : Int32))]) c_52_29 rfl (by decide) rfl).trans ?_
    refine (E_goto (q := 7) c_52_32 rfl).trans ?_
    rfl
  · refine (E_il c_52_35 rfl).trans ?_
    exact E_rI c_52_36 mi_52
set_option maxHeartbeats 4000000 in
theorem u_39_1005 (d : Nat) (σ : ax_S) : ev sO (d + 1) 39 0 [.ref 1005] [] σ = (cI sO d 40 [.ref 1005] σ).bind fun u0 => some (some (.int ((3 : Int32) >>> (u0.1 &&& 31))), u0.2) := by
  refine (E_al c_39_0 rfl (by decide)).trans ?_
  refine (E_gfs0 (b := 1105) c_39_1 (by decide) rfl).trans ?_
  refine (E_alns (v := (3 : Int32)) c_39_4 (by decide) (by decide)).trans ?_
  refine (E_al c_39_5 rfl (by decide)).trans ?_
  refine (E_cIV c_39_6 mi_40 rfl rfl (sO_kls (by decide)) (Nat.le_of_ble_eq_true rfl) (Nat.le_of_ble_eq_true rfl)).trans (ax_bnd fun u0 => ?_)
  refine (E_ishr c_39_9).trans ?_
  exact E_rI c_39_10 mi_39
set_option maxHeartbeats 4000000 in
theorem u_41_1005 (d : Nat) (σ : ax_S) (x1 : Int32) : ev sO (d + 3) 41 0 [.ref 1005, .int x1] [] σ = (cI sO (d + 2) 42 [.ref 1005] σ).bind fun u0 => if u0.1 = 0 then (ev sO (d + 3) 41 21 [.ref 1005, .int x1] [.int x1, .ref 1105] u0.2) else ((cI sO (d + 2) 43 [.ref 1105, .int x1] u0.2).bind fun u1 => some (some (.int u1.1.toUInt32.toUInt16.toUInt32.toInt32), u1.2)) := by
  refine (E_al c_41_0 rfl (by decide)).trans ?_
  refine (E_cIV c_41_1 mi_42 rfl rfl (sO_kls (by decide)) (Nat.le_of_ble_eq_true rfl) (Nat.le_of_ble_eq_true rfl)).trans (ax_bnd fun u0 => ?_)
  refine (E_b0_eq (q := 16) c_41_4 rfl).trans (ax_ite ?_ ?_)
  · refine (E_al c_41_16 rfl (by decide)).trans ?_
    refine (E_gfs0 (b := 1105) c_41_17 (by decide) rfl).trans ?_
    refine (E_il c_41_20 rfl).trans ?_
    rfl
  · refine (E_al c_41_7 rfl (by decide)).trans ?_
    refine (E_gfs0 (b := 1105) c_41_8 (by decide) rfl).trans ?_
    refine (E_il c_41_11 rfl).trans ?_
    refine (E_cIS c_41_12 mi_43 rfl rfl (Nat.le_of_ble_eq_true rfl) (Nat.le_of_ble_eq_true rfl)).trans (ax_bnd fun u1 => ?_)
    exact E_rC (v := u1.1.toUInt32.toUInt16.toUInt32.toInt32) c_41_15 mi_41 rfl
set_option maxHeartbeats 4000000 in
theorem u_39_1006 (d : Nat) (σ : ax_S) : ev sO (d + 1) 39 0 [.ref 1006] [] σ = (cI sO d 40 [.ref 1006] σ).bind fun u0 => some (some (.int ((4 : Int32) >>> (u0.1 &&& 31))), u0.2) := by
  refine (E_al c_39_0 rfl (by decide)).trans ?_
  refine (E_gfs0 (b := 1106) c_39_1 (by decide) rfl).trans ?_
  refine (E_alns (v := (4 : Int32)) c_39_4 (by decide) (by decide)).trans ?_
  refine (E_al c_39_5 rfl (by decide)).trans ?_
  refine (E_cIV c_39_6 mi_40 rfl rfl (sO_kls (by decide)) (Nat.le_of_ble_eq_true rfl) (Nat.le_of_ble_eq_true rfl)).trans (ax_bnd fun u0 => ?_)
  refine (E_ishr c_39_9).trans ?_
  exact E_rI c_39_10 mi_39
set_option maxHeartbeats 4000000 in
theorem u_41_1006 (d : Nat) (σ : ax_S) (x1 : Int32) : ev sO (d + 3) 41 0 [.ref 1006, .int x1] [] σ = (cI sO (d + 2) 42 [.ref 1006] σ).bind fun u0 => if u0.1 = 0 then (ev sO (d + 3) 41 21 [.ref 1006, .int x1] [.int x1, .ref 1106] u0.2) else ((cI sO (d + 2) 43 [.ref 1106, .int x1] u0.2).bind fun u1 => some (some (.int u1.1.toUInt32.toUInt16.toUInt32.toInt32), u1.2)) := by
  refine (E_al c_41_0 rfl (by decide)).trans ?_
  refine (E_cIV c_41_1 mi_42 rfl rfl (sO_kls (by decide)) (Nat.le_of_ble_eq_true rfl) (Nat.le_of_ble_eq_true rfl)).trans (ax_bnd fun u0 => ?_)
  refine (E_b0_eq (q := 16) c_41_4 rfl).trans (ax_ite ?_ ?_)
  · refine (E_al c_41_16 rfl (by decide)).trans ?_
    refine (E_gfs0 (b := 1106) c_41_17 (by decide) rfl).trans ?_
    refine (E_il c_41_20 rfl).trans ?_
    rfl
  · refine (E_al c_41_7 rfl (by decide)).trans ?_
    refine (E_gfs0 (b := 1106) c_41_8 (by decide) rfl).trans ?_
    refine (E_il c_41_11 rfl).trans ?_
    refine (E_cIS c_41_12 mi_43 rfl rfl (Nat.le_of_ble_eq_true rfl) (Nat.le_of_ble_eq_true rfl)).trans (ax_bnd fun u1 => ?_)
    exact E_rC (v := u1.1.toUInt32.toUInt16.toUInt32.toInt32) c_41_15 mi_41 rfl
set_option maxHeartbeats 4000000 in
theorem u_39_1007 (d : Nat) (σ : ax_S) : ev sO (d + 1) 39 0 [.ref 1007] [] σ = (cI sO d 40 [.ref 1007] σ).bind fun u0 => some (some (.int ((4 : Int32) >>> (u0.1 &&& 31))), u0.2) := by
  refine (E_al c_39_0 rfl (by decide)).trans ?_
  refine (E_gfs0 (b := 1107) c_39_1 (by decide) rfl).trans ?_
  refine (E_alns (v := (4 : Int32)) c_39_4 (by decide) (by decide)).trans ?_
  refine (E_al c_39_5 rfl (by decide)).trans ?_
  refine (E_cIV c_39_6 mi_40 rfl rfl (sO_kls (by decide)) (Nat.le_of_ble_eq_true rfl) (Nat.le_of_ble_eq_true rfl)).trans (ax_bnd fun u0 => ?_)
  refine (E_ishr c_39_9).trans ?_
  exact E_rI c_39_10 mi_39
set_option maxHeartbeats 4000000 in
theorem u_41_1007 (d : Nat) (σ : ax_S) (x1 : Int32) : ev sO (d + 3) 41 0 [.ref 1007, .int x1] [] σ = (cI sO (d + 2) 42 [.ref 1007] σ).bind fun u0 => if u0.1 = 0 then (ev sO (d + 3) 41 21 [.ref 1007, .int x1] [.int x1, .ref 1107] u0.2) else ((cI sO (d + 2) 43 [.ref 1107, .int x1] u0.2).bind fun u1 => some (some (.int u1.1.toUInt32.toUInt16.toUInt32.toInt32), u1.2)) := by
  refine (E_al c_41_0 rfl (by decide)).trans ?_
  refine (E_cIV c_41_1 mi_42 rfl rfl (sO_kls (by decide)) (Nat.le_of_ble_eq_true rfl) (Nat.le_of_ble_eq_true rfl)).trans (ax_bnd fun u0 => ?_)
  refine (E_b0_eq (q := 16) c_41_4 rfl).trans (ax_ite ?_ ?_)
  · refine (E_al c_41_16 rfl (by decide)).trans ?_
    refine (E_gfs0 (b := 1107) c_41_17 (by decide) rfl).trans ?_
    refine (E_il c_41_20 rfl).trans ?_
    rfl
  · refine (E_al c_41_7 rfl (by decide)).trans ?_
    refine (E_gfs0 (b := 1107) c_41_8 (by decide) rfl).trans ?_
    refine (E_il c_41_11 rfl).trans ?_
    refine (E_cIS c_41_12 mi_43 rfl rfl (Nat.le_of_ble_eq_true rfl) (Nat.le_of_ble_eq_true rfl)).trans (ax_bnd fun u1 => ?_)
    exact E_rC (v := u1.1.toUInt32.toUInt16.toUInt32.toInt32) c_41_15 mi_41 rfl
set_option maxHeartbeats 4000000 in
theorem u_48_5_1007 (d : Nat) (σ : ax_S) : ev sO (d + 5) 48 0 [.ref 5, .ref 1007] [] σ = (cI sO (d + 4) 38 [.ref 5, .ref 1007] σ).bind fun u0 => (cV sO (d + 4) 49 [.ref 5, .int u0.1] u0.2).bind fun u1 => some (none, u1) := by
  refine (E_al c_48_0 rfl (by decide)).trans ?_
  refine (E_al c_48_1 rfl (by decide)).trans ?_
  refine (E_al c_48_2 rfl (by decide)).trans ?_
  refine (E_cIV c_48_3 mi_38 rfl rfl (sO_kl sh_5) (Nat.le_of_ble_eq_true rfl) (Nat.le_of_ble_eq_true rfl)).trans (ax_bnd fun u0 => ?_)
  refine (E_cVV c_48_6 mi_49 rfl (sO_kl sh_5) (Nat.le_of_ble_eq_true rfl) (Nat.le_of_ble_eq_true rfl)).trans (ax_bnd fun u1 => ?_)
  exact E_rV c_48_9 mi_48
set_option maxHeartbeats 4000000 in
theorem u_73_5 (d : Nat) (σ : ax_S) (x1 : Int32) (x2 : Int32) : ev sO (d + 3) 73 0 [.ref 5, .int x1, .int x2, .null] [] σ = (cI sO (d + 2) 54 [.ref 5, .int (63 : Int32)] σ).bind fun u0 => if u0.1 = 0 then ((cI sO (d + 2) 51 [.ref 5, .int x1, .int x2] u0.2).bind fun u1 => if (u1.2.1 5 4) = 0 then ((cV sO (d + 2) 33 [.ref 5] u1.2).bind fun u2 => some (some (.int u1.1), u2)) else (some (some (.int u1.1), u1.2))) else (if (u0.2.1 5 4) = 0 then ((cV sO (d + 2) 33 [.ref 5] u0.2).bind fun u3 => some (some (.int (-1000000 : Int32)), u3)) else (some (some (.int (-1000000 : Int32)), u0.2))) := by
  refine (E_al c_73_0 rfl (by decide)).trans ?_
  refine (E_ic (v := (63 : Int32)) c_73_1 (by decide)).trans ?_
  refine (E_cIV c_73_3 mi_54 rfl rfl (sO_kl sh_5) (Nat.le_of_ble_eq_true rfl) (Nat.le_of_ble_eq_true rfl)).trans (ax_bnd fun u0 => ?_)
  refine (E_b0_eq (q := 14) c_73_6 rfl).trans (ax_ite ?_ ?_)
  · refine (E_al c_73_14 rfl (by decide)).trans ?_
    refine (E_il c_73_15 rfl).trans ?_
    refine (E_il c_73_16 rfl).trans ?_
    refine (E_cIV c_73_17 mi_51 rfl rfl (sO_kl sh_5) (Nat.le_of_ble_eq_true rfl) (Nat.le_of_ble_eq_true rfl)).trans (ax_bnd fun u1 => ?_)
    refine (E_is (L' := [.ref 5, .int x1, .int x2, .int u1.1]) c_73_20 (Nat.le_of_ble_eq_true rfl) rfl).trans ?_
    refine (E_al c_73_21 rfl (by decide)).trans ?_
    refine (E_gfi (k := 4) c_73_22 sh_5 rfl rfl rfl (by decide)).trans ?_
    refine (E_b0_ne (q := 32) c_73_25 rfl).trans (ax_ite ?_ ?_)
    · refine (E_al c_73_28 rfl (by decide)).trans ?_
      refine (E_cVV c_73_29 mi_33 rfl (sO_kl sh_5) (Nat.le_of_ble_eq_true rfl) (Nat.le_of_ble_eq_true rfl)).trans (ax_bnd fun u2 => ?_)
      refine (E_il c_73_32 rfl).trans ?_
      exact E_rI c_73_33 mi_73
    · refine (E_il c_73_32 rfl).trans ?_
      exact E_rI c_73_33 mi_73
  · refine (E_ic (v := (-1000000 : Int32)) c_73_9 (by decide)).trans ?_
    refine (E_goto (q := 20) c_73_11 rfl).trans ?_
    refine (E_is (L' := [.ref 5, .int x1, .int x2, .int (-1000000 : Int32)]) c_73_20 (Nat.le_of_ble_eq_true rfl) rfl).trans ?_
    refine (E_al c_73_21 rfl (by decide)).trans ?_
    refine (E_gfi (k := 4) c_73_22 sh_5 rfl rfl rfl (by decide)).trans ?_
    refine (E_b0_ne (q := 32) c_73_25 rfl).trans (ax_ite ?_ ?_)
    · refine (E_al c_73_28 rfl (by decide)).trans ?_
      refine (E_cVV c_73_29 mi_33 rfl (sO_kl sh_5) (Nat.le_of_ble_eq_true rfl) (Nat.le_of_ble_eq_true rfl)).trans (ax_bnd fun u3 => ?_)
      refine (E_il c_73_32 rfl).trans ?_
      exact E_rI c_73_33 mi_73
    · refine (E_il c_73_32 rfl).trans ?_
      exact E_rI c_73_33 mi_73
set_option maxHeartbeats 4000000 in
theorem u_48_5_1006 (d : Nat) (σ : ax_S) : ev sO (d + 5) 48 0 [.ref 5, .ref 1006] [] σ = (cI sO (d + 4) 38 [.ref 5, .ref 1006] σ).bind fun u0 => (cV sO (d + 4) 49 [.ref 5, .int u0.1] u0.2).bind fun u1 => some (none, u1) := by
  refine (E_al c_48_0 rfl (by decide)).trans ?_
  refine (E_al c_48_1 rfl (by decide)).trans ?_
  refine (E_al c_48_2 rfl (by decide)).trans ?_
  refine (E_cIV c_48_3 mi_38 rfl rfl (sO_kl sh_5) (Nat.le_of_ble_eq_true rfl) (Nat.le_of_ble_eq_true rfl)).trans (ax_bnd fun u0 => ?_)
  refine (E_cVV c_48_6 mi_49 rfl (sO_kl sh_5) (Nat.le_of_ble_eq_true rfl) (Nat.le_of_ble_eq_true rfl)).trans (ax_bnd fun u1 => ?_)
  exact E_rV c_48_9 mi_48
set_option maxHeartbeats 4000000 in
theorem u_48_5_1005 (d : Nat) (σ : ax_S) : ev sO (d + 5) 48 0 [.ref 5, .ref 1005] [] σ = (cI sO (d + 4) 38 [.ref 5, .ref 1005] σ).bind fun u0 => (cV sO (d + 4) 49 [.ref 5, .int u0.1] u0.2).bind fun u1 => some (none, u1) := by
  refine (E_al c_48_0 rfl (by decide)).trans ?_
  refine (E_al c_48_1 rfl (by decide)).trans ?_
  refine (E_al c_48_2 rfl (by decide)).trans ?_
  refine (E_cIV c_48_3 mi_38 rfl rfl (sO_kl sh_5) (Nat.le_of_ble_eq_true rfl) (Nat.le_of_ble_eq_true rfl)).trans (ax_bnd fun u0 => ?_)
  refine (E_cVV c_48_6 mi_49 rfl (sO_kl sh_5) (Nat.le_of_ble_eq_true rfl) (Nat.le_of_ble_eq_true rfl)).trans (ax_bnd fun u1 => ?_)
  exact E_rV c_48_9 mi_48
set_option maxHeartbeats 4000000 in
theorem u_44 (d : Nat) (σ : ax_S) (x0 : Int32) (x1 : Int32) : ev sO (d + 1) 44 0 [.int x0, .int x1] [] σ = (cI sO d 45 [.int x0, .int x1, .ref 2000] σ).bind fun u0 => some (none, u0.2) := by
  refine (E_il c_44_0 rfl).trans ?_
  refine (E_il c_44_1 rfl).trans ?_
  refine (E_gs3 c_44_2).trans ?_
  refine (E_cIS c_44_5 mi_45 rfl rfl (Nat.le_of_ble_eq_true rfl) (Nat.le_of_ble_eq_true rfl)).trans (ax_bnd fun u0 => ?_)
  refine (E_pop c_44_8 rfl).trans ?_
  exact E_rV c_44_9 mi_44
set_option maxHeartbeats 4000000 in
theorem u_39_1003 (d : Nat) (σ : ax_S) : ev sO (d + 1) 39 0 [.ref 1003] [] σ = (cI sO d 40 [.ref 1003] σ).bind fun u0 => some (some (.int ((4 : Int32) >>> (u0.1 &&& 31))), u0.2) := by
  refine (E_al c_39_0 rfl (by decide)).trans ?_
  refine (E_gfs0 (b := 1103) c_39_1 (by decide) rfl).trans ?_
  refine (E_alns (v := (4 : Int32)) c_39_4 (by decide) (by decide)).trans ?_
  refine (E_al c_39_5 rfl (by decide)).trans ?_
  refine (E_cIV c_39_6 mi_40 rfl rfl (sO_kls (by decide)) (Nat.le_of_ble_eq_true rfl) (Nat.le_of_ble_eq_true rfl)).trans (ax_bnd fun u0 => ?_)
  refine (E_ishr c_39_9).trans ?_
  exact E_rI c_39_10 mi_39
set_option maxHeartbeats 4000000 in
theorem u_41_1003 (d : Nat) (σ : ax_S) (x1 : Int32) : ev sO (d + 3) 41 0 [.ref 1003, .int x1] [] σ = (cI sO (d + 2) 42 [.ref 1003] σ).bind fun u0 => if u0.1 = 0 then (ev sO (d + 3) 41 21 [.ref 1003, .int x1] [.int x1, .ref 1103] u0.2) else ((cI sO (d + 2) 43 [.ref 1103, .int x1] u0.2).bind fun u1 => some (some (.int u1.1.toUInt32.toUInt16.toUInt32.toInt32), u1.2)) := by
  refine (E_al c_41_0 rfl (by decide)).trans ?_
  refine (E_cIV c_41_1 mi_42 rfl rfl (sO_kls (by decide)) (Nat.le_of_ble_eq_true rfl) (Nat.le_of_ble_eq_true rfl)).trans (ax_bnd fun u0 => ?_)
  refine (E_b0_eq (q := 16) c_41_4 rfl).trans (ax_ite ?_ ?_)
  · refine (E_al c_41_16 rfl (by decide)).trans ?_
    refine (E_gfs0 (b := 1103) c_41_17 (by decide) rfl).trans ?_
    refine (E_il c_41_20 rfl).trans ?_
    rfl
  · refine (E_al c_41_7 rfl (by decide)).trans ?_
    refine (E_gfs0 (b := 1103) c_41_8 (by decide) rfl).trans ?_
    refine (E_il c_41_11 rfl).trans ?_
    refine (E_cIS c_41_12 mi_43 rfl rfl (Nat.le_of_ble_eq_true rfl) (Nat.le_of_ble_eq_true rfl)).trans (ax_bnd fun u1 => ?_)
    exact E_rC (v := u1.1.toUInt32.toUInt16.toUInt32.toInt32) c_41_15 mi_41 rfl
set_option maxHeartbeats 4000000 in
theorem u_40_1004 (d : Nat) (σ : ax_S) : ev sO d 40 0 [.ref 1004] [] σ = some (some (.int (0 : Int32)), σ) := by
  refine (E_gs2 c_40_0).trans ?_
  refine (E_b0_eq (q := 13) c_40_3 rfl).trans ?_
  refine (if_neg (by decide)).trans ?_
  refine (E_al c_40_6 rfl (by decide)).trans ?_
  refine (E_gfs1 c_40_7 (by decide)).trans ?_
  refine (E_goto (q := 14) c_40_10 rfl).trans ?_
  exact E_rB (v := (0 : Int32)) c_40_14 mi_40 (by decide)
set_option maxHeartbeats 4000000 in
theorem u_42_1004 (d : Nat) (σ : ax_S) : ev sO d 42 0 [.ref 1004] [] σ = some (some (.int (1 : Int32)), σ) := by
  refine (E_gs2 c_42_0).trans ?_
  refine (E_b0_eq (q := 17) c_42_3 rfl).trans ?_
  refine (if_neg (by decide)).trans ?_
  refine (E_al c_42_6 rfl (by decide)).trans ?_
  refine (E_gfs1 c_42_7 (by decide)).trans ?_
  refine (E_b0_ne (q := 17) c_42_10 rfl).trans ?_
  refine (if_pos (by decide)).trans ?_
  refine (E_ic (v := (1 : Int32)) c_42_13 (by decide)).trans ?_
  refine (E_goto (q := 18) c_42_14 rfl).trans ?_
  exact E_rZ (v := (1 : Int32)) c_42_18 mi_42 (by decide)
set_option maxHeartbeats 4000000 in
theorem u_43_1104 (d : Nat) (σ : ax_S) (x1 : Int32) : ev sO (d + 2) 43 0 [.ref 1104, .int x1] [] σ = (cV sO (d + 1) 44 [.int x1, .int (4 : Int32)] σ).bind fun u0 => gd (0 ≤ x1.toInt ∧ x1.toInt < ([99, 97, 114, 100] : List Int32).length) (some (some (.int ((((([99, 97, 114, 100] : List Int32).getD x1.toNatClampNeg 0) &&& (255 : Int32)).toUInt32 % 65536).toInt32).toUInt32.toUInt16.toUInt32.toInt32), u0)) := by
  refine (E_il c_43_0 rfl).trans ?_
  refine (E_al c_43_1 rfl (by decide)).trans ?_
  refine (E_alns (v := (4 : Int32)) c_43_2 (by decide) (by decide)).trans ?_
  refine (E_cVS c_43_3 mi_44 rfl (Nat.le_of_ble_eq_true rfl) (Nat.le_of_ble_eq_true rfl)).trans (ax_bnd fun u0 => ?_)
  refine (E_al c_43_6 rfl (by decide)).trans ?_
  refine (E_il c_43_7 rfl).trans ?_
  refine (E_bals (t := [99, 97, 114, 100]) c_43_8 (by decide) (by decide +kernel)).trans (ax_gd ?_)
  refine (E_ic (v := (255 : Int32)) c_43_9 (by decide)).trans ?_
  refine (E_iand c_43_12).trans ?_
  refine (E_i2c c_43_13).trans ?_
  exact E_rC (v := ((((([99, 97, 114, 100] : List Int32).getD x1.toNatClampNeg 0) &&& (255 : Int32)).toUInt32 % 65536).toInt32).toUInt32.toUInt16.toUInt32.toInt32) c_43_14 mi_43 rfl
set_option maxHeartbeats 4000000 in
theorem u_40_1005 (d : Nat) (σ : ax_S) : ev sO d 40 0 [.ref 1005] [] σ = some (some (.int (0 : Int32)), σ) := by
  refine (E_gs2 c_40_0).trans ?_
  refine (E_b0_eq (q := 13) c_40_3 rfl).trans ?_
  refine (if_neg (by decide)).trans ?_
  refine (E_al c_40_6 rfl (by decide)).trans ?_
  refine (E_gfs1 c_40_7 (by decide)).trans ?_
  refine (E_goto (q := 14) c_40_10 rfl).trans ?_
  exact E_rB (v := (0 : Int32)) c_40_14 mi_40 (by decide)
set_option maxHeartbeats 4000000 in
theorem u_42_1005 (d : Nat) (σ : ax_S) : ev sO d 42 0 [.ref 1005] [] σ = some (some (.int (1 : Int32)), σ) := by
  refine (E_gs2 c_42_0).trans ?_
  refine (E_b0_eq (q := 17) c_42_3 rfl).trans ?_
  refine (if_neg (by decide)).trans ?_
  refine (E_al c_42_6 rfl (by decide)).trans ?_
  refine (E_gfs1 c_42_7 (by decide)).trans ?_
  refine (E_b0_ne (q := 17) c_42_10 rfl).trans ?_
  refine (if_pos (by decide)).trans ?_
  refine (E_ic (v := (1 : Int32)) c_42_13 (by decide)).trans ?_
  refine (E_goto (q := 18) c_42_14 rfl).trans ?_
  exact E_rZ (v := (1 : Int32)) c_42_18 mi_42 (by decide)
set_option maxHeartbeats 4000000 in
theorem u_43_1105 (d : Nat) (σ : ax_S) (x1 : Int32) : ev sO (d + 2) 43 0 [.ref 1105, .int x1] [] σ = (cV sO (d + 1) 44 [.int x1, .int (3 : Int32)] σ).bind fun u0 => gd (0 ≤ x1.toInt ∧ x1.toInt < ([97, 100, 100] : List Int32).length) (some (some (.int ((((([97, 100, 100] : List Int32).getD x1.toNatClampNeg 0) &&& (255 : Int32)).toUInt32 % 65536).toInt32).toUInt32.toUInt16.toUInt32.toInt32), u0)) := by
  refine (E_il c_43_0 rfl).trans ?_
  refine (E_al c_43_1 rfl (by decide)).trans ?_
  refine (E_alns (v := (3 : Int32)) c_43_2 (by decide) (by decide)).trans ?_
  refine (E_cVS c_43_3 mi_44 rfl (Nat.le_of_ble_eq_true rfl) (Nat.le_of_ble_eq_true rfl)).trans (ax_bnd fun u0 => ?_)
  refine (E_al c_43_6 rfl (by decide)).trans ?_
  refine (E_il c_43_7 rfl).trans ?_
  refine (E_bals (t := [97, 100, 100]) c_43_8 (by decide) (by decide +kernel)).trans (ax_gd ?_)
  refine (E_ic (v := (255 : Int32)) c_43_9 (by decide)).trans ?_
  refine (E_iand c_43_12).trans ?_
  refine (E_i2c c_43_13).trans ?_
  exact E_rC (v := ((((([97, 100, 100] : List Int32).getD x1.toNatClampNeg 0) &&& (255 : Int32)).toUInt32 % 65536).toInt32).toUInt32.toUInt16.toUInt32.toInt32) c_43_14 mi_43 rfl
set_option maxHeartbeats 4000000 in
theorem u_40_1006 (d : Nat) (σ : ax_S) : ev sO d 40 0 [.ref 1006] [] σ = some (some (.int (0 : Int32)), σ) := by
  refine (E_gs2 c_40_0).trans ?_
  refine (E_b0_eq (q := 13) c_40_3 rfl).trans ?_
  refine (if_neg (by decide)).trans ?_
  refine (E_al c_40_6 rfl (by decide)).trans ?_
  refine (E_gfs1 c_40_7 (by decide)).trans ?_
  refine (E_goto (q := 14) c_40_10 rfl).trans ?_
  exact E_rB (v := (0 : Int32)) c_40_14 mi_40 (by decide)
set_option maxHeartbeats 4000000 in
theorem u_42_1006 (d : Nat) (σ : ax_S) : ev sO d 42 0 [.ref 1006] [] σ = some (some (.int (1 : Int32)), σ) := by
  refine (E_gs2 c_42_0).trans ?_
  refine (E_b0_eq (q := 17) c_42_3 rfl).trans ?_
  refine (if_neg (by decide)).trans ?_
  refine (E_al c_42_6 rfl (by decide)).trans ?_
  refine (E_gfs1 c_42_7 (by decide)).trans ?_
  refine (E_b0_ne (q := 17) c_42_10 rfl).trans ?_
  refine (if_pos (by decide)).trans ?_
  refine (E_ic (v := (1 : Int32)) c_42_13 (by decide)).trans ?_
  refine (E_goto (q := 18) c_42_14 rfl).trans ?_
  exact E_rZ (v := (1 : Int32)) c_42_18 mi_42 (by decide)
set_option maxHeartbeats 4000000 in
theorem u_43_1106 (d : Nat) (σ : ax_S) (x1 : Int32) : ev sO (d + 2) 43 0 [.ref 1106, .int x1] [] σ = (cV sO (d + 1) 44 [.int x1, .int (4 : Int32)] σ).bind fun u0 => gd (0 ≤ x1.toInt ∧ x1.toInt < ([104, 101, 97, 116] : List Int32).length) (some (some (.int ((((([104, 101, 97, 116] : List Int32).getD x1.toNatClampNeg 0) &&& (255 : Int32)).toUInt32 % 65536).toInt32).toUInt32.toUInt16.toUInt32.toInt32), u0)) := by
  refine (E_il c_43_0 rfl).trans ?_
  refine (E_al c_43_1 rfl (by decide)).trans ?_
  refine (E_alns (v := (4 : Int32)) c_43_2 (by decide) (by decide)).trans ?_
  refine (E_cVS c_43_3 mi_44 rfl (Nat.le_of_ble_eq_true rfl) (Nat.le_of_ble_eq_true rfl)).trans (ax_bnd fun u0 => ?_)
  refine (E_al c_43_6 rfl (by decide)).trans ?_
  refine (E_il c_43_7 rfl).trans ?_
  refine (E_bals (t := [104, 101, 97, 116]) c_43_8 (by decide) (by decide +kernel)).trans (ax_gd ?_)
  refine (E_ic (v := (255 : Int32)) c_43_9 (by decide)).trans ?_
  refine (E_iand c_43_12).trans ?_
  refine (E_i2c c_43_13).trans ?_
  exact E_rC (v := ((((([104, 101, 97, 116] : List Int32).getD x1.toNatClampNeg 0) &&& (255 : Int32)).toUInt32 % 65536).toInt32).toUInt32.toUInt16.toUInt32.toInt32) c_43_14 mi_43 rfl
set_option maxHeartbeats 4000000 in
theorem u_40_1007 (d : Nat) (σ : ax_S) : ev sO d 40 0 [.ref 1007] [] σ = some (some (.int (0 : Int32)), σ) := by
  refine (E_gs2 c_40_0).trans ?_
  refine (E_b0_eq (q := 13) c_40_3 rfl).trans ?_
  refine (if_neg (by decide)).trans ?_
  refine (E_al c_40_6 rfl (by decide)).trans ?_
  refine (E_gfs1 c_40_7 (by decide)).trans ?_
  refine (E_goto (q := 14) c_40_10 rfl).trans ?_
  exact E_rB (v := (0 : Int32)) c_40_14 mi_40 (by decide)
set_option maxHeartbeats 4000000 in
theorem u_42_1007 (d : Nat) (σ : ax_S) : ev sO d 42 0 [.ref 1007] [] σ = some (some (.int (1 : Int32)), σ) := by
  refine (E_gs2 c_42_0).trans ?_
  refine (E_b0_eq (q := 17) c_42_3 rfl).trans ?_
  refine (if_neg (by decide)).trans ?_
  refine (E_al c_42_6 rfl (by decide)).trans ?_
  refine (E_gfs1 c_42_7 (by decide)).trans ?_
  refine (E_b0_ne (q := 17) c_42_10 rfl).trans ?_
  refine (if_pos (by decide)).trans ?_
  refine (E_ic (v := (1 : Int32)) c_42_13 (by decide)).trans ?_
  refine (E_goto (q := 18) c_42_14 rfl).trans ?_
  exact E_rZ (v := (1 : Int32)) c_42_18 mi_42 (by decide)
set_option maxHeartbeats 4000000 in
theorem u_43_1107 (d : Nat) (σ : ax_S) (x1 : Int32) : ev sO (d + 2) 43 0 [.ref 1107, .int x1] [] σ = (cV sO (d + 1) 44 [.int x1, .int (4 : Int32)] σ).bind fun u0 => gd (0 ≤ x1.toInt ∧ x1.toInt < ([98, 101, 97, 116] : List Int32).length) (some (some (.int ((((([98, 101, 97, 116] : List Int32).getD x1.toNatClampNeg 0) &&& (255 : Int32)).toUInt32 % 65536).toInt32).toUInt32.toUInt16.toUInt32.toInt32), u0)) := by
  refine (E_il c_43_0 rfl).trans ?_
  refine (E_al c_43_1 rfl (by decide)).trans ?_
  refine (E_alns (v := (4 : Int32)) c_43_2 (by decide) (by decide)).trans ?_
  refine (E_cVS c_43_3 mi_44 rfl (Nat.le_of_ble_eq_true rfl) (Nat.le_of_ble_eq_true rfl)).trans (ax_bnd fun u0 => ?_)
  refine (E_al c_43_6 rfl (by decide)).trans ?_
  refine (E_il c_43_7 rfl).trans ?_
  refine (E_bals (t := [98, 101, 97, 116]) c_43_8 (by decide) (by decide +kernel)).trans (ax_gd ?_)
  refine (E_ic (v := (255 : Int32)) c_43_9 (by decide)).trans ?_
  refine (E_iand c_43_12).trans ?_
  refine (E_i2c c_43_13).trans ?_
  exact E_rC (v := ((((([98, 101, 97, 116] : List Int32).getD x1.toNatClampNeg 0) &&& (255 : Int32)).toUInt32 % 65536).toInt32).toUInt32.toUInt16.toUInt32.toInt32) c_43_14 mi_43 rfl
set_option maxHeartbeats 4000000 in
theorem u_45_2000 (d : Nat) (σ : ax_S) (x0 : Int32) (x1 : Int32) : ev sO d 45 0 [.int x0, .int x1, .ref 2000] [] σ = if x0 < 0 then (ev sO d 45 9 [.int x0, .int x1, .ref 2000] [] σ) else (if x0 < x1 then (some (some (.int x0), σ)) else (ev sO d 45 9 [.int x0, .int x1, .ref 2000] [] σ)) := by
  refine (E_il c_45_0 rfl).trans ?_
  refine (E_b0_lt (q := 9) c_45_1 rfl).trans (ax_ite ?_ ?_)
  · rfl
  · refine (E_il c_45_4 rfl).trans ?_
    refine (E_il c_45_5 rfl).trans ?_
    refine (E_br_lt (q := 16) c_45_6 rfl).trans (ax_ite ?_ ?_)
    · refine (E_il c_45_16 rfl).trans ?_
      exact E_rI c_45_17 mi_45
    · rfl
set_option maxHeartbeats 4000000 in
theorem u_40_1003 (d : Nat) (σ : ax_S) : ev sO d 40 0 [.ref 1003] [] σ = some (some (.int (0 : Int32)), σ) := by
  refine (E_gs2 c_40_0).trans ?_
  refine (E_b0_eq (q := 13) c_40_3 rfl).trans ?_
  refine (if_neg (by decide)).trans ?_
  refine (E_al c_40_6 rfl (by decide)).trans ?_
  refine (E_gfs1 c_40_7 (by decide)).trans ?_
  refine (E_goto (q := 14) c_40_10 rfl).trans ?_
  exact E_rB (v := (0 : Int32)) c_40_14 mi_40 (by decide)
set_option maxHeartbeats 4000000 in
theorem u_42_1003 (d : Nat) (σ : ax_S) : ev sO d 42 0 [.ref 1003] [] σ = some (some (.int (1 : Int32)), σ) := by
  refine (E_gs2 c_42_0).trans ?_
  refine (E_b0_eq (q := 17) c_42_3 rfl).trans ?_
  refine (if_neg (by decide)).trans ?_
  refine (E_al c_42_6 rfl (by decide)).trans ?_
  refine (E_gfs1 c_42_7 (by decide)).trans ?_
  refine (E_b0_ne (q := 17) c_42_10 rfl).trans ?_
  refine (if_pos (by decide)).trans ?_
  refine (E_ic (v := (1 : Int32)) c_42_13 (by decide)).trans ?_
  refine (E_goto (q := 18) c_42_14 rfl).trans ?_
  exact E_rZ (v := (1 : Int32)) c_42_18 mi_42 (by decide)
set_option maxHeartbeats 4000000 in
theorem u_43_1103 (d : Nat) (σ : ax_S) (x1 : Int32) : ev sO (d + 2) 43 0 [.ref 1103, .int x1] [] σ = (cV sO (d + 1) 44 [.int x1, .int (4 : Int32)] σ).bind fun u0 => gd (0 ≤ x1.toInt ∧ x1.toInt < ([114, 105, 115, 101] : List Int32).length) (some (some (.int ((((([114, 105, 115, 101] : List Int32).getD x1.toNatClampNeg 0) &&& (255 : Int32)).toUInt32 % 65536).toInt32).toUInt32.toUInt16.toUInt32.toInt32), u0)) := by
  refine (E_il c_43_0 rfl).trans ?_
  refine (E_al c_43_1 rfl (by decide)).trans ?_
  refine (E_alns (v := (4 : Int32)) c_43_2 (by decide) (by decide)).trans ?_
  refine (E_cVS c_43_3 mi_44 rfl (Nat.le_of_ble_eq_true rfl) (Nat.le_of_ble_eq_true rfl)).trans (ax_bnd fun u0 => ?_)
  refine (E_al c_43_6 rfl (by decide)).trans ?_
  refine (E_il c_43_7 rfl).trans ?_
  refine (E_bals (t := [114, 105, 115, 101]) c_43_8 (by decide) (by decide +kernel)).trans (ax_gd ?_)
  refine (E_ic (v := (255 : Int32)) c_43_9 (by decide)).trans ?_
  refine (E_iand c_43_12).trans ?_
  refine (E_i2c c_43_13).trans ?_
  exact E_rC (v := ((((([114, 105, 115, 101] : List Int32).getD x1.toNatClampNeg 0) &&& (255 : Int32)).toUInt32 % 65536).toInt32).toUInt32.toUInt16.toUInt32.toInt32) c_43_14 mi_43 rfl
