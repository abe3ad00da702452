set_option maxHeartbeats 4000000 in
theorem u_12_0 (d : Nat) (σ : ax_S) (x1 : Int32) (x2 : Int32) (x3 : Int32) : ev sO (d + 2) 12 0 [.ref 0, .int x1, .int x2, .int x3] [] σ = (cI sO (d + 1) 13 [.int x1] σ).bind fun u0 => if u0.1 = 0 then (some (some (.long (-9000000000000000001 : Int64)), u0.2)) else (if x2 < 0 then (some (some (.long (-9000000000000000001 : Int64)), u0.2)) else (if (2 : Int32) < x2 then (some (some (.long (-9000000000000000001 : Int64)), u0.2)) else (if (40 : Int32) < x3 then (some (some (.long (-9000000000000000001 : Int64)), u0.2)) else (if x3 < 0 then ((cL sO (d + 1) 14 [.ref 0, .int (4 : Int32)] u0.2).bind fun u1 => some (some (.long u1.1), u1.2)) else ((cV sO (d + 1) 15 [.ref 1, .int x1, .int x2, .int x3] u0.2).bind fun u2 => (cL sO (d + 1) 16 [.ref 0, .long x3.toInt64] u2).bind fun u3 => some (some (.long u3.1), u3.2)))))) := by
  refine (E_il c_12_0 rfl).trans ?_
  refine (E_cIS c_12_1 mi_13 rfl rfl (Nat.le_of_ble_eq_true rfl) (Nat.le_of_ble_eq_true rfl)).trans (ax_bnd fun u0 => ?_)
  refine (E_b0_eq (q := 22) c_12_4 rfl).trans (ax_ite ?_ ?_)
  · refine (E_l2 (v := (-9000000000000000001 : Int64)) c_12_22 (by decide)).trans ?_
    exact E_rL c_12_25 mi_12
  · refine (E_il c_12_7 rfl).trans ?_
    refine (E_b0_lt (q := 22) c_12_8 rfl).trans (ax_ite ?_ ?_)
    · refine (E_l2 (v := (-9000000000000000001 : Int64)) c_12_22 (by decide)).trans ?_
      exact E_rL c_12_25 mi_12
    · refine (E_il c_12_11 rfl).trans ?_
      refine (E_ic (v := (2 : Int32)) c_12_12 (by decide)).trans ?_
      refine (E_br_gt (q := 22) c_12_13 rfl).trans (ax_ite ?_ ?_)
      · refine (E_l2 (v := (-9000000000000000001 : Int64)) c_12_22 (by decide)).trans ?_
        exact E_rL c_12_25 mi_12
      · refine (E_il c_12_16 rfl).trans ?_
        refine (E_ic (v := (40 : Int32)) c_12_17 (by decide)).trans ?_
        refine (E_br_le (q := 26) c_12_19 rfl).trans (ax_ite ?_ ?_)
        · refine (E_l2 (v := (-9000000000000000001 : Int64)) c_12_22 (by decide)).trans ?_
          exact E_rL c_12_25 mi_12
        · refine (E_il c_12_26 rfl).trans ?_
          refine (E_b0_ge (q := 36) c_12_27 rfl).trans (ax_ite ?_ ?_)
          · refine (E_al c_12_30 rfl (by decide)).trans ?_
            refine (E_ic (v := (4 : Int32)) c_12_31 (by decide)).trans ?_
            refine (E_cLV c_12_32 mi_14 rfl (sO_kl sh_0) (Nat.le_of_ble_eq_true rfl) (Nat.le_of_ble_eq_true rfl)).trans (ax_bnd fun u1 => ?_)
            exact E_rL c_12_35 mi_12
          · refine (E_al c_12_36 rfl (by decide)).trans ?_
            refine (E_gfr (k := 0) (r := 1) c_12_37 sh_0 rfl rfl rfl).trans ?_
            refine (E_il c_12_40 rfl).trans ?_
            refine (E_il c_12_41 rfl).trans ?_
            refine (E_il c_12_42 rfl).trans ?_
            refine (E_cVV c_12_43 mi_15 rfl (sO_kl sh_1) (Nat.le_of_ble_eq_true rfl) (Nat.le_of_ble_eq_true rfl)).trans (ax_bnd fun u2 => ?_)
            refine (E_al c_12_46 rfl (by decide)).trans ?_
            refine (E_il c_12_47 rfl).trans ?_
            refine (E_i2l c_12_48).trans ?_
            refine (E_cLV c_12_49 mi_16 rfl (sO_kl sh_0) (Nat.le_of_ble_eq_true rfl) (Nat.le_of_ble_eq_true rfl)).trans (ax_bnd fun u3 => ?_)
            exact E_rL c_12_52 mi_12
set_option maxHeartbeats 4000000 in
theorem u_196_82 (d : Nat) (σ : ax_S) (x1 : Int32) (x2 : Int32) (x3 : Int32) : ev sO (d + 2) 196 0 [.ref 82, .int x1, .int x2, .int x3, .null] [] σ = (cI sO (d + 1) 197 [.int x1] (sI σ 82 0 (0 : Int32))).bind fun u0 => if u0.1 = 0 then (some (some (.long (-9000000000000000001 : Int64)), u0.2)) else ((cI sO (d + 1) 198 [.long x2.toInt64, .long (0 : Int64), .long (2 : Int64)] u0.2).bind fun u1 => if u1.1 = 0 then (some (some (.long (-9000000000000000001 : Int64)), u1.2)) else (if (40 : Int32) < x3 then (some (some (.long (-9000000000000000001 : Int64)), u1.2)) else (if x3 < 0 then ((cL sO (d + 1) 199 [.ref 82, .int (4 : Int32)] (sI u1.2 82 1 (0 : Int32))).bind fun u2 => some (some (.long u2.1), u2.2)) else (gd (0 ≤ x1.toInt ∧ x1.toInt < (8 : Nat)) (gd (0 ≤ x1.toInt ∧ x1.toInt < (8 : Nat)) (ev sO (d + 2) 196 66 [.ref 82, .int x1, .int x2, .int x3, .int (0 : Int32)] [] (sI (sI (sI u1.2 82 1 (0 : Int32)) 83 x1.toNatClampNeg x2) 84 x1.toNatClampNeg x3))))))) := by
  refine (E_al c_196_0 rfl (by decide)).trans ?_
  refine (E_ic (v := (0 : Int32)) c_196_1 (by decide)).trans ?_
  refine (E_pfi (k := 0) c_196_2 sh_82 rfl rfl rfl).trans ?_
  refine (E_il c_196_5 rfl).trans ?_
  refine (E_cIS c_196_6 mi_197 rfl rfl (Nat.le_of_ble_eq_true rfl) (Nat.le_of_ble_eq_true rfl)).trans (ax_bnd fun u0 => ?_)
  refine (E_b0_eq (q := 30) c_196_9 rfl).trans (ax_ite ?_ ?_)
  · refine (E_l2 (v := (-9000000000000000001 : Int64)) c_196_30 (by decide)).trans ?_
    exact E_rL c_196_33 mi_196
  · refine (E_il c_196_12 rfl).trans ?_
    refine (E_i2l c_196_13).trans ?_
    refine (E_lc (v := (0 : Int64)) c_196_14 (by decide)).trans ?_
    refine (E_l2 (v := (2 : Int64)) c_196_15 (by decide)).trans ?_
    refine (E_cIS c_196_18 mi_198 rfl rfl (Nat.le_of_ble_eq_true rfl) (Nat.le_of_ble_eq_true rfl)).trans (ax_bnd fun u1 => ?_)
    refine (E_b0_eq (q := 30) c_196_21 rfl).trans (ax_ite ?_ ?_)
    · refine (E_l2 (v := (-9000000000000000001 : Int64)) c_196_30 (by decide)).trans ?_
      exact E_rL c_196_33 mi_196
    · refine (E_il c_196_24 rfl).trans ?_
      refine (E_ic (v := (40 : Int32)) c_196_25 (by decide)).trans ?_
      refine (E_br_le (q := 34) c_196_27 rfl).trans (ax_ite ?_ ?_)
      · refine (E_l2 (v := (-9000000000000000001 : Int64)) c_196_30 (by decide)).trans ?_
        exact E_rL c_196_33 mi_196
      · refine (E_al c_196_34 rfl (by decide)).trans ?_
        refine (E_ic (v := (0 : Int32)) c_196_35 (by decide)).trans ?_
        refine (E_pfi (k := 1) c_196_36 sh_82 rfl rfl rfl).trans ?_
        refine (E_il c_196_39 rfl).trans ?_
        refine (E_b0_ge (q := 49) c_196_40 rfl).trans (ax_ite ?_ ?_)
        · refine (E_al c_196_43 rfl (by decide)).trans ?_
          refine (E_ic (v := (4 : Int32)) c_196_44 (by decide)).trans ?_
          refine (E_cLV c_196_45 mi_199 rfl (sO_kl sh_82) (Nat.le_of_ble_eq_true rfl) (Nat.le_of_ble_eq_true rfl)).trans (ax_bnd fun u2 => ?_)
          exact E_rL c_196_48 mi_196
        · refine (E_al c_196_49 rfl (by decide)).trans ?_
          refine (E_gfr (k := 2) (r := 83) c_196_50 sh_82 rfl rfl rfl).trans ?_
          refine (E_il c_196_53 rfl).trans ?_
          refine (E_il c_196_54 rfl).trans ?_
          refine (E_ias (v := x2) c_196_55 sh_83 rfl).trans (ax_gd ?_)
          refine (E_al c_196_56 rfl (by decide)).trans ?_
          refine (E_gfr (k := 3) (r := 84) c_196_57 sh_82 rfl rfl rfl).trans ?_
          refine (E_il c_196_60 rfl).trans ?_
          refine (E_il c_196_61 rfl).trans ?_
          refine (E_ias (v := x3) c_196_62 sh_84 rfl).trans (ax_gd ?_)
          refine (E_ic (v := (0 : Int32)) c_196_63 (by decide)).trans ?_
          refine (E_is (L' := [.ref 82, .int x1, .int x2, .int x3, .int (0 : Int32)]) c_196_64 (Nat.le_of_ble_eq_true rfl) rfl).trans ?_
          rfl
set_option maxHeartbeats 4000000 in
theorem u_196_82p66 (d : Nat) (σ : ax_S) (x1 : Int32) (w2 : Value) (hw2 : w2.category = 1) (x3 : Int32) (x4 : Int32) : ev sO (d + 2) 196 66 [.ref 82, .int x1, w2, .int x3, .int x4] [] σ = if x4 < (40 : Int32) then (gd (0 ≤ (((40 : Int32) * x1) + x4).toInt ∧ (((40 : Int32) * x1) + x4).toInt < (320 : Nat)) (ev sO (d + 2) 196 66 [.ref 82, .int x1, w2, .int x3, .int (x4 + (1 : Int32))] [] (sI σ 85 (((40 : Int32) * x1) + x4).toNatClampNeg (0 : Int32)))) else (some (some (.long x3.toInt64), σ)) := by
  refine (E_il c_196_66 rfl).trans ?_
  refine (E_ic (v := (40 : Int32)) c_196_68 (by decide)).trans ?_
  refine (E_br_ge (q := 92) c_196_70 rfl).trans (ax_ite ?_ ?_)
  · refine (E_al c_196_73 rfl (by decide)).trans ?_
    refine (E_gfr (k := 4) (r := 85) c_196_74 sh_82 rfl rfl rfl).trans ?_
    refine (E_ic (v := (40 : Int32)) c_196_77 (by decide)).trans ?_
    refine (E_il c_196_79 rfl).trans ?_
    refine (E_imul c_196_80).trans ?_
    refine (E_il c_196_81 rfl).trans ?_
    refine (E_iadd c_196_83).trans ?_
    refine (E_ic (v := (0 : Int32)) c_196_84 (by decide)).trans ?_
    refine (E_ias (v := (0 : Int32)) c_196_85 sh_85 rfl).trans (ax_gd ?_)
    refine (E_inc (v := (1 : Int32)) (L' := [.ref 82, .int x1, w2, .int x3, .int (x4 + (1 : Int32))]) c_196_86 rfl (by decide) rfl).trans ?_
    refine (E_goto (q := 66) c_196_89 rfl).trans ?_
    rfl
  · refine (E_il c_196_92 rfl).trans ?_
    refine (E_i2l c_196_93).trans ?_
    exact E_rL c_196_94 mi_196
set_option maxHeartbeats 4000000 in
theorem u_17_0 (d : Nat) (σ : ax_S) (x1 : Int32) (x2 : Int32) (x3 : Int32) : ev sO (d + 4) 17 0 [.ref 0, .int x1, .int x2, .int x3] [] σ = (cI sO (d + 3) 13 [.int x1] σ).bind fun u0 => if u0.1 = 0 then (some (some (.long (-9000000000000000001 : Int64)), u0.2)) else ((cI sO (d + 3) 18 [.ref 1, .int x1] u0.2).bind fun u1 => if u1.1 = 0 then ((cI sO (d + 3) 20 [.ref 1, .int x1, .int x2, .int (1 : Int32)] u1.2).bind fun u2 => if u2.1 = 0 then ((cL sO (d + 3) 14 [.ref 0, .int (2 : Int32)] u2.2).bind fun u3 => some (some (.long u3.1), u3.2)) else ((cI sO (d + 3) 21 [.ref 1, .int x1, .int x2, .int x3] u2.2).bind fun u4 => (cL sO (d + 3) 16 [.ref 0, .long u4.1.toInt64] u4.2).bind fun u5 => some (some (.long u5.1), u5.2))) else ((cL sO (d + 3) 14 [.ref 0, .int (1 : Int32)] u1.2).bind fun u6 => some (some (.long u6.1), u6.2))) := by
  refine (E_il c_17_0 rfl).trans ?_
  refine (E_cIS c_17_1 mi_13 rfl rfl (Nat.le_of_ble_eq_true rfl) (Nat.le_of_ble_eq_true rfl)).trans (ax_bnd fun u0 => ?_)
  refine (E_b0_ne (q := 11) c_17_4 rfl).trans (ax_ite ?_ ?_)
  · refine (E_l2 (v := (-9000000000000000001 : Int64)) c_17_7 (by decide)).trans ?_
    exact E_rL c_17_10 mi_17
  · refine (E_al c_17_11 rfl (by decide)).trans ?_
    refine (E_gfr (k := 0) (r := 1) c_17_12 sh_0 rfl rfl rfl).trans ?_
    refine (E_il c_17_15 rfl).trans ?_
    refine (E_cIV c_17_16 mi_18 rfl rfl (sO_kl sh_1) (Nat.le_of_ble_eq_true rfl) (Nat.le_of_ble_eq_true rfl)).trans (ax_bnd fun u1 => ?_)
    refine (E_b0_eq (q := 28) c_17_19 rfl).trans (ax_ite ?_ ?_)
    · refine (E_al c_17_28 rfl (by decide)).trans ?_
      refine (E_gfr (k := 0) (r := 1) c_17_29 sh_0 rfl rfl rfl).trans ?_
      refine (E_il c_17_32 rfl).trans ?_
      refine (E_il c_17_33 rfl).trans ?_
      refine (E_ic (v := (1 : Int32)) c_17_34 (by decide)).trans ?_
      refine (E_cIV c_17_35 mi_20 rfl rfl (sO_kl sh_1) (Nat.le_of_ble_eq_true rfl) (Nat.le_of_ble_eq_true rfl)).trans (ax_bnd fun u2 => ?_)
      refine (E_b0_ne (q := 47) c_17_38 rfl).trans (ax_ite ?_ ?_)
      · refine (E_al c_17_41 rfl (by decide)).trans ?_
        refine (E_ic (v := (2 : Int32)) c_17_42 (by decide)).trans ?_
        refine (E_cLV c_17_43 mi_14 rfl (sO_kl sh_0) (Nat.le_of_ble_eq_true rfl) (Nat.le_of_ble_eq_true rfl)).trans (ax_bnd fun u3 => ?_)
        exact E_rL c_17_46 mi_17
      · refine (E_al c_17_47 rfl (by decide)).trans ?_
        refine (E_al c_17_48 rfl (by decide)).trans ?_
        refine (E_gfr (k := 0) (r := 1) c_17_49 sh_0 rfl rfl rfl).trans ?_
        refine (E_il c_17_52 rfl).trans ?_
        refine (E_il c_17_53 rfl).trans ?_
        refine (E_il c_17_54 rfl).trans ?_
        refine (E_cIV c_17_55 mi_21 rfl rfl (sO_kl sh_1) (Nat.le_of_ble_eq_true rfl) (Nat.le_of_ble_eq_true rfl)).trans (ax_bnd fun u4 => ?_)
        refine (E_i2l c_17_58).trans ?_
        refine (E_cLV c_17_59 mi_16 rfl (sO_kl sh_0) (Nat.le_of_ble_eq_true rfl) (Nat.le_of_ble_eq_true rfl)).trans (ax_bnd fun u5 => ?_)
        exact E_rL c_17_62 mi_17
    · refine (E_al c_17_22 rfl (by decide)).trans ?_
      refine (E_ic (v := (1 : Int32)) c_17_23 (by decide)).trans ?_
      refine (E_cLV c_17_24 mi_14 rfl (sO_kl sh_0) (Nat.le_of_ble_eq_true rfl) (Nat.le_of_ble_eq_true rfl)).trans (ax_bnd fun u6 => ?_)
      exact E_rL c_17_27 mi_17
set_option maxHeartbeats 4000000 in
theorem u_200_82 (d : Nat) (σ : ax_S) (x1 : Int32) (x2 : Int32) (x3 : Int32) : ev sO (d + 2) 200 0 [.ref 82, .int x1, .int x2, .int x3] [] σ = (cI sO (d + 1) 197 [.int x1] (sI σ 82 0 (0 : Int32))).bind fun u0 => if u0.1 = 0 then (some (some (.long (-9000000000000000001 : Int64)), u0.2)) else (gd (0 ≤ x1.toInt ∧ x1.toInt < (8 : Nat)) (if ((sI u0.2 82 1 (0 : Int32)).1 83 x1.toNatClampNeg) < 0 then ((cL sO (d + 1) 199 [.ref 82, .int (1 : Int32)] (sI u0.2 82 1 (0 : Int32))).bind fun u1 => some (some (.long u1.1), u1.2)) else (gd (0 ≤ x1.toInt ∧ x1.toInt < (8 : Nat)) ((cI sO (d + 1) 198 [.long x2.toInt64, .long (0 : Int64), .long ((((sI u0.2 82 1 (0 : Int32)).1 84 x1.toNatClampNeg) - (1 : Int32)).toInt64)] (sI u0.2 82 1 (0 : Int32))).bind fun u2 => if u2.1 = 0 then ((cL sO (d + 1) 199 [.ref 82, .int (2 : Int32)] u2.2).bind fun u3 => some (some (.long u3.1), u3.2)) else (gd (0 ≤ x1.toInt ∧ x1.toInt < (8 : Nat)) (if (u2.2.1 83 x1.toNatClampNeg) = 0 then (gd (0 ≤ (((40 : Int32) * x1) + x2).toInt ∧ (((40 : Int32) * x1) + x2).toInt < (320 : Nat)) (gd (0 ≤ (((40 : Int32) * x1) + x2).toInt ∧ (((40 : Int32) * x1) + x2).toInt < (320 : Nat)) (some (some (.long (((sI u2.2 85 (((40 : Int32) * x1) + x2).toNatClampNeg x3.toInt8.toInt32).1 85 (((40 : Int32) * x1) + x2).toNatClampNeg).toInt64)), (sI u2.2 85 (((40 : Int32) * x1) + x2).toNatClampNeg x3.toInt8.toInt32))))) else (gd (0 ≤ x1.toInt ∧ x1.toInt < (8 : Nat)) (if (u2.2.1 83 x1.toNatClampNeg) = (1 : Int32) then (gd (0 ≤ (((40 : Int32) * x1) + x2).toInt ∧ (((40 : Int32) * x1) + x2).toInt < (320 : Nat)) (gd (0 ≤ (((40 : Int32) * x1) + x2).toInt ∧ (((40 : Int32) * x1) + x2).toInt < (320 : Nat)) (some (some (.long (((sI u2.2 85 (((40 : Int32) * x1) + x2).toNatClampNeg x3.toInt16.toInt32).1 85 (((40 : Int32) * x1) + x2).toNatClampNeg).toInt64)), (sI u2.2 85 (((40 : Int32) * x1) + x2).toNatClampNeg x3.toInt16.toInt32))))) else (gd (0 ≤ (((40 : Int32) * x1) + x2).toInt ∧ (((40 : Int32) * x1) + x2).toInt < (320 : Nat)) (gd (0 ≤ (((40 : Int32) * x1) + x2).toInt ∧ (((40 : Int32) * x1) + x2).toInt < (320 : Nat)) (some (some (.long (((sI u2.2 85 (((40 : Int32) * x1) + x2).toNatClampNeg x3).1 85 (((40 : Int32) * x1) + x2).toNatClampNeg).toInt64)), (sI u2.2 85 (((40 : Int32) * x1) + x2).toNatClampNeg x3))))))))))))) := by
  refine (E_al c_200_0 rfl (by decide)).trans ?_
  refine (E_ic (v := (0 : Int32)) c_200_1 (by decide)).trans ?_
  refine (E_pfi (k := 0) c_200_2 sh_82 rfl rfl rfl).trans ?_
  refine (E_il c_200_5 rfl).trans ?_
  refine (E_cIS c_200_6 mi_197 rfl rfl (Nat.le_of_ble_eq_true rfl) (Nat.le_of_ble_eq_true rfl)).trans (ax_bnd fun u0 => ?_)
  refine (E_b0_ne (q := 16) c_200_9 rfl).trans (ax_ite ?_ ?_)
  · refine (E_l2 (v := (-9000000000000000001 : Int64)) c_200_12 (by decide)).trans ?_
    exact E_rL c_200_15 mi_200
  · refine (E_al c_200_16 rfl (by decide)).trans ?_
    refine (E_ic (v := (0 : Int32)) c_200_17 (by decide)).trans ?_
    refine (E_pfi (k := 1) c_200_18 sh_82 rfl rfl rfl).trans ?_
    refine (E_al c_200_21 rfl (by decide)).trans ?_
    refine (E_gfr (k := 2) (r := 83) c_200_22 sh_82 rfl rfl rfl).trans ?_
    refine (E_il c_200_25 rfl).trans ?_
    refine (E_ial c_200_26 sh_83).trans (ax_gd ?_)
    refine (E_b0_ge (q := 36) c_200_27 rfl).trans (ax_ite ?_ ?_)
    · refine (E_al c_200_30 rfl (by decide)).trans ?_
      refine (E_ic (v := (1 : Int32)) c_200_31 (by decide)).trans ?_
      refine (E_cLV c_200_32 mi_199 rfl (sO_kl sh_82) (Nat.le_of_ble_eq_true rfl) (Nat.le_of_ble_eq_true rfl)).trans (ax_bnd fun u1 => ?_)
      exact E_rL c_200_35 mi_200
    · refine (E_il c_200_36 rfl).trans ?_
      refine (E_i2l c_200_37).trans ?_
      refine (E_lc (v := (0 : Int64)) c_200_38 (by decide)).trans ?_
      refine (E_al c_200_39 rfl (by decide)).trans ?_
      refine (E_gfr (k := 3) (r := 84) c_200_40 sh_82 rfl rfl rfl).trans ?_
      refine (E_il c_200_43 rfl).trans ?_
      refine (E_ial c_200_44 sh_84).trans (ax_gd ?_)
      refine (E_ic (v := (1 : Int32)) c_200_45 (by decide)).trans ?_
      refine (E_isub c_200_46).trans ?_
      refine (E_i2l c_200_47).trans ?_
      refine (E_cIS c_200_48 mi_198 rfl rfl (Nat.le_of_ble_eq_true rfl) (Nat.le_of_ble_eq_true rfl)).trans (ax_bnd fun u2 => ?_)
      refine (E_b0_ne (q := 60) c_200_51 rfl).trans (ax_ite ?_ ?_)
      · refine (E_al c_200_54 rfl (by decide)).trans ?_
        refine (E_ic (v := (2 : Int32)) c_200_55 (by decide)).trans ?_
        refine (E_cLV c_200_56 mi_199 rfl (sO_kl sh_82) (Nat.le_of_ble_eq_true rfl) (Nat.le_of_ble_eq_true rfl)).trans (ax_bnd fun u3 => ?_)
        exact E_rL c_200_59 mi_200
      · refine (E_al c_200_60 rfl (by decide)).trans ?_
        refine (E_gfr (k := 4) (r := 85) c_200_61 sh_82 rfl rfl rfl).trans ?_
        refine (E_ic (v := (40 : Int32)) c_200_64 (by decide)).trans ?_
        refine (E_il c_200_66 rfl).trans ?_
        refine (E_imul c_200_67).trans ?_
        refine (E_il c_200_68 rfl).trans ?_
        refine (E_iadd c_200_69).trans ?_
        refine (E_al c_200_70 rfl (by decide)).trans ?_
        refine (E_gfr (k := 2) (r := 83) c_200_71 sh_82 rfl rfl rfl).trans ?_
        refine (E_il c_200_74 rfl).trans ?_
        refine (E_ial c_200_75 sh_83).trans (ax_gd ?_)
        refine (E_b0_ne (q := 84) c_200_76 rfl).trans (ax_ite ?_ ?_)
        · refine (E_il c_200_79 rfl).trans ?_
          refine (E_i2b c_200_80).trans ?_
          refine (E_goto (q := 100) c_200_81 rfl).trans ?_
          refine (E_ias (v := x3.toInt8.toInt32) c_200_100 sh_85 rfl).trans (ax_gd ?_)
          refine (E_al c_200_101 rfl (by decide)).trans ?_
          refine (E_gfr (k := 4) (r := 85) c_200_102 sh_82 rfl rfl rfl).trans ?_
          refine (E_ic (v := (40 : Int32)) c_200_105 (by decide)).trans ?_
          refine (E_il c_200_107 rfl).trans ?_
          refine (E_imul c_200_108).trans ?_
          refine (E_il c_200_109 rfl).trans ?_
          refine (E_iadd c_200_110).trans ?_
          refine (E_ial c_200_111 sh_85).trans (ax_gd ?_)
          refine (E_i2l c_200_112).trans ?_
          exact E_rL c_200_113 mi_200
        · refine (E_al c_200_84 rfl (by decide)).trans ?_
          refine (E_gfr (k := 2) (r := 83) c_200_85 sh_82 rfl rfl rfl).trans ?_
          refine (E_il c_200_88 rfl).trans ?_
          refine (E_ial c_200_89 sh_83).trans (ax_gd ?_)
          refine (E_ic (v := (1 : Int32)) c_200_90 (by decide)).trans ?_
          refine (E_br_ne (q := 99) c_200_91 rfl).trans (ax_ite ?_ ?_)
          · refine (E_il c_200_94 rfl).trans ?_
            refine (E_i2s c_200_95).trans ?_
            refine (E_goto (q := 100) c_200_96 rfl).trans ?_
            refine (E_ias (v := x3.toInt16.toInt32) c_200_100 sh_85 rfl).trans (ax_gd ?_)
            refine (E_al c_200_101 rfl (by decide)).trans ?_
            refine (E_gfr (k := 4) (r := 85) c_200_102 sh_82 rfl rfl rfl).trans ?_
            refine (E_ic (v := (40 : Int32)) c_200_105 (by decide)).trans ?_
            refine (E_il c_200_107 rfl).trans ?_
            refine (E_imul c_200_108).trans ?_
            refine (E_il c_200_109 rfl).trans ?_
            refine (E_iadd c_200_110).trans ?_
            refine (E_ial c_200_111 sh_85).trans (ax_gd ?_)
            refine (E_i2l c_200_112).trans ?_
            exact E_rL c_200_113 mi_200
          · refine (E_il c_200_99 rfl).trans ?_
            refine (E_ias (v := x3) c_200_100 sh_85 rfl).trans (ax_gd ?_)
            refine (E_al c_200_101 rfl (by decide)).trans ?_
            refine (E_gfr (k := 4) (r := 85) c_200_102 sh_82 rfl rfl rfl).trans ?_
            refine (E_ic (v := (40 : Int32)) c_200_105 (by decide)).trans ?_
            refine (E_il c_200_107 rfl).trans ?_
            refine (E_imul c_200_108).trans ?_
            refine (E_il c_200_109 rfl).trans ?_
            refine (E_iadd c_200_110).trans ?_
            refine (E_ial c_200_111 sh_85).trans (ax_gd ?_)
            refine (E_i2l c_200_112).trans ?_
            exact E_rL c_200_113 mi_200
set_option maxHeartbeats 4000000 in
theorem u_22_0 (d : Nat) (σ : ax_S) (x1 : Int32) (x2 : Int32) (x3 : Int32) (x4 : Int32) (x5 : Int32) : ev sO (d + 4) 22 0 [.ref 0, .int x1, .int x2, .int x3, .int x4, .int x5] [] σ = (cI sO (d + 3) 13 [.int x1] σ).bind fun u0 => if u0.1 = 0 then (some (some (.long (-9000000000000000001 : Int64)), u0.2)) else ((cI sO (d + 3) 13 [.int x3] u0.2).bind fun u1 => if u1.1 = 0 then (some (some (.long (-9000000000000000001 : Int64)), u1.2)) else ((cI sO (d + 3) 18 [.ref 1, .int x1] u1.2).bind fun u2 => if u2.1 = 0 then ((cI sO (d + 3) 18 [.ref 1, .int x3] u2.2).bind fun u3 => if u3.1 = 0 then ((cI sO (d + 3) 23 [.ref 1, .int x1] u3.2).bind fun u4 => (cI sO (d + 3) 23 [.ref 1, .int x3] u4.2).bind fun u5 => if u4.1 = u5.1 then ((cI sO (d + 3) 20 [.ref 1, .int x1, .int x2, .int x5] u5.2).bind fun u6 => if u6.1 = 0 then ((cL sO (d + 3) 14 [.ref 0, .int (2 : Int32)] u6.2).bind fun u7 => some (some (.long u7.1), u7.2)) else ((cI sO (d + 3) 20 [.ref 1, .int x3, .int x4, .int x5] u6.2).bind fun u8 => if u8.1 = 0 then ((cL sO (d + 3) 14 [.ref 0, .int (2 : Int32)] u8.2).bind fun u9 => some (some (.long u9.1), u9.2)) else ((cV sO (d + 3) 24 [.ref 1, .int x1, .int x2, .int x3, .int x4, .int x5] u8.2).bind fun u10 => (cL sO (d + 3) 16 [.ref 0, .long x5.toInt64] u10).bind fun u11 => some (some (.long u11.1), u11.2)))) else ((cL sO (d + 3) 14 [.ref 0, .int (5 : Int32)] u5.2).bind fun u12 => some (some (.long u12.1), u12.2))) else ((cL sO (d + 3) 14 [.ref 0, .int (1 : Int32)] u3.2).bind fun u13 => some (some (.long u13.1), u13.2))) else ((cL sO (d + 3) 14 [.ref 0, .int (1 : Int32)] u2.2).bind fun u14 => some (some (.long u14.1), u14.2)))) := by
  refine (E_il c_22_0 rfl).trans ?_
  refine (E_cIS c_22_1 mi_13 rfl rfl (Nat.le_of_ble_eq_true rfl) (Nat.le_of_ble_eq_true rfl)).trans (ax_bnd fun u0 => ?_)
  refine (E_b0_eq (q := 14) c_22_4 rfl).trans (ax_ite ?_ ?_)
  · refine (E_l2 (v := (-9000000000000000001 : Int64)) c_22_14 (by decide)).trans ?_
    exact E_rL c_22_17 mi_22
  · refine (E_il c_22_7 rfl).trans ?_
    refine (E_cIS c_22_8 mi_13 rfl rfl (Nat.le_of_ble_eq_true rfl) (Nat.le_of_ble_eq_true rfl)).trans (ax_bnd fun u1 => ?_)
    refine (E_b0_ne (q := 18) c_22_11 rfl).trans (ax_ite ?_ ?_)
    · refine (E_l2 (v := (-9000000000000000001 : Int64)) c_22_14 (by decide)).trans ?_
      exact E_rL c_22_17 mi_22
    · refine (E_al c_22_18 rfl (by decide)).trans ?_
      refine (E_gfr (k := 0) (r := 1) c_22_19 sh_0 rfl rfl rfl).trans ?_
      refine (E_il c_22_22 rfl).trans ?_
      refine (E_cIV c_22_23 mi_18 rfl rfl (sO_kl sh_1) (Nat.le_of_ble_eq_true rfl) (Nat.le_of_ble_eq_true rfl)).trans (ax_bnd fun u2 => ?_)
      refine (E_b0_ne (q := 40) c_22_26 rfl).trans (ax_ite ?_ ?_)
      · refine (E_al c_22_29 rfl (by decide)).trans ?_
        refine (E_gfr (k := 0) (r := 1) c_22_30 sh_0 rfl rfl rfl).trans ?_
        refine (E_il c_22_33 rfl).trans ?_
        refine (E_cIV c_22_34 mi_18 rfl rfl (sO_kl sh_1) (Nat.le_of_ble_eq_true rfl) (Nat.le_of_ble_eq_true rfl)).trans (ax_bnd fun u3 => ?_)
        refine (E_b0_eq (q := 46) c_22_37 rfl).trans (ax_ite ?_ ?_)
        · refine (E_al c_22_46 rfl (by decide)).trans ?_
          refine (E_gfr (k := 0) (r := 1) c_22_47 sh_0 rfl rfl rfl).trans ?_
          refine (E_il c_22_50 rfl).trans ?_
          refine (E_cIV c_22_51 mi_23 rfl rfl (sO_kl sh_1) (Nat.le_of_ble_eq_true rfl) (Nat.le_of_ble_eq_true rfl)).trans (ax_bnd fun u4 => ?_)
          refine (E_al c_22_54 rfl (by decide)).trans ?_
          refine (E_gfr (k := 0) (r := 1) c_22_55 sh_0 rfl rfl rfl).trans ?_
          refine (E_il c_22_58 rfl).trans ?_
          refine (E_cIV c_22_59 mi_23 rfl rfl (sO_kl sh_1) (Nat.le_of_ble_eq_true rfl) (Nat.le_of_ble_eq_true rfl)).trans (ax_bnd fun u5 => ?_)
          refine (E_br_eq (q := 71) c_22_62 rfl).trans (ax_ite ?_ ?_)
          · refine (E_al c_22_71 rfl (by decide)).trans ?_
            refine (E_gfr (k := 0) (r := 1) c_22_72 sh_0 rfl rfl rfl).trans ?_
            refine (E_il c_22_75 rfl).trans ?_
            refine (E_il c_22_76 rfl).trans ?_
            refine (E_il c_22_77 rfl).trans ?_
            refine (E_cIV c_22_79 mi_20 rfl rfl (sO_kl sh_1) (Nat.le_of_ble_eq_true rfl) (Nat.le_of_ble_eq_true rfl)).trans (ax_bnd fun u6 => ?_)
            refine (E_b0_eq (q := 100) c_22_82 rfl).trans (ax_ite ?_ ?_)
            · refine (E_al c_22_100 rfl (by decide)).trans ?_
              refine (E_ic (v := (2 : Int32)) c_22_101 (by decide)).trans ?_
              refine (E_cLV c_22_102 mi_14 rfl (sO_kl sh_0) (Nat.le_of_ble_eq_true rfl) (Nat.le_of_ble_eq_true rfl)).trans (ax_bnd fun u7 => ?_)
              exact E_rL c_22_105 mi_22
            · refine (E_al c_22_85 rfl (by decide)).trans ?_
              refine (E_gfr (k := 0) (r := 1) c_22_86 sh_0 rfl rfl rfl).trans ?_
              refine (E_il c_22_89 rfl).trans ?_
              refine (E_il c_22_90 rfl).trans ?_
              refine (E_il c_22_92 rfl).trans ?_
              refine (E_cIV c_22_94 mi_20 rfl rfl (sO_kl sh_1) (Nat.le_of_ble_eq_true rfl) (Nat.le_of_ble_eq_true rfl)).trans (ax_bnd fun u8 => ?_)
              refine (E_b0_ne (q := 106) c_22_97 rfl).trans (ax_ite ?_ ?_)
              · refine (E_al c_22_100 rfl (by decide)).trans ?_
                refine (E_ic (v := (2 : Int32)) c_22_101 (by decide)).trans ?_
                refine (E_cLV c_22_102 mi_14 rfl (sO_kl sh_0) (Nat.le_of_ble_eq_true rfl) (Nat.le_of_ble_eq_true rfl)).trans (ax_bnd fun u9 => ?_)
                exact E_rL c_22_105 mi_22
              · refine (E_al c_22_106 rfl (by decide)).trans ?_
                refine (E_gfr (k := 0) (r := 1) c_22_107 sh_0 rfl rfl rfl).trans ?_
                refine (E_il c_22_110 rfl).trans ?_
                refine (E_il c_22_111 rfl).trans ?_
                refine (E_il c_22_112 rfl).trans ?_
                refine (E_il c_22_113 rfl).trans ?_
                refine (E_il c_22_115 rfl).trans ?_
                refine (E_cVV c_22_117 mi_24 rfl (sO_kl sh_1) (Nat.le_of_ble_eq_true rfl) (Nat.le_of_ble_eq_true rfl)).trans (ax_bnd fun u10 => ?_)
                refine (E_al c_22_120 rfl (by decide)).trans ?_
                refine (E_il c_22_121 rfl).trans ?_
                refine (E_i2l c_22_123).trans ?_
                refine (E_cLV c_22_124 mi_16 rfl (sO_kl sh_0) (Nat.le_of_ble_eq_true rfl) (Nat.le_of_ble_eq_true rfl)).trans (ax_bnd fun u11 => ?_)
                exact E_rL c_22_127 mi_22
          · refine (E_al c_22_65 rfl (by decide)).trans ?_
            refine (E_ic (v := (5 : Int32)) c_22_66 (by decide)).trans ?_
            refine (E_cLV c_22_67 mi_14 rfl (sO_kl sh_0) (Nat.le_of_ble_eq_true rfl) (Nat.le_of_ble_eq_true rfl)).trans (ax_bnd fun u12 => ?_)
            exact E_rL c_22_70 mi_22
        · refine (E_al c_22_40 rfl (by decide)).trans ?_
          refine (E_ic (v := (1 : Int32)) c_22_41 (by decide)).trans ?_
          refine (E_cLV c_22_42 mi_14 rfl (sO_kl sh_0) (Nat.le_of_ble_eq_true rfl) (Nat.le_of_ble_eq_true rfl)).trans (ax_bnd fun u13 => ?_)
          exact E_rL c_22_45 mi_22
      · refine (E_al c_22_40 rfl (by decide)).trans ?_
        refine (E_ic (v := (1 : Int32)) c_22_41 (by decide)).trans ?_
        refine (E_cLV c_22_42 mi_14 rfl (sO_kl sh_0) (Nat.le_of_ble_eq_true rfl) (Nat.le_of_ble_eq_true rfl)).trans (ax_bnd fun u14 => ?_)
        exact E_rL c_22_45 mi_22
set_option maxHeartbeats 4000000 in
theorem u_201_82 (d : Nat) (σ : ax_S) (x1 : Int32) (x2 : Int32) (x3 : Int32) (x4 : Int32) (x5 : Int32) : ev sO (d + 2) 201 0 [.ref 82, .int x1, .int x2, .int x3, .int x4, .int x5, .null, .null, .null] [] σ = (cI sO (d + 1) 197 [.int x1] (sI σ 82 0 (0 : Int32))).bind fun u0 => if u0.1 = 0 then (some (some (.long (-9000000000000000001 : Int64)), u0.2)) else ((cI sO (d + 1) 197 [.int x3] u0.2).bind fun u1 => if u1.1 = 0 then (some (some (.long (-9000000000000000001 : Int64)), u1.2)) else (gd (0 ≤ x1.toInt ∧ x1.toInt < (8 : Nat)) (if ((sI u1.2 82 1 (0 : Int32)).1 83 x1.toNatClampNeg) < 0 then ((cL sO (d + 1) 199 [.ref 82, .int (1 : Int32)] (sI u1.2 82 1 (0 : Int32))).bind fun u2 => some (some (.long u2.1), u2.2)) else (gd (0 ≤ x3.toInt ∧ x3.toInt < (8 : Nat)) (if ((sI u1.2 82 1 (0 : Int32)).1 83 x3.toNatClampNeg) < 0 then ((cL sO (d + 1) 199 [.ref 82, .int (1 : Int32)] (sI u1.2 82 1 (0 : Int32))).bind fun u3 => some (some (.long u3.1), u3.2)) else (gd (0 ≤ x1.toInt ∧ x1.toInt < (8 : Nat)) (gd (0 ≤ x3.toInt ∧ x3.toInt < (8 : Nat)) (if ((sI u1.2 82 1 (0 : Int32)).1 83 x1.toNatClampNeg) = ((sI u1.2 82 1 (0 : Int32)).1 83 x3.toNatClampNeg) then (if x2 < 0 then ((cL sO (d + 1) 199 [.ref 82, .int (2 : Int32)] (sI u1.2 82 1 (0 : Int32))).bind fun u4 => some (some (.long u4.1), u4.2)) else (if x4 < 0 then ((cL sO (d + 1) 199 [.ref 82, .int (2 : Int32)] (sI u1.2 82 1 (0 : Int32))).bind fun u5 => some (some (.long u5.1), u5.2)) else (if x5 < 0 then ((cL sO (d + 1) 199 [.ref 82, .int (2 : Int32)] (sI u1.2 82 1 (0 : Int32))).bind fun u6 => some (some (.long u6.1), u6.2)) else (gd (0 ≤ x1.toInt ∧ x1.toInt < (8 : Nat)) (if 0 < (lg_cmp (x2.toInt64 + x5.toInt64) (((sI u1.2 82 1 (0 : Int32)).1 84 x1.toNatClampNeg).toInt64)) then ((cL sO (d + 1) 199 [.ref 82, .int (2 : Int32)] (sI u1.2 82 1 (0 : Int32))).bind fun u7 => some (some (.long u7.1), u7.2)) else (gd (0 ≤ x3.toInt ∧ x3.toInt < (8 : Nat)) (if 0 < (lg_cmp (x4.toInt64 + x5.toInt64) (((sI u1.2 82 1 (0 : Int32)).1 84 x3.toNatClampNeg).toInt64)) then ((cL sO (d + 1) 199 [.ref 82, .int (2 : Int32)] (sI u1.2 82 1 (0 : Int32))).bind fun u8 => some (some (.long u8.1), u8.2)) else (if x2 < x4 then (ev sO (d + 2) 201 144 [.ref 82, .int x1, .int x2, .int x3, .int x4, .int x5, .int (0 : Int32), .int (0 : Int32), .null] [] (sI u1.2 82 1 (0 : Int32))) else (ev sO (d + 2) 201 144 [.ref 82, .int x1, .int x2, .int x3, .int x4, .int x5, .int (1 : Int32), .int (0 : Int32), .null] [] (sI u1.2 82 1 (0 : Int32))))))))))) else ((cL sO (d + 1) 199 [.ref 82, .int (5 : Int32)] (sI u1.2 82 1 (0 : Int32))).bind fun u9 => some (some (.long u9.1), u9.2)))))))))) := by
  refine (E_al c_201_0 rfl (by decide)).trans ?_
  refine (E_ic (v := (0 : Int32)) c_201_1 (by decide)).trans ?_
  refine (E_pfi (k := 0) c_201_2 sh_82 rfl rfl rfl).trans ?_
  refine (E_il c_201_5 rfl).trans ?_
  refine (E_cIS c_201_6 mi_197 rfl rfl (Nat.le_of_ble_eq_true rfl) (Nat.le_of_ble_eq_true rfl)).trans (ax_bnd fun u0 => ?_)
  refine (E_b0_eq (q := 19) c_201_9 rfl).trans (ax_ite ?_ ?_)
  · refine (E_l2 (v := (-9000000000000000001 : Int64)) c_201_19 (by decide)).trans ?_
    exact E_rL c_201_22 mi_201
  · refine (E_il c_201_12 rfl).trans ?_
    refine (E_cIS c_201_13 mi_197 rfl rfl (Nat.le_of_ble_eq_true rfl) (Nat.le_of_ble_eq_true rfl)).trans (ax_bnd fun u1 => ?_)
    refine (E_b0_ne (q := 23) c_201_16 rfl).trans (ax_ite ?_ ?_)
    · refine (E_l2 (v := (-9000000000000000001 : Int64)) c_201_19 (by decide)).trans ?_
      exact E_rL c_201_22 mi_201
    · refine (E_al c_201_23 rfl (by decide)).trans ?_
      refine (E_ic (v := (0 : Int32)) c_201_24 (by decide)).trans ?_
      refine (E_pfi (k := 1) c_201_25 sh_82 rfl rfl rfl).trans ?_
      refine (E_al c_201_28 rfl (by decide)).trans ?_
      refine (E_gfr (k := 2) (r := 83) c_201_29 sh_82 rfl rfl rfl).trans ?_
      refine (E_il c_201_32 rfl).trans ?_
      refine (E_ial c_201_33 sh_83).trans (ax_gd ?_)
      refine (E_b0_lt (q := 46) c_201_34 rfl).trans (ax_ite ?_ ?_)
      · refine (E_al c_201_46 rfl (by decide)).trans ?_
        refine (E_ic (v := (1 : Int32)) c_201_47 (by decide)).trans ?_
        refine (E_cLV c_201_48 mi_199 rfl (sO_kl sh_82) (Nat.le_of_ble_eq_true rfl) (Nat.le_of_ble_eq_true rfl)).trans (ax_bnd fun u2 => ?_)
        exact E_rL c_201_51 mi_201
      · refine (E_al c_201_37 rfl (by decide)).trans ?_
        refine (E_gfr (k := 2) (r := 83) c_201_38 sh_82 rfl rfl rfl).trans ?_
        refine (E_il c_201_41 rfl).trans ?_
        refine (E_ial c_201_42 sh_83).trans (ax_gd ?_)
        refine (E_b0_ge (q := 52) c_201_43 rfl).trans (ax_ite ?_ ?_)
        · refine (E_al c_201_46 rfl (by decide)).trans ?_
          refine (E_ic (v := (1 : Int32)) c_201_47 (by decide)).trans ?_
          refine (E_cLV c_201_48 mi_199 rfl (sO_kl sh_82) (Nat.le_of_ble_eq_true rfl) (Nat.le_of_ble_eq_true rfl)).trans (ax_bnd fun u3 => ?_)
          exact E_rL c_201_51 mi_201
        · refine (E_al c_201_52 rfl (by decide)).trans ?_
          refine (E_gfr (k := 2) (r := 83) c_201_53 sh_82 rfl rfl rfl).trans ?_
          refine (E_il c_201_56 rfl).trans ?_
          refine (E_ial c_201_57 sh_83).trans (ax_gd ?_)
          refine (E_al c_201_58 rfl (by decide)).trans ?_
          refine (E_gfr (k := 2) (r := 83) c_201_59 sh_82 rfl rfl rfl).trans ?_
          refine (E_il c_201_62 rfl).trans ?_
          refine (E_ial c_201_63 sh_83).trans (ax_gd ?_)
          refine (E_br_eq (q := 73) c_201_64 rfl).trans (ax_ite ?_ ?_)
          · refine (E_il c_201_73 rfl).trans ?_
            refine (E_b0_lt (q := 122) c_201_74 rfl).trans (ax_ite ?_ ?_)
            · refine (E_al c_201_122 rfl (by decide)).trans ?_
              refine (E_ic (v := (2 : Int32)) c_201_123 (by decide)).trans ?_
              refine (E_cLV c_201_124 mi_199 rfl (sO_kl sh_82) (Nat.le_of_ble_eq_true rfl) (Nat.le_of_ble_eq_true rfl)).trans (ax_bnd fun u4 => ?_)
              exact E_rL c_201_127 mi_201
            · refine (E_il c_201_77 rfl).trans ?_
              refine (E_b0_lt (q := 122) c_201_79 rfl).trans (ax_ite ?_ ?_)
              · refine (E_al c_201_122 rfl (by decide)).trans ?_
                refine (E_ic (v := (2 : Int32)) c_201_123 (by decide)).trans ?_
                refine (E_cLV c_201_124 mi_199 rfl (sO_kl sh_82) (Nat.le_of_ble_eq_true rfl) (Nat.le_of_ble_eq_true rfl)).trans (ax_bnd fun u5 => ?_)
                exact E_rL c_201_127 mi_201
              · refine (E_il c_201_82 rfl).trans ?_
                refine (E_b0_lt (q := 122) c_201_84 rfl).trans (ax_ite ?_ ?_)
                · refine (E_al c_201_122 rfl (by decide)).trans ?_
                  refine (E_ic (v := (2 : Int32)) c_201_123 (by decide)).trans ?_
                  refine (E_cLV c_201_124 mi_199 rfl (sO_kl sh_82) (Nat.le_of_ble_eq_true rfl) (Nat.le_of_ble_eq_true rfl)).trans (ax_bnd fun u6 => ?_)
                  exact E_rL c_201_127 mi_201
                · refine (E_il c_201_87 rfl).trans ?_
                  refine (E_i2l c_201_88).trans ?_
                  refine (E_il c_201_89 rfl).trans ?_
                  refine (E_i2l c_201_91).trans ?_
                  refine (E_ladd c_201_92).trans ?_
                  refine (E_al c_201_93 rfl (by decide)).trans ?_
                  refine (E_gfr (k := 3) (r := 84) c_201_94 sh_82 rfl rfl rfl).trans ?_
                  refine (E_il c_201_97 rfl).trans ?_
                  refine (E_ial c_201_98 sh_84).trans (ax_gd ?_)
                  refine (E_i2l c_201_99).trans ?_
                  refine (E_lcmp c_201_100).trans ?_
                  refine (E_b0_gt (q := 122) c_201_101 rfl).trans (ax_ite ?_ ?_)
                  · refine (E_al c_201_122 rfl (by decide)).trans ?_
                    refine (E_ic (v := (2 : Int32)) c_201_123 (by decide)).trans ?_
                    refine (E_cLV c_201_124 mi_199 rfl (sO_kl sh_82) (Nat.le_of_ble_eq_true rfl) (Nat.le_of_ble_eq_true rfl)).trans (ax_bnd fun u7 => ?_)
                    exact E_rL c_201_127 mi_201
                  · refine (E_il c_201_104 rfl).trans ?_
                    refine (E_i2l c_201_106).trans ?_
                    refine (E_il c_201_107 rfl).trans ?_
                    refine (E_i2l c_201_109).trans ?_
                    refine (E_ladd c_201_110).trans ?_
                    refine (E_al c_201_111 rfl (by decide)).trans ?_
                    refine (E_gfr (k := 3) (r := 84) c_201_112 sh_82 rfl rfl rfl).trans ?_
                    refine (E_il c_201_115 rfl).trans ?_
                    refine (E_ial c_201_116 sh_84).trans (ax_gd ?_)
                    refine (E_i2l c_201_117).trans ?_
                    refine (E_lcmp c_201_118).trans ?_
                    refine (E_b0_le (q := 128) c_201_119 rfl).trans (ax_ite ?_ ?_)
                    · refine (E_al c_201_122 rfl (by decide)).trans ?_
                      refine (E_ic (v := (2 : Int32)) c_201_123 (by decide)).trans ?_
                      refine (E_cLV c_201_124 mi_199 rfl (sO_kl sh_82) (Nat.le_of_ble_eq_true rfl) (Nat.le_of_ble_eq_true rfl)).trans (ax_bnd fun u8 => ?_)
                      exact E_rL c_201_127 mi_201
                    · refine (E_il c_201_128 rfl).trans ?_
                      refine (E_il c_201_129 rfl).trans ?_
                      refine (E_br_lt (q := 138) c_201_131 rfl).trans (ax_ite ?_ ?_)
                      · refine (E_ic (v := (0 : Int32)) c_201_138 (by decide)).trans ?_
                        refine (E_is (L' := [.ref 82, .int x1, .int x2, .int x3, .int x4, .int x5, .int (0 : Int32), .null, .null]) c_201_139 (Nat.le_of_ble_eq_true rfl) rfl).trans ?_
                        refine (E_ic (v := (0 : Int32)) c_201_141 (by decide)).trans ?_
                        refine (E_is (L' := [.ref 82, .int x1, .int x2, .int x3, .int x4, .int x5, .int (0 : Int32), .int (0 : Int32), .null]) c_201_142 (Nat.le_of_ble_eq_true rfl) rfl).trans ?_
                        rfl
                      · refine (E_ic (v := (1 : Int32)) c_201_134 (by decide)).trans ?_
                        refine (E_goto (q := 139) c_201_135 rfl).trans ?_
                        refine (E_is (L' := [.ref 82, .int x1, .int x2, .int x3, .int x4, .int x5, .int (1 : Int32), .null, .null]) c_201_139 (Nat.le_of_ble_eq_true rfl) rfl).trans ?_
                        refine (E_ic (v := (0 : Int32)) c_201_141 (by decide)).trans ?_
                        refine (E_is (L' := [.ref 82, .int x1, .int x2, .int x3, .int x4, .int x5, .int (1 : Int32), .int (0 : Int32), .null]) c_201_142 (Nat.le_of_ble_eq_true rfl) rfl).trans ?_
                        rfl
          · refine (E_al c_201_67 rfl (by decide)).trans ?_
            refine (E_ic (v := (5 : Int32)) c_201_68 (by decide)).trans ?_
            refine (E_cLV c_201_69 mi_199 rfl (sO_kl sh_82) (Nat.le_of_ble_eq_true rfl) (Nat.le_of_ble_eq_true rfl)).trans (ax_bnd fun u9 => ?_)
            exact E_rL c_201_72 mi_201
set_option maxHeartbeats 4000000 in
theorem u_201_82p144 (d : Nat) (σ : ax_S) (x1 : Int32) (x2 : Int32) (x3 : Int32) (x4 : Int32) (x5 : Int32) (x6 : Int32) (x7 : Int32) (w8 : Value) (hw8 : w8.category = 1) : ev sO (d + 2) 201 144 [.ref 82, .int x1, .int x2, .int x3, .int x4, .int x5, .int x6, .int x7, w8] [] σ = if x7 < x5 then (if x6 = 0 then (gd (0 ≤ ((((40 : Int32) * x1) + x2) + ((x5 - (1 : Int32)) - x7)).toInt ∧ ((((40 : Int32) * x1) + x2) + ((x5 - (1 : Int32)) - x7)).toInt < (320 : Nat)) (gd (0 ≤ ((((40 : Int32) * x3) + x4) + ((x5 - (1 : Int32)) - x7)).toInt ∧ ((((40 : Int32) * x3) + x4) + ((x5 - (1 : Int32)) - x7)).toInt < (320 : Nat)) (ev sO (d + 2) 201 144 [.ref 82, .int x1, .int x2, .int x3, .int x4, .int x5, .int x6, .int (x7 + (1 : Int32)), .int ((x5 - (1 : Int32)) - x7)] [] (sI σ 85 ((((40 : Int32) * x3) + x4) + ((x5 - (1 : Int32)) - x7)).toNatClampNeg (σ.1 85 ((((40 : Int32) * x1) + x2) + ((x5 - (1 : Int32)) - x7)).toNatClampNeg))))) else (gd (0 ≤ ((((40 : Int32) * x1) + x2) + x7).toInt ∧ ((((40 : Int32) * x1) + x2) + x7).toInt < (320 : Nat)) (gd (0 ≤ ((((40 : Int32) * x3) + x4) + x7).toInt ∧ ((((40 : Int32) * x3) + x4) + x7).toInt < (320 : Nat)) (ev sO (d + 2) 201 144 [.ref 82, .int x1, .int x2, .int x3, .int x4, .int x5, .int x6, .int (x7 + (1 : Int32)), .int x7] [] (sI σ 85 ((((40 : Int32) * x3) + x4) + x7).toNatClampNeg (σ.1 85 ((((40 : Int32) * x1) + x2) + x7).toNatClampNeg)))))) else (some (some (.long x5.toInt64), σ)) := by
  refine (E_il c_201_144 rfl).trans ?_
  refine (E_il c_201_146 rfl).trans ?_
  refine (E_br_ge (q := 205) c_201_148 rfl).trans (ax_ite ?_ ?_)
  · refine (E_il c_201_151 rfl).trans ?_
    refine (E_b0_eq (q := 161) c_201_153 rfl).trans (ax_ite ?_ ?_)
    · refine (E_il c_201_161 rfl).trans ?_
      refine (E_ic (v := (1 : Int32)) c_201_163 (by decide)).trans ?_
      refine (E_isub c_201_164).trans ?_
      refine (E_il c_201_165 rfl).trans ?_
      refine (E_isub c_201_167).trans ?_
      refine (E_is (L' := [.ref 82, .int x1, .int x2, .int x3, .int x4, .int x5, .int x6, .int x7, .int ((x5 - (1 : Int32)) - x7)]) c_201_168 (Nat.le_of_ble_eq_true rfl) rfl).trans ?_
      refine (E_al c_201_170 rfl (by decide)).trans ?_
      refine (E_gfr (k := 4) (r := 85) c_201_171 sh_82 rfl rfl rfl).trans ?_
      refine (E_ic (v := (40 : Int32)) c_201_174 (by decide)).trans ?_
      refine (E_il c_201_176 rfl).trans ?_
      refine (E_imul c_201_177).trans ?_
      refine (E_il c_201_178 rfl).trans ?_
      refine (E_iadd c_201_180).trans ?_
      refine (E_il c_201_181 rfl).trans ?_
      refine (E_iadd c_201_183).trans ?_
      refine (E_al c_201_184 rfl (by decide)).trans ?_
      refine (E_gfr (k := 4) (r := 85) c_201_185 sh_82 rfl rfl rfl).trans ?_
      refine (E_ic (v := (40 : Int32)) c_201_188 (by decide)).trans ?_
      refine (E_il c_201_190 rfl).trans ?_
      refine (E_imul c_201_191).trans ?_
      refine (E_il c_201_192 rfl).trans ?_
      refine (E_iadd c_201_193).trans ?_
      refine (E_il c_201_194 rfl).trans ?_
      refine (E_iadd c_201_196).trans ?_
      refine (E_ial c_201_197 sh_85).trans (ax_gd ?_)
      refine (E_ias (v := (σ.1 85 ((((40 : Int32) * x1) + x2) + ((x5 - (1 : Int32)) - x7)).toNatClampNeg)) c_201_198 sh_85 rfl).trans (ax_gd ?_)
      refine (E_inc (v := (1 : Int32)) (L' := [.ref 82, .int x1, .int x2, .int x3, .int x4, .int x5, .int x6, .int (x7 + (1 : Int32)), .int ((x5 - (1 : Int32)) - x7)]) c_201_199 rfl (by decide) rfl).trans ?_
      refine (E_goto (q := 144) c_201_202 rfl).trans ?_
      rfl
    · refine (E_il c_201_156 rfl).trans ?_
      refine (E_goto (q := 168) c_201_158 rfl).trans ?_
      refine (E_is (L' := [.ref 82, .int x1, .int x2, .int x3, .int x4, .int x5, .int x6, .int x7, .int x7]) c_201_168 (Nat.le_of_ble_eq_true rfl) rfl).trans ?_
      refine (E_al c_201_170 rfl (by decide)).trans ?_
      refine (E_gfr (k := 4) (r := 85) c_201_171 sh_82 rfl rfl rfl).trans ?_
      refine (E_ic (v := (40 : Int32)) c_201_174 (by decide)).trans ?_
      refine (E_il c_201_176 rfl).trans ?_
      refine (E_imul c_201_177).trans ?_
      refine (E_il c_201_178 rfl).trans ?_
      refine (E_iadd c_201_180).trans ?_
      refine (E_il c_201_181 rfl).trans ?_
      refine (E_iadd c_201_183).trans ?_
      refine (E_al c_201_184 rfl (by decide)).trans ?_
      refine (E_gfr (k := 4) (r := 85) c_201_185 sh_82 rfl rfl rfl).trans ?_
      refine (E_ic (v := (40 : Int32)) c_201_188 (by decide)).trans ?_
      refine (E_il c_201_190 rfl).trans ?_
      refine (E_imul c_201_191).trans ?_
      refine (E_il c_201_192 rfl).trans ?_
      refine (E_iadd c_201_193).trans ?_
      refine (E_il c_201_194 rfl).trans ?_
      refine (E_iadd c_201_196).trans ?_
      refine (E_ial c_201_197 sh_85).trans (ax_gd ?_)
      refine (E_ias (v := (σ.1 85 ((((40 : Int32) * x1) + x2) + x7).toNatClampNeg)) c_201_198 sh_85 rfl).trans (ax_gd ?_)
      refine (E_inc (v := (1 : Int32)) (L' := [.ref 82, .int x1, .int x2, .int x3, .int x4, .int x5, .int x6, .int (x7 + (1 : Int32)), .int x7]) c_201_199 rfl (by decide) rfl).trans ?_
      refine (E_goto (q := 144) c_201_202 rfl).trans ?_
      rfl
  · refine (E_il c_201_205 rfl).trans ?_
    refine (E_i2l c_201_207).trans ?_
    exact E_rL c_201_208 mi_201
set_option maxHeartbeats 4000000 in
theorem u_25_0 (d : Nat) (σ : ax_S) (x1 : Int32) : ev sO (d + 3) 25 0 [.ref 0, .int x1] [] σ = (cI sO (d + 2) 13 [.int x1] σ).bind fun u0 => if u0.1 = 0 then (some (some (.long (-9000000000000000001 : Int64)), u0.2)) else ((cI sO (d + 2) 18 [.ref 1, .int x1] u0.2).bind fun u1 => if u1.1 = 0 then ((cI sO (d + 2) 26 [.ref 1, .int x1] u1.2).bind fun u2 => (cL sO (d + 2) 16 [.ref 0, .long u2.1.toInt64] u2.2).bind fun u3 => some (some (.long u3.1), u3.2)) else ((cL sO (d + 2) 14 [.ref 0, .int (1 : Int32)] u1.2).bind fun u4 => some (some (.long u4.1), u4.2))) := by
  refine (E_il c_25_0 rfl).trans ?_
  refine (E_cIS c_25_1 mi_13 rfl rfl (Nat.le_of_ble_eq_true rfl) (Nat.le_of_ble_eq_true rfl)).trans (ax_bnd fun u0 => ?_)
  refine (E_b0_ne (q := 11) c_25_4 rfl).trans (ax_ite ?_ ?_)
  · refine (E_l2 (v := (-9000000000000000001 : Int64)) c_25_7 (by decide)).trans ?_
    exact E_rL c_25_10 mi_25
  · refine (E_al c_25_11 rfl (by decide)).trans ?_
    refine (E_gfr (k := 0) (r := 1) c_25_12 sh_0 rfl rfl rfl).trans ?_
    refine (E_il c_25_15 rfl).trans ?_
    refine (E_cIV c_25_16 mi_18 rfl rfl (sO_kl sh_1) (Nat.le_of_ble_eq_true rfl) (Nat.le_of_ble_eq_true rfl)).trans (ax_bnd fun u1 => ?_)
    refine (E_b0_eq (q := 28) c_25_19 rfl).trans (ax_ite ?_ ?_)
    · refine (E_al c_25_28 rfl (by decide)).trans ?_
      refine (E_al c_25_29 rfl (by decide)).trans ?_
      refine (E_gfr (k := 0) (r := 1) c_25_30 sh_0 rfl rfl rfl).trans ?_
      refine (E_il c_25_33 rfl).trans ?_
      refine (E_cIV c_25_34 mi_26 rfl rfl (sO_kl sh_1) (Nat.le_of_ble_eq_true rfl) (Nat.le_of_ble_eq_true rfl)).trans (ax_bnd fun u2 => ?_)
      refine (E_i2l c_25_37).trans ?_
      refine (E_cLV c_25_38 mi_16 rfl (sO_kl sh_0) (Nat.le_of_ble_eq_true rfl) (Nat.le_of_ble_eq_true rfl)).trans (ax_bnd fun u3 => ?_)
      exact E_rL c_25_41 mi_25
    · refine (E_al c_25_22 rfl (by decide)).trans ?_
      refine (E_ic (v := (1 : Int32)) c_25_23 (by decide)).trans ?_
      refine (E_cLV c_25_24 mi_14 rfl (sO_kl sh_0) (Nat.le_of_ble_eq_true rfl) (Nat.le_of_ble_eq_true rfl)).trans (ax_bnd fun u4 => ?_)
      exact E_rL c_25_27 mi_25
set_option maxHeartbeats 4000000 in
theorem u_202_82 (d : Nat) (σ : ax_S) (x1 : Int32) : ev sO (d + 2) 202 0 [.ref 82, .int x1] [] σ = (cI sO (d + 1) 197 [.int x1] (sI σ 82 0 (0 : Int32))).bind fun u0 => if u0.1 = 0 then (some (some (.long (-9000000000000000001 : Int64)), u0.2)) else (gd (0 ≤ x1.toInt ∧ x1.toInt < (8 : Nat)) (if ((sI u0.2 82 1 (0 : Int32)).1 83 x1.toNatClampNeg) < 0 then ((cL sO (d + 1) 199 [.ref 82, .int (1 : Int32)] (sI u0.2 82 1 (0 : Int32))).bind fun u1 => some (some (.long u1.1), u1.2)) else (gd (0 ≤ x1.toInt ∧ x1.toInt < (8 : Nat)) (gd (0 ≤ x1.toInt ∧ x1.toInt < (8 : Nat)) (some (some (.long (((sI (sI u0.2 82 1 (0 : Int32)) 83 x1.toNatClampNeg (-1 : Int32)).1 84 x1.toNatClampNeg).toInt64)), (sI (sI u0.2 82 1 (0 : Int32)) 83 x1.toNatClampNeg (-1 : Int32)))))))) := by
  refine (E_al c_202_0 rfl (by decide)).trans ?_
  refine (E_ic (v := (0 : Int32)) c_202_1 (by decide)).trans ?_
  refine (E_pfi (k := 0) c_202_2 sh_82 rfl rfl rfl).trans ?_
  refine (E_il c_202_5 rfl).trans ?_
  refine (E_cIS c_202_6 mi_197 rfl rfl (Nat.le_of_ble_eq_true rfl) (Nat.le_of_ble_eq_true rfl)).trans (ax_bnd fun u0 => ?_)
  refine (E_b0_ne (q := 16) c_202_9 rfl).trans (ax_ite ?_ ?_)
  · refine (E_l2 (v := (-9000000000000000001 : Int64)) c_202_12 (by decide)).trans ?_
    exact E_rL c_202_15 mi_202
  · refine (E_al c_202_16 rfl (by decide)).trans ?_
    refine (E_ic (v := (0 : Int32)) c_202_17 (by decide)).trans ?_
    refine (E_pfi (k := 1) c_202_18 sh_82 rfl rfl rfl).trans ?_
    refine (E_al c_202_21 rfl (by decide)).trans ?_
    refine (E_gfr (k := 2) (r := 83) c_202_22 sh_82 rfl rfl rfl).trans ?_
    refine (E_il c_202_25 rfl).trans ?_
    refine (E_ial c_202_26 sh_83).trans (ax_gd ?_)
    refine (E_b0_ge (q := 36) c_202_27 rfl).trans (ax_ite ?_ ?_)
    · refine (E_al c_202_30 rfl (by decide)).trans ?_
      refine (E_ic (v := (1 : Int32)) c_202_31 (by decide)).trans ?_
      refine (E_cLV c_202_32 mi_199 rfl (sO_kl sh_82) (Nat.le_of_ble_eq_true rfl) (Nat.le_of_ble_eq_true rfl)).trans (ax_bnd fun u1 => ?_)
      exact E_rL c_202_35 mi_202
    · refine (E_al c_202_36 rfl (by decide)).trans ?_
      refine (E_gfr (k := 2) (r := 83) c_202_37 sh_82 rfl rfl rfl).trans ?_
      refine (E_il c_202_40 rfl).trans ?_
      refine (E_ic (v := (-1 : Int32)) c_202_41 (by decide)).trans ?_
      refine (E_ias (v := (-1 : Int32)) c_202_42 sh_83 rfl).trans (ax_gd ?_)
      refine (E_al c_202_43 rfl (by decide)).trans ?_
      refine (E_gfr (k := 3) (r := 84) c_202_44 sh_82 rfl rfl rfl).trans ?_
      refine (E_il c_202_47 rfl).trans ?_
      refine (E_ial c_202_48 sh_84).trans (ax_gd ?_)
      refine (E_i2l c_202_49).trans ?_
      exact E_rL c_202_50 mi_202
set_option maxHeartbeats 4000000 in
theorem u_27_0 (d : Nat) (σ : ax_S) (x1 : Int64) (x2 : Int32) : ev sO (d + 1) 27 0 [.ref 0, .long x1, .null, .int x2] [] σ = if x2 < (1 : Int32) then (some (some (.long (-9000000000000000001 : Int64)), σ)) else (if (8 : Int32) < x2 then (some (some (.long (-9000000000000000001 : Int64)), σ)) else ((cI sO d 28 [.ref 5, .int x2] σ).bind fun u0 => if u0.1 = 0 then (some (some (.long (-9000000000000000003 : Int64)), u0.2)) else ((cI sO d 29 [.ref 5, .long x1, .int x2] u0.2).bind fun u1 => some (some (.long u1.1.toInt64), u1.2)))) := by
  refine (E_il c_27_0 rfl).trans ?_
  refine (E_ic (v := (1 : Int32)) c_27_1 (by decide)).trans ?_
  refine (E_br_lt (q := 11) c_27_2 rfl).trans (ax_ite ?_ ?_)
  · refine (E_l2 (v := (-9000000000000000001 : Int64)) c_27_11 (by decide)).trans ?_
    exact E_rL c_27_14 mi_27
  · refine (E_il c_27_5 rfl).trans ?_
    refine (E_ic (v := (8 : Int32)) c_27_6 (by decide)).trans ?_
    refine (E_br_le (q := 15) c_27_8 rfl).trans (ax_ite ?_ ?_)
    · refine (E_l2 (v := (-9000000000000000001 : Int64)) c_27_11 (by decide)).trans ?_
      exact E_rL c_27_14 mi_27
    · refine (E_al c_27_15 rfl (by decide)).trans ?_
      refine (E_gfr (k := 1) (r := 5) c_27_16 sh_0 rfl rfl rfl).trans ?_
      refine (E_il c_27_19 rfl).trans ?_
      refine (E_cIV c_27_20 mi_28 rfl rfl (sO_kl sh_5) (Nat.le_of_ble_eq_true rfl) (Nat.le_of_ble_eq_true rfl)).trans (ax_bnd fun u0 => ?_)
      refine (E_b0_ne (q := 30) c_27_23 rfl).trans (ax_ite ?_ ?_)
      · refine (E_l2 (v := (-9000000000000000003 : Int64)) c_27_26 (by decide)).trans ?_
        exact E_rL c_27_29 mi_27
      · refine (E_al c_27_30 rfl (by decide)).trans ?_
        refine (E_gfr (k := 1) (r := 5) c_27_31 sh_0 rfl rfl rfl).trans ?_
        refine (E_ll c_27_34 rfl).trans ?_
        refine (E_il c_27_35 rfl).trans ?_
        refine (E_cIV c_27_36 mi_29 rfl rfl (sO_kl sh_5) (Nat.le_of_ble_eq_true rfl) (Nat.le_of_ble_eq_true rfl)).trans (ax_bnd fun u1 => ?_)
        refine (E_i2l c_27_39).trans ?_
        exact E_rL c_27_40 mi_27
set_option maxHeartbeats 4000000 in
theorem u_203_82 (d : Nat) (σ : ax_S) (x1 : Int64) (x2 : Int32) : ev sO (d + 1) 203 0 [.ref 82, .long x1, .null, .int x2, .null] [] σ = (cI sO d 198 [.long x2.toInt64, .long (1 : Int64), .long (8 : Int64)] (sI σ 82 0 (0 : Int32))).bind fun u0 => if u0.1 = 0 then (some (some (.long (-9000000000000000001 : Int64)), u0.2)) else (if (500 : Int32) < ((u0.2.1 82 10) + x2) then (some (some (.long (-9000000000000000003 : Int64)), u0.2)) else (ev sO (d + 1) 203 42 [.ref 82, .long x1, .null, .int x2, .int (x2 - (1 : Int32))] [] u0.2)) := by
  refine (E_al c_203_0 rfl (by decide)).trans ?_
  refine (E_ic (v := (0 : Int32)) c_203_1 (by decide)).trans ?_
  refine (E_pfi (k := 0) c_203_2 sh_82 rfl rfl rfl).trans ?_
  refine (E_il c_203_5 rfl).trans ?_
  refine (E_i2l c_203_6).trans ?_
  refine (E_lc (v := (1 : Int64)) c_203_7 (by decide)).trans ?_
  refine (E_l2 (v := (8 : Int64)) c_203_8 (by decide)).trans ?_
  refine (E_cIS c_203_11 mi_198 rfl rfl (Nat.le_of_ble_eq_true rfl) (Nat.le_of_ble_eq_true rfl)).trans (ax_bnd fun u0 => ?_)
  refine (E_b0_ne (q := 21) c_203_14 rfl).trans (ax_ite ?_ ?_)
  · refine (E_l2 (v := (-9000000000000000001 : Int64)) c_203_17 (by decide)).trans ?_
    exact E_rL c_203_20 mi_203
  · refine (E_al c_203_21 rfl (by decide)).trans ?_
    refine (E_gfi (k := 10) c_203_22 sh_82 rfl rfl rfl (by decide)).trans ?_
    refine (E_il c_203_25 rfl).trans ?_
    refine (E_iadd c_203_26).trans ?_
    refine (E_ic (v := (500 : Int32)) c_203_27 (by decide)).trans ?_
    refine (E_br_le (q := 37) c_203_30 rfl).trans (ax_ite ?_ ?_)
    · refine (E_l2 (v := (-9000000000000000003 : Int64)) c_203_33 (by decide)).trans ?_
      exact E_rL c_203_36 mi_203
    · refine (E_il c_203_37 rfl).trans ?_
      refine (E_ic (v := (1 : Int32)) c_203_38 (by decide)).trans ?_
      refine (E_isub c_203_39).trans ?_
      refine (E_is (L' := [.ref 82, .long x1, .null, .int x2, .int (x2 - (1 : Int32))]) c_203_40 (Nat.le_of_ble_eq_true rfl) rfl).trans ?_
      rfl
set_option maxHeartbeats 4000000 in
theorem u_203_82p42 (d : Nat) (σ : ax_S) (x1 : Int64) (w3 : Value) (hw3 : w3.category = 1) (x4 : Int32) : ev sO (d + 1) 203 42 [.ref 82, .long x1, .null, w3, .int x4] [] σ = if x4 < 0 then (some (some (.long ((σ.1 82 10).toInt64)), σ)) else (gd (0 ≤ (σ.1 82 10).toInt ∧ (σ.1 82 10).toInt < (500 : Nat)) (ax_lt (sI (sI σ 89 (σ.1 82 10).toNatClampNeg (((x1 >>> (((8 : Int32) * x4).toInt64 &&& 63)) &&& (255 : Int64)).toInt32)) 82 10 (((sI σ 89 (σ.1 82 10).toNatClampNeg (((x1 >>> (((8 : Int32) * x4).toInt64 &&& 63)) &&& (255 : Int64)).toInt32)).1 82 10) + (1 : Int32))) fun s0 => ev sO (d + 1) 203 42 [.ref 82, .long x1, .null, w3, .int (x4 + (-1 : Int32))] [] s0)) := by
  refine (E_il c_203_42 rfl).trans ?_
  refine (E_b0_lt (q := 84) c_203_44 rfl).trans (ax_ite ?_ ?_)
  · refine (E_al c_203_84 rfl (by decide)).trans ?_
    refine (E_gfi (k := 10) c_203_85 sh_82 rfl rfl rfl (by decide)).trans ?_
    refine (E_i2l c_203_88).trans ?_
    exact E_rL c_203_89 mi_203
  · refine (E_al c_203_47 rfl (by decide)).trans ?_
    refine (E_gfr (k := 9) (r := 89) c_203_48 sh_82 rfl rfl rfl).trans ?_
    refine (E_al c_203_51 rfl (by decide)).trans ?_
    refine (E_gfi (k := 10) c_203_52 sh_82 rfl rfl rfl (by decide)).trans ?_
    refine (E_ll c_203_55 rfl).trans ?_
    refine (E_ic (v := (8 : Int32)) c_203_56 (by decide)).trans ?_
    refine (E_il c_203_58 rfl).trans ?_
    refine (E_imul c_203_60).trans ?_
    refine (E_lshr c_203_61).trans ?_
    refine (E_l2 (v := (255 : Int64)) c_203_62 (by decide)).trans ?_
    refine (E_land c_203_65).trans ?_
    refine (E_l2i c_203_66).trans ?_
    refine (E_ias (v := (((x1 >>> (((8 : Int32) * x4).toInt64 &&& 63)) &&& (255 : Int64)).toInt32)) c_203_67 sh_89 rfl).trans (ax_gd ?_)
    refine (E_al c_203_68 rfl (by decide)).trans ?_
    refine (E_dup c_203_69 rfl).trans ?_
    refine (E_gfi (k := 10) c_203_70 sh_82 rfl rfl rfl (by decide)).trans ?_
    refine (E_ic (v := (1 : Int32)) c_203_73 (by decide)).trans ?_
    refine (E_iadd c_203_74).trans ?_
    refine (E_pfi (k := 10) c_203_75 sh_82 rfl rfl rfl).trans ?_
    refine ax_ltE (fun s0 => ?_)
    refine (E_inc (v := (-1 : Int32)) (L' := [.ref 82, .long x1, .null, w3, .int (x4 + (-1 : Int32))]) c_203_78 rfl (by decide) (by simp [ax_st1, ax_drp, hw3])).trans ?_
    refine (E_goto (q := 42) c_203_81 rfl).trans ?_
    rfl
set_option maxHeartbeats 4000000 in
theorem u_30_0 (d : Nat) (σ : ax_S) : ev sO (d + 8) 30 0 [.ref 0, .null] [] σ = (cI sO (d + 7) 31 [.ref 52, .ref 5] σ).bind fun u0 => (cV sO (d + 7) 60 [.ref 5] u0.2).bind fun u1 => if u0.1 = 0 then ((cI sO (d + 7) 61 [.ref 5] u1).bind fun u2 => some (some (.long ((-9000000000000000100 : Int64) - u2.1.toInt64)), u2.2)) else ((cV sO (d + 7) 62 [.ref 8, .ref 52] u1).bind fun u3 => (cV sO (d + 7) 63 [.ref 17] u3).bind fun u4 => (cI sO (d + 7) 64 [.ref 52] u4).bind fun u5 => (cI sO (d + 7) 65 [.ref 52] u5.2).bind fun u6 => some (some (.long ((u5.1 + u6.1).toInt64)), u6.2)) := by
  refine (E_al c_30_0 rfl (by decide)).trans ?_
  refine (E_gfr (k := 5) (r := 52) c_30_1 sh_0 rfl rfl rfl).trans ?_
  refine (E_al c_30_4 rfl (by decide)).trans ?_
  refine (E_gfr (k := 1) (r := 5) c_30_5 sh_0 rfl rfl rfl).trans ?_
  refine (E_cIV c_30_8 mi_31 rfl rfl (sO_kl sh_52) (Nat.le_of_ble_eq_true rfl) (Nat.le_of_ble_eq_true rfl)).trans (ax_bnd fun u0 => ?_)
  refine (E_is (L' := [.ref 0, .int u0.1]) c_30_11 (Nat.le_of_ble_eq_true rfl) rfl).trans ?_
  refine (E_al c_30_12 rfl (by decide)).trans ?_
  refine (E_gfr (k := 1) (r := 5) c_30_13 sh_0 rfl rfl rfl).trans ?_
  refine (E_cVV c_30_16 mi_60 rfl (sO_kl sh_5) (Nat.le_of_ble_eq_true rfl) (Nat.le_of_ble_eq_true rfl)).trans (ax_bnd fun u1 => ?_)
  refine (E_il c_30_19 rfl).trans ?_
  refine (E_b0_ne (q := 36) c_30_20 rfl).trans (ax_ite ?_ ?_)
  · refine (E_l2 (v := (-9000000000000000100 : Int64)) c_30_23 (by decide)).trans ?_
    refine (E_al c_30_26 rfl (by decide)).trans ?_
    refine (E_gfr (k := 1) (r := 5) c_30_27 sh_0 rfl rfl rfl).trans ?_
    refine (E_cIV c_30_30 mi_61 rfl rfl (sO_kl sh_5) (Nat.le_of_ble_eq_true rfl) (Nat.le_of_ble_eq_true rfl)).trans (ax_bnd fun u2 => ?_)
    refine (E_i2l c_30_33).trans ?_
    refine (E_lsub c_30_34).trans ?_
    exact E_rL c_30_35 mi_30
  · refine (E_al c_30_36 rfl (by decide)).trans ?_
    refine (E_gfr (k := 2) (r := 7) c_30_37 sh_0 rfl rfl rfl).trans ?_
    refine (E_gfr (k := 0) (r := 8) c_30_40 sh_7 rfl rfl rfl).trans ?_
    refine (E_al c_30_43 rfl (by decide)).trans ?_
    refine (E_gfr (k := 5) (r := 52) c_30_44 sh_0 rfl rfl rfl).trans ?_
    refine (E_cVV c_30_47 mi_62 rfl (sO_kl sh_8) (Nat.le_of_ble_eq_true rfl) (Nat.le_of_ble_eq_true rfl)).trans (ax_bnd fun u3 => ?_)
    refine (E_al c_30_50 rfl (by decide)).trans ?_
    refine (E_gfr (k := 2) (r := 7) c_30_51 sh_0 rfl rfl rfl).trans ?_
    refine (E_gfr (k := 1) (r := 17) c_30_54 sh_7 rfl rfl rfl).trans ?_
    refine (E_cVV c_30_57 mi_63 rfl (sO_kl sh_17) (Nat.le_of_ble_eq_true rfl) (Nat.le_of_ble_eq_true rfl)).trans (ax_bnd fun u4 => ?_)
    refine (E_al c_30_60 rfl (by decide)).trans ?_
    refine (E_gfr (k := 5) (r := 52) c_30_61 sh_0 rfl rfl rfl).trans ?_
    refine (E_cIV c_30_64 mi_64 rfl rfl (sO_kl sh_52) (Nat.le_of_ble_eq_true rfl) (Nat.le_of_ble_eq_true rfl)).trans (ax_bnd fun u5 => ?_)
    refine (E_al c_30_67 rfl (by decide)).trans ?_
    refine (E_gfr (k := 5) (r := 52) c_30_68 sh_0 rfl rfl rfl).trans ?_
    refine (E_cIV c_30_71 mi_65 rfl rfl (sO_kl sh_52) (Nat.le_of_ble_eq_true rfl) (Nat.le_of_ble_eq_true rfl)).trans (ax_bnd fun u6 => ?_)
    refine (E_iadd c_30_74).trans ?_
    refine (E_i2l c_30_75).trans ?_
    exact E_rL c_30_76 mi_30
set_option maxHeartbeats 4000000 in
theorem u_204_82 (d : Nat) (σ : ax_S) : ev sO (d + 5) 204 0 [.ref 82, .null, .null, .null] [] σ = ev sO (d + 5) 204 7 [.ref 82, .int (0 : Int32), .null, .null] [] (sI σ 82 0 (0 : Int32)) := by
  refine (E_al c_204_0 rfl (by decide)).trans ?_
  refine (E_ic (v := (0 : Int32)) c_204_1 (by decide)).trans ?_
  refine (E_pfi (k := 0) c_204_2 sh_82 rfl rfl rfl).trans ?_
  refine (E_ic (v := (0 : Int32)) c_204_5 (by decide)).trans ?_
  refine (E_is (L' := [.ref 82, .int (0 : Int32), .null, .null]) c_204_6 (Nat.le_of_ble_eq_true rfl) rfl).trans ?_
  rfl
set_option maxHeartbeats 4000000 in
theorem u_204_82p7 (d : Nat) (σ : ax_S) (x1 : Int32) (w2 : Value) (hw2 : w2.category = 1) (w3 : Value) (hw3 : w3.category = 1) : ev sO (d + 5) 204 7 [.ref 82, .int x1, w2, w3] [] σ = if x1 < (102 : Int32) then (gd (0 ≤ x1.toInt ∧ x1.toInt < (102 : Nat)) (ev sO (d + 5) 204 7 [.ref 82, .int (x1 + (1 : Int32)), w2, w3] [] (sI σ 87 x1.toNatClampNeg (0 : Int32)))) else ((cV sO (d + 4) 205 [.ref 82] σ).bind fun u0 => ev sO (d + 5) 204 30 [.ref 82, .int x1, w2, w3] [] u0) := by
  refine (E_il c_204_7 rfl).trans ?_
  refine (E_ic (v := (102 : Int32)) c_204_8 (by decide)).trans ?_
  refine (E_br_ge (q := 26) c_204_10 rfl).trans (ax_ite ?_ ?_)
  · refine (E_al c_204_13 rfl (by decide)).trans ?_
    refine (E_gfr (k := 6) (r := 87) c_204_14 sh_82 rfl rfl rfl).trans ?_
    refine (E_il c_204_17 rfl).trans ?_
    refine (E_ic (v := (0 : Int32)) c_204_18 (by decide)).trans ?_
    refine (E_ias (v := (0 : Int32)) c_204_19 sh_87 rfl).trans (ax_gd ?_)
    refine (E_inc (v := (1 : Int32)) (L' := [.ref 82, .int (x1 + (1 : Int32)), w2, w3]) c_204_20 rfl (by decide) rfl).trans ?_
    refine (E_goto (q := 7) c_204_23 rfl).trans ?_
    rfl
  · refine (E_al c_204_26 rfl (by decide)).trans ?_
    refine (E_cVV c_204_27 mi_205 rfl (sO_kl sh_82) (Nat.le_of_ble_eq_true rfl) (Nat.le_of_ble_eq_true rfl)).trans (ax_bnd fun u0 => ?_)
    rfl
set_option maxHeartbeats 4000000 in
theorem u_204_82p30 (d : Nat) (σ : ax_S) (w1 : Value) (hw1 : w1.category = 1) (w2 : Value) (hw2 : w2.category = 1) (w3 : Value) (hw3 : w3.category = 1) : ev sO (d + 5) 204 30 [.ref 82, w1, w2, w3] [] σ = (cL sO (d + 4) 210 [.ref 82] σ).bind fun u0 => if (lg_cmp u0.1 (30792241684771429 : Int64)) = 0 then ((cV sO (d + 4) 211 [.ref 82] u0.2).bind fun u1 => ev sO (d + 5) 204 30 [.ref 82, w1, w2, w3] [] u1) else (ev sO (d + 5) 204 48 [.ref 82, w1, w2, w3] [] u0.2) := by
  refine (E_al c_204_30 rfl (by decide)).trans ?_
  refine (E_cLV c_204_31 mi_210 rfl (sO_kl sh_82) (Nat.le_of_ble_eq_true rfl) (Nat.le_of_ble_eq_true rfl)).trans (ax_bnd fun u0 => ?_)
  refine (E_l2 (v := (30792241684771429 : Int64)) c_204_34 (by decide)).trans ?_
  refine (E_lcmp c_204_37).trans ?_
  refine (E_b0_ne (q := 48) c_204_38 rfl).trans (ax_ite ?_ ?_)
  · refine (E_al c_204_41 rfl (by decide)).trans ?_
    refine (E_cVV c_204_42 mi_211 rfl (sO_kl sh_82) (Nat.le_of_ble_eq_true rfl) (Nat.le_of_ble_eq_true rfl)).trans (ax_bnd fun u1 => ?_)
    refine (E_goto (q := 30) c_204_45 rfl).trans ?_
    rfl
  · rfl
set_option maxHeartbeats 4000000 in
theorem u_204_82p48 (d : Nat) (σ : ax_S) (w1 : Value) (hw1 : w1.category = 1) (w2 : Value) (hw2 : w2.category = 1) (w3 : Value) (hw3 : w3.category = 1) : ev sO (d + 5) 204 48 [.ref 82, w1, w2, w3] [] σ = (cL sO (d + 4) 210 [.ref 82] σ).bind fun u0 => if (lg_cmp u0.1 (123563582121332 : Int64)) = 0 then ((cV sO (d + 4) 217 [.ref 82] u0.2).bind fun u1 => ev sO (d + 5) 204 48 [.ref 82, w1, w2, w3] [] u1) else (if (u0.2.1 82 17) = 0 then ((cL sO (d + 4) 210 [.ref 82] u0.2).bind fun u2 => if (lg_cmp u2.1 (1919513445 : Int64)) = 0 then ((cV sO (d + 4) 213 [.ref 82, .int (1 : Int32)] u2.2).bind fun u3 => ev sO (d + 5) 204 96 [.ref 82, .int (90 : Int32), w2, w3] [] u3) else ((cV sO (d + 4) 213 [.ref 82, .int (0 : Int32)] u2.2).bind fun u4 => ev sO (d + 5) 204 96 [.ref 82, .int (90 : Int32), w2, w3] [] u4)) else (ev sO (d + 5) 204 96 [.ref 82, .int (90 : Int32), w2, w3] [] u0.2)) := by
  refine (E_al c_204_48 rfl (by decide)).trans ?_
  refine (E_cLV c_204_49 mi_210 rfl (sO_kl sh_82) (Nat.le_of_ble_eq_true rfl) (Nat.le_of_ble_eq_true rfl)).trans (ax_bnd fun u0 => ?_)
  refine (E_l2 (v := (123563582121332 : Int64)) c_204_52 (by decide)).trans ?_
  refine (E_lcmp c_204_55).trans ?_
  refine (E_b0_ne (q := 66) c_204_56 rfl).trans (ax_ite ?_ ?_)
  · refine (E_al c_204_59 rfl (by decide)).trans ?_
    refine (E_cVV c_204_60 mi_217 rfl (sO_kl sh_82) (Nat.le_of_ble_eq_true rfl) (Nat.le_of_ble_eq_true rfl)).trans (ax_bnd fun u1 => ?_)
    refine (E_goto (q := 48) c_204_63 rfl).trans ?_
    rfl
  · refine (E_al c_204_66 rfl (by decide)).trans ?_
    refine (E_gfi (k := 17) c_204_67 sh_82 rfl rfl rfl (by decide)).trans ?_
    refine (E_b0_ne (q := 93) c_204_70 rfl).trans (ax_ite ?_ ?_)
    · refine (E_al c_204_73 rfl (by decide)).trans ?_
      refine (E_al c_204_74 rfl (by decide)).trans ?_
      refine (E_cLV c_204_75 mi_210 rfl (sO_kl sh_82) (Nat.le_of_ble_eq_true rfl) (Nat.le_of_ble_eq_true rfl)).trans (ax_bnd fun u2 => ?_)
      refine (E_l2 (v := (1919513445 : Int64)) c_204_78 (by decide)).trans ?_
      refine (E_lcmp c_204_81).trans ?_
      refine (E_b0_ne (q := 89) c_204_82 rfl).trans (ax_ite ?_ ?_)
      · refine (E_ic (v := (1 : Int32)) c_204_85 (by decide)).trans ?_
        refine (E_goto (q := 90) c_204_86 rfl).trans ?_
        refine (E_cVV c_204_90 mi_213 rfl (sO_kl sh_82) (Nat.le_of_ble_eq_true rfl) (Nat.le_of_ble_eq_true rfl)).trans (ax_bnd fun u3 => ?_)
        refine (E_ic (v := (90 : Int32)) c_204_93 (by decide)).trans ?_
        refine (E_is (L' := [.ref 82, .int (90 : Int32), w2, w3]) c_204_95 (Nat.le_of_ble_eq_true rfl) rfl).trans ?_
        rfl
      · refine (E_ic (v := (0 : Int32)) c_204_89 (by decide)).trans ?_
        refine (E_cVV c_204_90 mi_213 rfl (sO_kl sh_82) (Nat.le_of_ble_eq_true rfl) (Nat.le_of_ble_eq_true rfl)).trans (ax_bnd fun u4 => ?_)
        refine (E_ic (v := (90 : Int32)) c_204_93 (by decide)).trans ?_
        refine (E_is (L' := [.ref 82, .int (90 : Int32), w2, w3]) c_204_95 (Nat.le_of_ble_eq_true rfl) rfl).trans ?_
        rfl
    · refine (E_ic (v := (90 : Int32)) c_204_93 (by decide)).trans ?_
      refine (E_is (L' := [.ref 82, .int (90 : Int32), w2, w3]) c_204_95 (Nat.le_of_ble_eq_true rfl) rfl).trans ?_
      rfl
set_option maxHeartbeats 4000000 in
theorem u_204_82p96 (d : Nat) (σ : ax_S) (x1 : Int32) (w2 : Value) (hw2 : w2.category = 1) (w3 : Value) (hw3 : w3.category = 1) : ev sO (d + 5) 204 96 [.ref 82, .int x1, w2, w3] [] σ = if x1 < (102 : Int32) then (if (98 : Int32) < x1 then (if x1 < (101 : Int32) then ((cI sO (d + 4) 214 [.ref 82, .int (0 : Int32), .int (99 : Int32)] σ).bind fun u0 => gd (0 ≤ x1.toInt ∧ x1.toInt < (102 : Nat)) (ev sO (d + 5) 204 96 [.ref 82, .int (x1 + (1 : Int32)), w2, w3] [] (sI u0.2 87 x1.toNatClampNeg u0.1))) else ((cI sO (d + 4) 214 [.ref 82, .int (0 : Int32), .int (9999 : Int32)] σ).bind fun u1 => gd (0 ≤ x1.toInt ∧ x1.toInt < (102 : Nat)) (ev sO (d + 5) 204 96 [.ref 82, .int (x1 + (1 : Int32)), w2, w3] [] (sI u1.2 87 x1.toNatClampNeg u1.1)))) else ((cI sO (d + 4) 214 [.ref 82, .int (0 : Int32), .int (9 : Int32)] σ).bind fun u2 => gd (0 ≤ x1.toInt ∧ x1.toInt < (102 : Nat)) (ev sO (d + 5) 204 96 [.ref 82, .int (x1 + (1 : Int32)), w2, w3] [] (sI u2.2 87 x1.toNatClampNeg u2.1)))) else ((cV sO (d + 4) 216 [.ref 82] σ).bind fun u3 => (cL sO (d + 4) 218 [.ref 82] u3).bind fun u4 => if (lg_cmp u4.1 (0 : Int64)) < 0 then (some (some (.long u4.1), u4.2)) else (ev sO (d + 5) 204 168 [.ref 82, .long u4.1, .null, .int (0 : Int32)] [] (sI u4.2 82 7 (1 : Int32)))) := by
  refine (E_il c_204_96 rfl).trans ?_
  refine (E_ic (v := (102 : Int32)) c_204_97 (by decide)).trans ?_
  refine (E_br_ge (q := 144) c_204_99 rfl).trans (ax_ite ?_ ?_)
  · refine (E_al c_204_102 rfl (by decide)).trans ?_
    refine (E_gfr (k := 6) (r := 87) c_204_103 sh_82 rfl rfl rfl).trans ?_
    refine (E_il c_204_106 rfl).trans ?_
    refine (E_al c_204_107 rfl (by decide)).trans ?_
    refine (E_ic (v := (0 : Int32)) c_204_108 (by decide)).trans ?_
    refine (E_il c_204_109 rfl).trans ?_
    refine (E_ic (v := (98 : Int32)) c_204_110 (by decide)).trans ?_
    refine (E_br_gt (q := 120) c_204_112 rfl).trans (ax_ite ?_ ?_)
    · refine (E_il c_204_120 rfl).trans ?_
      refine (E_ic (v := (101 : Int32)) c_204_121 (by decide)).trans ?_
      refine (E_br_ge (q := 131) c_204_123 rfl).trans (ax_ite ?_ ?_)
      · refine (E_ic (v := (99 : Int32)) c_204_126 (by decide)).trans ?_
        refine (E_goto (q := 134) c_204_128 rfl).trans ?_
        refine (E_cIV c_204_134 mi_214 rfl rfl (sO_kl sh_82) (Nat.le_of_ble_eq_true rfl) (Nat.le_of_ble_eq_true rfl)).trans (ax_bnd fun u0 => ?_)
        refine (E_ias (v := u0.1) c_204_137 sh_87 rfl).trans (ax_gd ?_)
        refine (E_inc (v := (1 : Int32)) (L' := [.ref 82, .int (x1 + (1 : Int32)), w2, w3]) c_204_138 rfl (by decide) rfl).trans ?_
        refine (E_goto (q := 96) c_204_141 rfl).trans ?_
        rfl
      · refine (E_ic (v := (9999 : Int32)) c_204_131 (by decide)).trans ?_
        refine (E_cIV c_204_134 mi_214 rfl rfl (sO_kl sh_82) (Nat.le_of_ble_eq_true rfl) (Nat.le_of_ble_eq_true rfl)).trans (ax_bnd fun u1 => ?_)
        refine (E_ias (v := u1.1) c_204_137 sh_87 rfl).trans (ax_gd ?_)
        refine (E_inc (v := (1 : Int32)) (L' := [.ref 82, .int (x1 + (1 : Int32)), w2, w3]) c_204_138 rfl (by decide) rfl).trans ?_
        refine (E_goto (q := 96) c_204_141 rfl).trans ?_
        rfl
    · refine (E_ic (v := (9 : Int32)) c_204_115 (by decide)).trans ?_
      refine (E_goto (q := 134) c_204_117 rfl).trans ?_
      refine (E_cIV c_204_134 mi_214 rfl rfl (sO_kl sh_82) (Nat.le_of_ble_eq_true rfl) (Nat.le_of_ble_eq_true rfl)).trans (ax_bnd fun u2 => ?_)
      refine (E_ias (v := u2.1) c_204_137 sh_87 rfl).trans (ax_gd ?_)
      refine (E_inc (v := (1 : Int32)) (L' := [.ref 82, .int (x1 + (1 : Int32)), w2, w3]) c_204_138 rfl (by decide) rfl).trans ?_
      refine (E_goto (q := 96) c_204_141 rfl).trans ?_
      rfl
  · refine (E_al c_204_144 rfl (by decide)).trans ?_
    refine (E_cVV c_204_145 mi_216 rfl (sO_kl sh_82) (Nat.le_of_ble_eq_true rfl) (Nat.le_of_ble_eq_true rfl)).trans (ax_bnd fun u3 => ?_)
    refine (E_al c_204_148 rfl (by decide)).trans ?_
    refine (E_cLV c_204_149 mi_218 rfl (sO_kl sh_82) (Nat.le_of_ble_eq_true rfl) (Nat.le_of_ble_eq_true rfl)).trans (ax_bnd fun u4 => ?_)
    refine (E_lss (L' := [.ref 82, .long u4.1, .null, w3]) c_204_152 (Nat.le_of_ble_eq_true rfl) rfl).trans ?_
    refine (E_ll c_204_153 rfl).trans ?_
    refine (E_lc (v := (0 : Int64)) c_204_154 (by decide)).trans ?_
    refine (E_lcmp c_204_155).trans ?_
    refine (E_b0_ge (q := 161) c_204_156 rfl).trans (ax_ite ?_ ?_)
    · refine (E_ll c_204_159 rfl).trans ?_
      exact E_rL c_204_160 mi_204
    · refine (E_al c_204_161 rfl (by decide)).trans ?_
      refine (E_ic (v := (1 : Int32)) c_204_162 (by decide)).trans ?_
      refine (E_pfz (k := 7) c_204_163 sh_82 rfl rfl rfl (by decide)).trans ?_
      refine (E_ic (v := (0 : Int32)) c_204_166 (by decide)).trans ?_
      refine (E_is (L' := [.ref 82, .long u4.1, .null, .int (0 : Int32)]) c_204_167 (Nat.le_of_ble_eq_true rfl) rfl).trans ?_
      rfl
set_option maxHeartbeats 4000000 in
theorem u_204_82p168 (d : Nat) (σ : ax_S) (w1 : Value) (hw1 : w1.category = 1) (w2 : Value) (hw2 : w2.category = 1) (x3 : Int32) : ev sO (d + 5) 204 168 [.ref 82, w1, w2, .int x3] [] σ = if x3 < (102 : Int32) then (gd (0 ≤ x3.toInt ∧ x3.toInt < (102 : Nat)) (gd (0 ≤ x3.toInt ∧ x3.toInt < (102 : Nat)) (ev sO (d + 5) 204 168 [.ref 82, w1, w2, .int (x3 + (1 : Int32))] [] (sI σ 86 x3.toNatClampNeg (σ.1 87 x3.toNatClampNeg))))) else (some (some (.long ((((sI σ 88 0 (0 : Int32)).1 86 0) + ((sI σ 88 0 (0 : Int32)).1 86 1)).toInt64)), (sI σ 88 0 (0 : Int32)))) := by
  refine (E_il c_204_168 rfl).trans ?_
  refine (E_ic (v := (102 : Int32)) c_204_169 (by decide)).trans ?_
  refine (E_br_ge (q := 192) c_204_171 rfl).trans (ax_ite ?_ ?_)
  · refine (E_al c_204_174 rfl (by decide)).trans ?_
    refine (E_gfr (k := 5) (r := 86) c_204_175 sh_82 rfl rfl rfl).trans ?_
    refine (E_il c_204_178 rfl).trans ?_
    refine (E_al c_204_179 rfl (by decide)).trans ?_
    refine (E_gfr (k := 6) (r := 87) c_204_180 sh_82 rfl rfl rfl).trans ?_
    refine (E_il c_204_183 rfl).trans ?_
    refine (E_ial c_204_184 sh_87).trans (ax_gd ?_)
    refine (E_ias (v := (σ.1 87 x3.toNatClampNeg)) c_204_185 sh_86 rfl).trans (ax_gd ?_)
    refine (E_inc (v := (1 : Int32)) (L' := [.ref 82, w1, w2, .int (x3 + (1 : Int32))]) c_204_186 rfl (by decide) (by simp [ax_st1, ax_drp, hw2])).trans ?_
    refine (E_goto (q := 168) c_204_189 rfl).trans ?_
    rfl
  · refine (E_al c_204_192 rfl (by decide)).trans ?_
    refine (E_gfr (k := 8) (r := 88) c_204_193 sh_82 rfl rfl rfl).trans ?_
    refine (E_ic (v := (0 : Int32)) c_204_196 (by decide)).trans ?_
    refine (E_ic (v := (0 : Int32)) c_204_197 (by decide)).trans ?_
    refine (E_iask (k := 0) (v := (0 : Int32)) c_204_198 sh_88 rfl (by decide) (by decide)).trans ?_
    refine (E_al c_204_199 rfl (by decide)).trans ?_
    refine (E_gfr (k := 5) (r := 86) c_204_200 sh_82 rfl rfl rfl).trans ?_
    refine (E_ic (v := (0 : Int32)) c_204_203 (by decide)).trans ?_
    refine (E_ialk (k := 0) c_204_204 sh_86 (by decide) (by decide)).trans ?_
    refine (E_al c_204_205 rfl (by decide)).trans ?_
    refine (E_gfr (k := 5) (r := 86) c_204_206 sh_82 rfl rfl rfl).trans ?_
    refine (E_ic (v := (1 : Int32)) c_204_209 (by decide)).trans ?_
    refine (E_ialk (k := 1) c_204_210 sh_86 (by decide) (by decide)).trans ?_
    refine (E_iadd c_204_211).trans ?_
    refine (E_i2l c_204_212).trans ?_
    exact E_rL c_204_213 mi_204
set_option maxHeartbeats 4000000 in
theorem u_66_0 (d : Nat) (σ : ax_S) : ev sO (d + 9) 66 0 [.ref 0, .null] [] σ = (cI sO (d + 8) 67 [.ref 8] σ).bind fun u0 => if u0.1 = 0 then (some (some (.long (-9000000000000000002 : Int64)), u0.2)) else ((cI sO (d + 8) 68 [.ref 17] u0.2).bind fun u1 => if u1.1 = 0 then ((cI sO (d + 8) 69 [.ref 61, .ref 5, .ref 8] u1.2).bind fun u2 => (cV sO (d + 8) 60 [.ref 5] u2.2).bind fun u3 => if u2.1 = 0 then ((cI sO (d + 8) 61 [.ref 5] u3).bind fun u4 => some (some (.long ((-9000000000000000100 : Int64) - u4.1.toInt64)), u4.2)) else ((cI sO (d + 8) 78 [.ref 17, .ref 61, .int (-1000000 : Int32)] u3).bind fun u5 => some (some (.long u5.1.toInt64), u5.2))) else (some (some (.long (-9000000000000000003 : Int64)), u1.2))) := by
  refine (E_al c_66_0 rfl (by decide)).trans ?_
  refine (E_gfr (k := 2) (r := 7) c_66_1 sh_0 rfl rfl rfl).trans ?_
  refine (E_gfr (k := 0) (r := 8) c_66_4 sh_7 rfl rfl rfl).trans ?_
  refine (E_cIV c_66_7 mi_67 rfl rfl (sO_kl sh_8) (Nat.le_of_ble_eq_true rfl) (Nat.le_of_ble_eq_true rfl)).trans (ax_bnd fun u0 => ?_)
  refine (E_b0_ne (q := 17) c_66_10 rfl).trans (ax_ite ?_ ?_)
  · refine (E_l2 (v := (-9000000000000000002 : Int64)) c_66_13 (by decide)).trans ?_
    exact E_rL c_66_16 mi_66
  · refine (E_al c_66_17 rfl (by decide)).trans ?_
    refine (E_gfr (k := 2) (r := 7) c_66_18 sh_0 rfl rfl rfl).trans ?_
    refine (E_gfr (k := 1) (r := 17) c_66_21 sh_7 rfl rfl rfl).trans ?_
    refine (E_cIV c_66_24 mi_68 rfl rfl (sO_kl sh_17) (Nat.le_of_ble_eq_true rfl) (Nat.le_of_ble_eq_true rfl)).trans (ax_bnd fun u1 => ?_)
    refine (E_b0_eq (q := 34) c_66_27 rfl).trans (ax_ite ?_ ?_)
    · refine (E_al c_66_34 rfl (by decide)).trans ?_
      refine (E_gfr (k := 6) (r := 61) c_66_35 sh_0 rfl rfl rfl).trans ?_
      refine (E_al c_66_38 rfl (by decide)).trans ?_
      refine (E_gfr (k := 1) (r := 5) c_66_39 sh_0 rfl rfl rfl).trans ?_
      refine (E_al c_66_42 rfl (by decide)).trans ?_
      refine (E_gfr (k := 2) (r := 7) c_66_43 sh_0 rfl rfl rfl).trans ?_
      refine (E_gfr (k := 0) (r := 8) c_66_46 sh_7 rfl rfl rfl).trans ?_
      refine (E_cIV c_66_49 mi_69 rfl rfl (sO_kl sh_61) (Nat.le_of_ble_eq_true rfl) (Nat.le_of_ble_eq_true rfl)).trans (ax_bnd fun u2 => ?_)
      refine (E_is (L' := [.ref 0, .int u2.1]) c_66_52 (Nat.le_of_ble_eq_true rfl) rfl).trans ?_
      refine (E_al c_66_53 rfl (by decide)).trans ?_
      refine (E_gfr (k := 1) (r := 5) c_66_54 sh_0 rfl rfl rfl).trans ?_
      refine (E_cVV c_66_57 mi_60 rfl (sO_kl sh_5) (Nat.le_of_ble_eq_true rfl) (Nat.le_of_ble_eq_true rfl)).trans (ax_bnd fun u3 => ?_)
      refine (E_il c_66_60 rfl).trans ?_
      refine (E_b0_ne (q := 77) c_66_61 rfl).trans (ax_ite ?_ ?_)
      · refine (E_l2 (v := (-9000000000000000100 : Int64)) c_66_64 (by decide)).trans ?_
        refine (E_al c_66_67 rfl (by decide)).trans ?_
        refine (E_gfr (k := 1) (r := 5) c_66_68 sh_0 rfl rfl rfl).trans ?_
        refine (E_cIV c_66_71 mi_61 rfl rfl (sO_kl sh_5) (Nat.le_of_ble_eq_true rfl) (Nat.le_of_ble_eq_true rfl)).trans (ax_bnd fun u4 => ?_)
        refine (E_i2l c_66_74).trans ?_
        refine (E_lsub c_66_75).trans ?_
        exact E_rL c_66_76 mi_66
      · refine (E_al c_66_77 rfl (by decide)).trans ?_
        refine (E_gfr (k := 2) (r := 7) c_66_78 sh_0 rfl rfl rfl).trans ?_
        refine (E_gfr (k := 1) (r := 17) c_66_81 sh_7 rfl rfl rfl).trans ?_
        refine (E_al c_66_84 rfl (by decide)).trans ?_
        refine (E_gfr (k := 6) (r := 61) c_66_85 sh_0 rfl rfl rfl).trans ?_
        refine (E_ic (v := (-1000000 : Int32)) c_66_88 (by decide)).trans ?_
        refine (E_cIV c_66_90 mi_78 rfl rfl (sO_kl sh_17) (Nat.le_of_ble_eq_true rfl) (Nat.le_of_ble_eq_true rfl)).trans (ax_bnd fun u5 => ?_)
        refine (E_i2l c_66_93).trans ?_
        exact E_rL c_66_94 mi_66
    · refine (E_l2 (v := (-9000000000000000003 : Int64)) c_66_30 (by decide)).trans ?_
      exact E_rL c_66_33 mi_66
set_option maxHeartbeats 4000000 in
theorem u_219_82 (d : Nat) (σ : ax_S) : ev sO (d + 7) 219 0 [.ref 82, .null, .null, .null, .null] [] σ = if ((sI σ 82 0 (0 : Int32)).1 82 7) = 0 then (some (some (.long (-9000000000000000002 : Int64)), (sI σ 82 0 (0 : Int32)))) else (if ((sI σ 82 0 (0 : Int32)).1 88 0) = (12 : Int32) then (some (some (.long (-9000000000000000003 : Int64)), (sI σ 82 0 (0 : Int32)))) else ((cV sO (d + 6) 205 [.ref 82] (sI σ 82 0 (0 : Int32))).bind fun u0 => (cL sO (d + 6) 210 [.ref 82] u0).bind fun u1 => if (lg_cmp u1.1 (1667330660 : Int64)) = 0 then ((cV sO (d + 6) 213 [.ref 82, .int (1 : Int32)] u1.2).bind fun u2 => (cI sO (d + 6) 214 [.ref 82, .int (0 : Int32), .int (3 : Int32)] u2).bind fun u3 => (cI sO (d + 6) 214 [.ref 82, .int (1800 : Int32), .int (2000 : Int32)] u3.2).bind fun u4 => (cV sO (d + 6) 216 [.ref 82] u4.2).bind fun u5 => (cV sO (d + 6) 220 [.ref 82, .int u3.1, .int u4.1, .int (-1 : Int32)] u5).bind fun u6 => ev sO (d + 7) 219 89 [.ref 82, .int u3.1, .int u4.1, .null, .null] [] (sI u6 82 20 (0 : Int32))) else ((cV sO (d + 6) 213 [.ref 82, .int (0 : Int32)] u1.2).bind fun u7 => (cI sO (d + 6) 214 [.ref 82, .int (0 : Int32), .int (3 : Int32)] u7).bind fun u8 => (cI sO (d + 6) 214 [.ref 82, .int (1800 : Int32), .int (2000 : Int32)] u8.2).bind fun u9 => (cV sO (d + 6) 216 [.ref 82] u9.2).bind fun u10 => (cV sO (d + 6) 220 [.ref 82, .int u8.1, .int u9.1, .int (-1 : Int32)] u10).bind fun u11 => ev sO (d + 7) 219 89 [.ref 82, .int u8.1, .int u9.1, .null, .null] [] (sI u11 82 20 (0 : Int32))))) := by
  refine (E_al c_219_0 rfl (by decide)).trans ?_
  refine (E_ic (v := (0 : Int32)) c_219_1 (by decide)).trans ?_
  refine (E_pfi (k := 0) c_219_2 sh_82 rfl rfl rfl).trans ?_
  refine (E_al c_219_5 rfl (by decide)).trans ?_
  refine (E_gfi (k := 7) c_219_6 sh_82 rfl rfl rfl (by decide)).trans ?_
  refine (E_b0_ne (q := 16) c_219_9 rfl).trans (ax_ite ?_ ?_)
  · refine (E_l2 (v := (-9000000000000000002 : Int64)) c_219_12 (by decide)).trans ?_
    exact E_rL c_219_15 mi_219
  · refine (E_al c_219_16 rfl (by decide)).trans ?_
    refine (E_gfr (k := 8) (r := 88) c_219_17 sh_82 rfl rfl rfl).trans ?_
    refine (E_ic (v := (0 : Int32)) c_219_20 (by decide)).trans ?_
    refine (E_ialk (k := 0) c_219_21 sh_88 (by decide) (by decide)).trans ?_
    refine (E_ic (v := (12 : Int32)) c_219_22 (by decide)).trans ?_
    refine (E_br_ne (q := 31) c_219_24 rfl).trans (ax_ite ?_ ?_)
    · refine (E_l2 (v := (-9000000000000000003 : Int64)) c_219_27 (by decide)).trans ?_
      exact E_rL c_219_30 mi_219
    · refine (E_al c_219_31 rfl (by decide)).trans ?_
      refine (E_cVV c_219_32 mi_205 rfl (sO_kl sh_82) (Nat.le_of_ble_eq_true rfl) (Nat.le_of_ble_eq_true rfl)).trans (ax_bnd fun u0 => ?_)
      refine (E_al c_219_35 rfl (by decide)).trans ?_
      refine (E_al c_219_36 rfl (by decide)).trans ?_
      refine (E_cLV c_219_37 mi_210 rfl (sO_kl sh_82) (Nat.le_of_ble_eq_true rfl) (Nat.le_of_ble_eq_true rfl)).trans (ax_bnd fun u1 => ?_)
      refine (E_l2 (v := (1667330660 : Int64)) c_219_40 (by decide)).trans ?_
      refine (E_lcmp c_219_43).trans ?_
      refine (E_b0_ne (q := 51) c_219_44 rfl).trans (ax_ite ?_ ?_)
      · refine (E_ic (v := (1 : Int32)) c_219_47 (by decide)).trans ?_
        refine (E_goto (q := 52) c_219_48 rfl).trans ?_
        refine (E_cVV c_219_52 mi_213 rfl (sO_kl sh_82) (Nat.le_of_ble_eq_true rfl) (Nat.le_of_ble_eq_true rfl)).trans (ax_bnd fun u2 => ?_)
        refine (E_al c_219_55 rfl (by decide)).trans ?_
        refine (E_ic (v := (0 : Int32)) c_219_56 (by decide)).trans ?_
        refine (E_ic (v := (3 : Int32)) c_219_57 (by decide)).trans ?_
        refine (E_cIV c_219_58 mi_214 rfl rfl (sO_kl sh_82) (Nat.le_of_ble_eq_true rfl) (Nat.le_of_ble_eq_true rfl)).trans (ax_bnd fun u3 => ?_)
        refine (E_is (L' := [.ref 82, .int u3.1, .null, .null, .null]) c_219_61 (Nat.le_of_ble_eq_true rfl) rfl).trans ?_
        refine (E_al c_219_62 rfl (by decide)).trans ?_
        refine (E_ic (v := (1800 : Int32)) c_219_63 (by decide)).trans ?_
        refine (E_ic (v := (2000 : Int32)) c_219_66 (by decide)).trans ?_
        refine (E_cIV c_219_69 mi_214 rfl rfl (sO_kl sh_82) (Nat.le_of_ble_eq_true rfl) (Nat.le_of_ble_eq_true rfl)).trans (ax_bnd fun u4 => ?_)
        refine (E_is (L' := [.ref 82, .int u3.1, .int u4.1, .null, .null]) c_219_72 (Nat.le_of_ble_eq_true rfl) rfl).trans ?_
        refine (E_al c_219_73 rfl (by decide)).trans ?_
        refine (E_cVV c_219_74 mi_216 rfl (sO_kl sh_82) (Nat.le_of_ble_eq_true rfl) (Nat.le_of_ble_eq_true rfl)).trans (ax_bnd fun u5 => ?_)
        refine (E_al c_219_77 rfl (by decide)).trans ?_
        refine (E_il c_219_78 rfl).trans ?_
        refine (E_il c_219_79 rfl).trans ?_
        refine (E_ic (v := (-1 : Int32)) c_219_80 (by decide)).trans ?_
        refine (E_cVV c_219_81 mi_220 rfl (sO_kl sh_82) (Nat.le_of_ble_eq_true rfl) (Nat.le_of_ble_eq_true rfl)).trans (ax_bnd fun u6 => ?_)
        refine (E_al c_219_84 rfl (by decide)).trans ?_
        refine (E_ic (v := (0 : Int32)) c_219_85 (by decide)).trans ?_
        refine (E_pfi (k := 20) c_219_86 sh_82 rfl rfl rfl).trans ?_
        rfl
      · refine (E_ic (v := (0 : Int32)) c_219_51 (by decide)).trans ?_
        refine (E_cVV c_219_52 mi_213 rfl (sO_kl sh_82) (Nat.le_of_ble_eq_true rfl) (Nat.le_of_ble_eq_true rfl)).trans (ax_bnd fun u7 => ?_)
        refine (E_al c_219_55 rfl (by decide)).trans ?_
        refine (E_ic (v := (0 : Int32)) c_219_56 (by decide)).trans ?_
        refine (E_ic (v := (3 : Int32)) c_219_57 (by decide)).trans ?_
        refine (E_cIV c_219_58 mi_214 rfl rfl (sO_kl sh_82) (Nat.le_of_ble_eq_true rfl) (Nat.le_of_ble_eq_true rfl)).trans (ax_bnd fun u8 => ?_)
        refine (E_is (L' := [.ref 82, .int u8.1, .null, .null, .null]) c_219_61 (Nat.le_of_ble_eq_true rfl) rfl).trans ?_
        refine (E_al c_219_62 rfl (by decide)).trans ?_
        refine (E_ic (v := (1800 : Int32)) c_219_63 (by decide)).trans ?_
        refine (E_ic (v := (2000 : Int32)) c_219_66 (by decide)).trans ?_
        refine (E_cIV c_219_69 mi_214 rfl rfl (sO_kl sh_82) (Nat.le_of_ble_eq_true rfl) (Nat.le_of_ble_eq_true rfl)).trans (ax_bnd fun u9 => ?_)
        refine (E_is (L' := [.ref 82, .int u8.1, .int u9.1, .null, .null]) c_219_72 (Nat.le_of_ble_eq_true rfl) rfl).trans ?_
        refine (E_al c_219_73 rfl (by decide)).trans ?_
        refine (E_cVV c_219_74 mi_216 rfl (sO_kl sh_82) (Nat.le_of_ble_eq_true rfl) (Nat.le_of_ble_eq_true rfl)).trans (ax_bnd fun u10 => ?_)
        refine (E_al c_219_77 rfl (by decide)).trans ?_
        refine (E_il c_219_78 rfl).trans ?_
        refine (E_il c_219_79 rfl).trans ?_
        refine (E_ic (v := (-1 : Int32)) c_219_80 (by decide)).trans ?_
        refine (E_cVV c_219_81 mi_220 rfl (sO_kl sh_82) (Nat.le_of_ble_eq_true rfl) (Nat.le_of_ble_eq_true rfl)).trans (ax_bnd fun u11 => ?_)
        refine (E_al c_219_84 rfl (by decide)).trans ?_
        refine (E_ic (v := (0 : Int32)) c_219_85 (by decide)).trans ?_
        refine (E_pfi (k := 20) c_219_86 sh_82 rfl rfl rfl).trans ?_
        rfl
set_option maxHeartbeats 4000000 in
theorem u_219_82p89 (d : Nat) (σ : ax_S) (x1 : Int32) (x2 : Int32) (w3 : Value) (hw3 : w3.category = 1) (w4 : Value) (hw4 : w4.category = 1) : ev sO (d + 7) 219 89 [.ref 82, .int x1, .int x2, w3, w4] [] σ = if (σ.1 82 17) = 0 then (if (σ.1 82 14) = (1 : Int32) then ((cL sO (d + 6) 218 [.ref 82] σ).bind fun u0 => if (lg_cmp u0.1 (0 : Int64)) < 0 then (some (some (.long u0.1), u0.2)) else ((cI sO (d + 6) 226 [.ref 82] u0.2).bind fun u1 => some (some (.long u1.1.toInt64), u1.2))) else ((cV sO (d + 6) 221 [.ref 82, .int x1, .int x2] σ).bind fun u2 => ev sO (d + 7) 219 89 [.ref 82, .int x1, .int x2, w3, w4] [] u2)) else ((cL sO (d + 6) 218 [.ref 82] σ).bind fun u3 => if (lg_cmp u3.1 (0 : Int64)) < 0 then (some (some (.long u3.1), u3.2)) else ((cI sO (d + 6) 226 [.ref 82] u3.2).bind fun u4 => some (some (.long u4.1.toInt64), u4.2))) := by
  refine (E_al c_219_89 rfl (by decide)).trans ?_
  refine (E_gfi (k := 17) c_219_90 sh_82 rfl rfl rfl (by decide)).trans ?_
  refine (E_b0_ne (q := 113) c_219_93 rfl).trans (ax_ite ?_ ?_)
  · refine (E_al c_219_96 rfl (by decide)).trans ?_
    refine (E_gfi (k := 14) c_219_97 sh_82 rfl rfl rfl (by decide)).trans ?_
    refine (E_ic (v := (1 : Int32)) c_219_100 (by decide)).trans ?_
    refine (E_br_eq (q := 113) c_219_101 rfl).trans (ax_ite ?_ ?_)
    · refine (E_al c_219_113 rfl (by decide)).trans ?_
      refine (E_cLV c_219_114 mi_218 rfl (sO_kl sh_82) (Nat.le_of_ble_eq_true rfl) (Nat.le_of_ble_eq_true rfl)).trans (ax_bnd fun u0 => ?_)
      refine (E_lss (L' := [.ref 82, .int x1, .int x2, .long u0.1, .null]) c_219_117 (Nat.le_of_ble_eq_true rfl) rfl).trans ?_
      refine (E_ll c_219_118 rfl).trans ?_
      refine (E_lc (v := (0 : Int64)) c_219_119 (by decide)).trans ?_
      refine (E_lcmp c_219_120).trans ?_
      refine (E_b0_ge (q := 128) c_219_121 rfl).trans (ax_ite ?_ ?_)
      · refine (E_ll c_219_124 rfl).trans ?_
        refine (E_goto (q := 133) c_219_125 rfl).trans ?_
        exact E_rL c_219_133 mi_219
      · refine (E_al c_219_128 rfl (by decide)).trans ?_
        refine (E_cIV c_219_129 mi_226 rfl rfl (sO_kl sh_82) (Nat.le_of_ble_eq_true rfl) (Nat.le_of_ble_eq_true rfl)).trans (ax_bnd fun u1 => ?_)
        refine (E_i2l c_219_132).trans ?_
        exact E_rL c_219_133 mi_219
    · refine (E_al c_219_104 rfl (by decide)).trans ?_
      refine (E_il c_219_105 rfl).trans ?_
      refine (E_il c_219_106 rfl).trans ?_
      refine (E_cVV c_219_107 mi_221 rfl (sO_kl sh_82) (Nat.le_of_ble_eq_true rfl) (Nat.le_of_ble_eq_true rfl)).trans (ax_bnd fun u2 => ?_)
      refine (E_goto (q := 89) c_219_110 rfl).trans ?_
      rfl
  · refine (E_al c_219_113 rfl (by decide)).trans ?_
    refine (E_cLV c_219_114 mi_218 rfl (sO_kl sh_82) (Nat.le_of_ble_eq_true rfl) (Nat.le_of_ble_eq_true rfl)).trans (ax_bnd fun u3 => ?_)
    refine (E_lss (L' := [.ref 82, .int x1, .int x2, .long u3.1, .null]) c_219_117 (Nat.le_of_ble_eq_true rfl) rfl).trans ?_
    refine (E_ll c_219_118 rfl).trans ?_
    refine (E_lc (v := (0 : Int64)) c_219_119 (by decide)).trans ?_
    refine (E_lcmp c_219_120).trans ?_
    refine (E_b0_ge (q := 128) c_219_121 rfl).trans (ax_ite ?_ ?_)
    · refine (E_ll c_219_124 rfl).trans ?_
      refine (E_goto (q := 133) c_219_125 rfl).trans ?_
      exact E_rL c_219_133 mi_219
    · refine (E_al c_219_128 rfl (by decide)).trans ?_
      refine (E_cIV c_219_129 mi_226 rfl rfl (sO_kl sh_82) (Nat.le_of_ble_eq_true rfl) (Nat.le_of_ble_eq_true rfl)).trans (ax_bnd fun u4 => ?_)
      refine (E_i2l c_219_132).trans ?_
      exact E_rL c_219_133 mi_219
set_option maxHeartbeats 4000000 in
theorem u_85_0 (d : Nat) (σ : ax_S) : ev sO (d + 1) 85 0 [.ref 0] [] σ = (cI sO d 86 [.ref 5] σ).bind fun u0 => some (some (.int u0.1), u0.2) := by
  refine (E_al c_85_0 rfl (by decide)).trans ?_
  refine (E_gfr (k := 1) (r := 5) c_85_1 sh_0 rfl rfl rfl).trans ?_
  refine (E_cIV c_85_4 mi_86 rfl rfl (sO_kl sh_5) (Nat.le_of_ble_eq_true rfl) (Nat.le_of_ble_eq_true rfl)).trans (ax_bnd fun u0 => ?_)
  exact E_rI c_85_7 mi_85
set_option maxHeartbeats 4000000 in
theorem u_227_82 (d : Nat) (σ : ax_S) : ev sO d 227 0 [.ref 82] [] σ = some (some (.int ((sI σ 82 0 (0 : Int32)).1 82 11)), (sI σ 82 0 (0 : Int32))) := by
  refine (E_al c_227_0 rfl (by decide)).trans ?_
  refine (E_ic (v := (0 : Int32)) c_227_1 (by decide)).trans ?_
  refine (E_pfi (k := 0) c_227_2 sh_82 rfl rfl rfl).trans ?_
  refine (E_al c_227_5 rfl (by decide)).trans ?_
  refine (E_gfi (k := 11) c_227_6 sh_82 rfl rfl rfl (by decide)).trans ?_
  exact E_rI c_227_9 mi_227
set_option maxHeartbeats 4000000 in
theorem u_87_0 (d : Nat) (σ : ax_S) (x1 : Int32) (x2 : Int32) (x3 : Int32) (x4 : Int32) (x5 : Int32) : ev sO (d + 5) 87 0 [.ref 0, .int x1, .int x2, .int x3, .int x4, .int x5] [] σ = (cI sO (d + 4) 88 [.int x1] σ).bind fun u0 => if u0.1 = 0 then (some (some (.long (-9000000000000000001 : Int64)), u0.2)) else ((cI sO (d + 4) 89 [.int x2] u0.2).bind fun u1 => if u1.1 = 0 then (some (some (.long (-9000000000000000001 : Int64)), u1.2)) else ((cI sO (d + 4) 13 [.int x3] u1.2).bind fun u2 => if u2.1 = 0 then (some (some (.long (-9000000000000000001 : Int64)), u2.2)) else ((cI sO (d + 4) 90 [.ref 17, .int x5, .int x2] u2.2).bind fun u3 => if u3.1 = 0 then (some (some (.long (-9000000000000000001 : Int64)), u3.2)) else ((cI sO (d + 4) 67 [.ref 8] u3.2).bind fun u4 => if u4.1 = 0 then (some (some (.long (-9000000000000000002 : Int64)), u4.2)) else ((cI sO (d + 4) 68 [.ref 17] u4.2).bind fun u5 => if u5.1 = 0 then ((cI sO (d + 4) 18 [.ref 1, .int x3] u5.2).bind fun u6 => if u6.1 = 0 then ((cI sO (d + 4) 20 [.ref 1, .int x3, .int x4, .int (11 : Int32)] u6.2).bind fun u7 => if u7.1 = 0 then ((cL sO (d + 4) 14 [.ref 0, .int (2 : Int32)] u7.2).bind fun u8 => some (some (.long u8.1), u8.2)) else ((cV sO (d + 4) 70 [.ref 61, .int x1, .int x2] u7.2).bind fun u9 => (cI sO (d + 4) 92 [.ref 61, .ref 1, .int x3, .int x4] u9).bind fun u10 => if u10.1 = 0 then (some (some (.long (-9000000000000000001 : Int64)), u10.2)) else ((cI sO (d + 4) 78 [.ref 17, .ref 61, .int x5] u10.2).bind fun u11 => (cL sO (d + 4) 16 [.ref 0, .long u11.1.toInt64] u11.2).bind fun u12 => some (some (.long u12.1), u12.2)))) else ((cL sO (d + 4) 14 [.ref 0, .int (1 : Int32)] u6.2).bind fun u13 => some (some (.long u13.1), u13.2))) else (some (some (.long (-9000000000000000003 : Int64)), u5.2))))))) := by
  refine (E_il c_87_0 rfl).trans ?_
  refine (E_cIS c_87_1 mi_88 rfl rfl (Nat.le_of_ble_eq_true rfl) (Nat.le_of_ble_eq_true rfl)).trans (ax_bnd fun u0 => ?_)
  refine (E_b0_eq (q := 37) c_87_4 rfl).trans (ax_ite ?_ ?_)
  · refine (E_l2 (v := (-9000000000000000001 : Int64)) c_87_37 (by decide)).trans ?_
    exact E_rL c_87_40 mi_87
  · refine (E_il c_87_7 rfl).trans ?_
    refine (E_cIS c_87_8 mi_89 rfl rfl (Nat.le_of_ble_eq_true rfl) (Nat.le_of_ble_eq_true rfl)).trans (ax_bnd fun u1 => ?_)
    refine (E_b0_eq (q := 37) c_87_11 rfl).trans (ax_ite ?_ ?_)
    · refine (E_l2 (v := (-9000000000000000001 : Int64)) c_87_37 (by decide)).trans ?_
      exact E_rL c_87_40 mi_87
    · refine (E_il c_87_14 rfl).trans ?_
      refine (E_cIS c_87_15 mi_13 rfl rfl (Nat.le_of_ble_eq_true rfl) (Nat.le_of_ble_eq_true rfl)).trans (ax_bnd fun u2 => ?_)
      refine (E_b0_eq (q := 37) c_87_18 rfl).trans (ax_ite ?_ ?_)
      · refine (E_l2 (v := (-9000000000000000001 : Int64)) c_87_37 (by decide)).trans ?_
        exact E_rL c_87_40 mi_87
      · refine (E_al c_87_21 rfl (by decide)).trans ?_
        refine (E_gfr (k := 2) (r := 7) c_87_22 sh_0 rfl rfl rfl).trans ?_
        refine (E_gfr (k := 1) (r := 17) c_87_25 sh_7 rfl rfl rfl).trans ?_
        refine (E_il c_87_28 rfl).trans ?_
        refine (E_il c_87_30 rfl).trans ?_
        refine (E_cIV c_87_31 mi_90 rfl rfl (sO_kl sh_17) (Nat.le_of_ble_eq_true rfl) (Nat.le_of_ble_eq_true rfl)).trans (ax_bnd fun u3 => ?_)
        refine (E_b0_ne (q := 41) c_87_34 rfl).trans (ax_ite ?_ ?_)
        · refine (E_l2 (v := (-9000000000000000001 : Int64)) c_87_37 (by decide)).trans ?_
          exact E_rL c_87_40 mi_87
        · refine (E_al c_87_41 rfl (by decide)).trans ?_
          refine (E_gfr (k := 2) (r := 7) c_87_42 sh_0 rfl rfl rfl).trans ?_
          refine (E_gfr (k := 0) (r := 8) c_87_45 sh_7 rfl rfl rfl).trans ?_
          refine (E_cIV c_87_48 mi_67 rfl rfl (sO_kl sh_8) (Nat.le_of_ble_eq_true rfl) (Nat.le_of_ble_eq_true rfl)).trans (ax_bnd fun u4 => ?_)
          refine (E_b0_ne (q := 58) c_87_51 rfl).trans (ax_ite ?_ ?_)
          · refine (E_l2 (v := (-9000000000000000002 : Int64)) c_87_54 (by decide)).trans ?_
            exact E_rL c_87_57 mi_87
          · refine (E_al c_87_58 rfl (by decide)).trans ?_
            refine (E_gfr (k := 2) (r := 7) c_87_59 sh_0 rfl rfl rfl).trans ?_
            refine (E_gfr (k := 1) (r := 17) c_87_62 sh_7 rfl rfl rfl).trans ?_
            refine (E_cIV c_87_65 mi_68 rfl rfl (sO_kl sh_17) (Nat.le_of_ble_eq_true rfl) (Nat.le_of_ble_eq_true rfl)).trans (ax_bnd fun u5 => ?_)
            refine (E_b0_eq (q := 75) c_87_68 rfl).trans (ax_ite ?_ ?_)
            · refine (E_al c_87_75 rfl (by decide)).trans ?_
              refine (E_gfr (k := 0) (r := 1) c_87_76 sh_0 rfl rfl rfl).trans ?_
              refine (E_il c_87_79 rfl).trans ?_
              refine (E_cIV c_87_80 mi_18 rfl rfl (sO_kl sh_1) (Nat.le_of_ble_eq_true rfl) (Nat.le_of_ble_eq_true rfl)).trans (ax_bnd fun u6 => ?_)
              refine (E_b0_eq (q := 92) c_87_83 rfl).trans (ax_ite ?_ ?_)
              · refine (E_al c_87_92 rfl (by decide)).trans ?_
                refine (E_gfr (k := 0) (r := 1) c_87_93 sh_0 rfl rfl rfl).trans ?_
                refine (E_il c_87_96 rfl).trans ?_
                refine (E_il c_87_97 rfl).trans ?_
                refine (E_ic (v := (11 : Int32)) c_87_99 (by decide)).trans ?_
                refine (E_cIV c_87_101 mi_20 rfl rfl (sO_kl sh_1) (Nat.le_of_ble_eq_true rfl) (Nat.le_of_ble_eq_true rfl)).trans (ax_bnd fun u7 => ?_)
                refine (E_b0_ne (q := 113) c_87_104 rfl).trans (ax_ite ?_ ?_)
                · refine (E_al c_87_107 rfl (by decide)).trans ?_
                  refine (E_ic (v := (2 : Int32)) c_87_108 (by decide)).trans ?_
                  refine (E_cLV c_87_109 mi_14 rfl (sO_kl sh_0) (Nat.le_of_ble_eq_true rfl) (Nat.le_of_ble_eq_true rfl)).trans (ax_bnd fun u8 => ?_)
                  exact E_rL c_87_112 mi_87
                · refine (E_al c_87_113 rfl (by decide)).trans ?_
                  refine (E_gfr (k := 6) (r := 61) c_87_114 sh_0 rfl rfl rfl).trans ?_
                  refine (E_il c_87_117 rfl).trans ?_
                  refine (E_il c_87_118 rfl).trans ?_
                  refine (E_cVV c_87_119 mi_70 rfl (sO_kl sh_61) (Nat.le_of_ble_eq_true rfl) (Nat.le_of_ble_eq_true rfl)).trans (ax_bnd fun u9 => ?_)
                  refine (E_al c_87_122 rfl (by decide)).trans ?_
                  refine (E_gfr (k := 6) (r := 61) c_87_123 sh_0 rfl rfl rfl).trans ?_
                  refine (E_al c_87_126 rfl (by decide)).trans ?_
                  refine (E_gfr (k := 0) (r := 1) c_87_127 sh_0 rfl rfl rfl).trans ?_
                  refine (E_il c_87_130 rfl).trans ?_
                  refine (E_il c_87_131 rfl).trans ?_
                  refine (E_cIV c_87_133 mi_92 rfl rfl (sO_kl sh_61) (Nat.le_of_ble_eq_true rfl) (Nat.le_of_ble_eq_true rfl)).trans (ax_bnd fun u10 => ?_)
                  refine (E_b0_ne (q := 143) c_87_136 rfl).trans (ax_ite ?_ ?_)
                  · refine (E_l2 (v := (-9000000000000000001 : Int64)) c_87_139 (by decide)).trans ?_
                    exact E_rL c_87_142 mi_87
                  · refine (E_al c_87_143 rfl (by decide)).trans ?_
                    refine (E_al c_87_144 rfl (by decide)).trans ?_
                    refine (E_gfr (k := 2) (r := 7) c_87_145 sh_0 rfl rfl rfl).trans ?_
                    refine (E_gfr (k := 1) (r := 17) c_87_148 sh_7 rfl rfl rfl).trans ?_
                    refine (E_al c_87_151 rfl (by decide)).trans ?_
                    refine (E_gfr (k := 6) (r := 61) c_87_152 sh_0 rfl rfl rfl).trans ?_
                    refine (E_il c_87_155 rfl).trans ?_
                    refine (E_cIV c_87_157 mi_78 rfl rfl (sO_kl sh_17) (Nat.le_of_ble_eq_true rfl) (Nat.le_of_ble_eq_true rfl)).trans (ax_bnd fun u11 => ?_)
                    refine (E_i2l c_87_160).trans ?_
                    refine (E_cLV c_87_161 mi_16 rfl (sO_kl sh_0) (Nat.le_of_ble_eq_true rfl) (Nat.le_of_ble_eq_true rfl)).trans (ax_bnd fun u12 => ?_)
                    exact E_rL c_87_164 mi_87
              · refine (E_al c_87_86 rfl (by decide)).trans ?_
                refine (E_ic (v := (1 : Int32)) c_87_87 (by decide)).trans ?_
                refine (E_cLV c_87_88 mi_14 rfl (sO_kl sh_0) (Nat.le_of_ble_eq_true rfl) (Nat.le_of_ble_eq_true rfl)).trans (ax_bnd fun u13 => ?_)
                exact E_rL c_87_91 mi_87
            · refine (E_l2 (v := (-9000000000000000003 : Int64)) c_87_71 (by decide)).trans ?_
              exact E_rL c_87_74 mi_87
set_option maxHeartbeats 4000000 in
theorem u_228_82 (d : Nat) (σ : ax_S) (x1 : Int32) (x2 : Int32) (x3 : Int32) (x4 : Int32) (x5 : Int32) : ev sO (d + 2) 228 0 [.ref 82, .int x1, .int x2, .int x3, .int x4, .int x5, .null, .null] [] σ = (cI sO (d + 1) 229 [.int x1] (sI σ 82 0 (0 : Int32))).bind fun u0 => if u0.1 = 0 then (some (some (.long (-9000000000000000001 : Int64)), u0.2)) else ((cI sO (d + 1) 230 [.int x2] u0.2).bind fun u1 => if u1.1 = 0 then (some (some (.long (-9000000000000000001 : Int64)), u1.2)) else ((cI sO (d + 1) 197 [.int x3] u1.2).bind fun u2 => if u2.1 = 0 then (some (some (.long (-9000000000000000001 : Int64)), u2.2)) else (if x5 = (-1000000 : Int32) then (if (u2.2.1 82 7) = 0 then (some (some (.long (-9000000000000000002 : Int64)), u2.2)) else (if (u2.2.1 88 0) = (12 : Int32) then (some (some (.long (-9000000000000000003 : Int64)), u2.2)) else (gd (0 ≤ x3.toInt ∧ x3.toInt < (8 : Nat)) (if (u2.2.1 83 x3.toNatClampNeg) < 0 then ((cL sO (d + 1) 199 [.ref 82, .int (1 : Int32)] u2.2).bind fun u3 => some (some (.long u3.1), u3.2)) else (if x4 < 0 then ((cL sO (d + 1) 199 [.ref 82, .int (2 : Int32)] u2.2).bind fun u4 => some (some (.long u4.1), u4.2)) else (gd (0 ≤ x3.toInt ∧ x3.toInt < (8 : Nat)) (if 0 < (lg_cmp (x4.toInt64 + (11 : Int64)) ((u2.2.1 84 x3.toNatClampNeg).toInt64)) then ((cL sO (d + 1) 199 [.ref 82, .int (2 : Int32)] u2.2).bind fun u5 => some (some (.long u5.1), u5.2)) else (if x5 = (-1000000 : Int32) then ((cV sO (d + 1) 220 [.ref 82, .int x1, .int x2, .int (-1 : Int32)] u2.2).bind fun u6 => ev sO (d + 2) 228 149 [.ref 82, .int x1, .int x2, .int x3, .int x4, .int x5, .int (0 : Int32), .null] [] u6) else ((cV sO (d + 1) 220 [.ref 82, .int x1, .int x2, .int x5] u2.2).bind fun u7 => ev sO (d + 2) 228 149 [.ref 82, .int x1, .int x2, .int x3, .int x4, .int x5, .int (0 : Int32), .null] [] u7))))))))) else ((cI sO (d + 1) 231 [.ref 82, .int x5] u2.2).bind fun u8 => if u8.1 = 0 then (some (some (.long (-9000000000000000001 : Int64)), u8.2)) else ((cI sO (d + 1) 232 [.ref 82, .int x5, .int (2 : Int32)] u8.2).bind fun u9 => if x2 < u9.1 then (some (some (.long (-9000000000000000001 : Int64)), u9.2)) else (if (u9.2.1 82 7) = 0 then (some (some (.long (-9000000000000000002 : Int64)), u9.2)) else (if (u9.2.1 88 0) = (12 : Int32) then (some (some (.long (-9000000000000000003 : Int64)), u9.2)) else (gd (0 ≤ x3.toInt ∧ x3.toInt < (8 : Nat)) (if (u9.2.1 83 x3.toNatClampNeg) < 0 then ((cL sO (d + 1) 199 [.ref 82, .int (1 : Int32)] u9.2).bind fun u10 => some (some (.long u10.1), u10.2)) else (if x4 < 0 then ((cL sO (d + 1) 199 [.ref 82, .int (2 : Int32)] u9.2).bind fun u11 => some (some (.long u11.1), u11.2)) else (gd (0 ≤ x3.toInt ∧ x3.toInt < (8 : Nat)) (if 0 < (lg_cmp (x4.toInt64 + (11 : Int64)) ((u9.2.1 84 x3.toNatClampNeg).toInt64)) then ((cL sO (d + 1) 199 [.ref 82, .int (2 : Int32)] u9.2).bind fun u12 => some (some (.long u12.1), u12.2)) else (if x5 = (-1000000 : Int32) then ((cV sO (d + 1) 220 [.ref 82, .int x1, .int x2, .int (-1 : Int32)] u9.2).bind fun u13 => ev sO (d + 2) 228 149 [.ref 82, .int x1, .int x2, .int x3, .int x4, .int x5, .int (0 : Int32), .null] [] u13) else ((cV sO (d + 1) 220 [.ref 82, .int x1, .int x2, .int x5] u9.2).bind fun u14 => ev sO (d + 2) 228 149 [.ref 82, .int x1, .int x2, .int x3, .int x4, .int x5, .int (0 : Int32), .null] [] u14)))))))))))))) := by
  refine (E_al c_228_0 rfl (by decide)).trans ?_
  refine (E_ic (v := (0 : Int32)) c_228_1 (by decide)).trans ?_
  refine (E_pfi (k := 0) c_228_2 sh_82 rfl rfl rfl).trans ?_
  refine (E_il c_228_5 rfl).trans ?_
  refine (E_cIS c_228_6 mi_229 rfl rfl (Nat.le_of_ble_eq_true rfl) (Nat.le_of_ble_eq_true rfl)).trans (ax_bnd fun u0 => ?_)
  refine (E_b0_eq (q := 53) c_228_9 rfl).trans (ax_ite ?_ ?_)
  · refine (E_l2 (v := (-9000000000000000001 : Int64)) c_228_53 (by decide)).trans ?_
    exact E_rL c_228_56 mi_228
  · refine (E_il c_228_12 rfl).trans ?_
    refine (E_cIS c_228_13 mi_230 rfl rfl (Nat.le_of_ble_eq_true rfl) (Nat.le_of_ble_eq_true rfl)).trans (ax_bnd fun u1 => ?_)
    refine (E_b0_eq (q := 53) c_228_16 rfl).trans (ax_ite ?_ ?_)
    · refine (E_l2 (v := (-9000000000000000001 : Int64)) c_228_53 (by decide)).trans ?_
      exact E_rL c_228_56 mi_228
    · refine (E_il c_228_19 rfl).trans ?_
      refine (E_cIS c_228_20 mi_197 rfl rfl (Nat.le_of_ble_eq_true rfl) (Nat.le_of_ble_eq_true rfl)).trans (ax_bnd fun u2 => ?_)
      refine (E_b0_eq (q := 53) c_228_23 rfl).trans (ax_ite ?_ ?_)
      · refine (E_l2 (v := (-9000000000000000001 : Int64)) c_228_53 (by decide)).trans ?_
        exact E_rL c_228_56 mi_228
      · refine (E_il c_228_26 rfl).trans ?_
        refine (E_ic (v := (-1000000 : Int32)) c_228_28 (by decide)).trans ?_
        refine (E_br_eq (q := 57) c_228_30 rfl).trans (ax_ite ?_ ?_)
        · refine (E_al c_228_57 rfl (by decide)).trans ?_
          refine (E_gfi (k := 7) c_228_58 sh_82 rfl rfl rfl (by decide)).trans ?_
          refine (E_b0_ne (q := 68) c_228_61 rfl).trans (ax_ite ?_ ?_)
          · refine (E_l2 (v := (-9000000000000000002 : Int64)) c_228_64 (by decide)).trans ?_
            exact E_rL c_228_67 mi_228
          · refine (E_al c_228_68 rfl (by decide)).trans ?_
            refine (E_gfr (k := 8) (r := 88) c_228_69 sh_82 rfl rfl rfl).trans ?_
            refine (E_ic (v := (0 : Int32)) c_228_72 (by decide)).trans ?_
            refine (E_ialk (k := 0) c_228_73 sh_88 (by decide) (by decide)).trans ?_
            refine (E_ic (v := (12 : Int32)) c_228_74 (by decide)).trans ?_
            refine (E_br_ne (q := 83) c_228_76 rfl).trans (ax_ite ?_ ?_)
            · refine (E_l2 (v := (-9000000000000000003 : Int64)) c_228_79 (by decide)).trans ?_
              exact E_rL c_228_82 mi_228
            · refine (E_al c_228_83 rfl (by decide)).trans ?_
              refine (E_gfr (k := 2) (r := 83) c_228_84 sh_82 rfl rfl rfl).trans ?_
              refine (E_il c_228_87 rfl).trans ?_
              refine (E_ial c_228_88 sh_83).trans (ax_gd ?_)
              refine (E_b0_ge (q := 98) c_228_89 rfl).trans (ax_ite ?_ ?_)
              · refine (E_al c_228_92 rfl (by decide)).trans ?_
                refine (E_ic (v := (1 : Int32)) c_228_93 (by decide)).trans ?_
                refine (E_cLV c_228_94 mi_199 rfl (sO_kl sh_82) (Nat.le_of_ble_eq_true rfl) (Nat.le_of_ble_eq_true rfl)).trans (ax_bnd fun u3 => ?_)
                exact E_rL c_228_97 mi_228
              · refine (E_il c_228_98 rfl).trans ?_
                refine (E_b0_lt (q := 121) c_228_100 rfl).trans (ax_ite ?_ ?_)
                · refine (E_al c_228_121 rfl (by decide)).trans ?_
                  refine (E_ic (v := (2 : Int32)) c_228_122 (by decide)).trans ?_
                  refine (E_cLV c_228_123 mi_199 rfl (sO_kl sh_82) (Nat.le_of_ble_eq_true rfl) (Nat.le_of_ble_eq_true rfl)).trans (ax_bnd fun u4 => ?_)
                  exact E_rL c_228_126 mi_228
                · refine (E_il c_228_103 rfl).trans ?_
                  refine (E_i2l c_228_105).trans ?_
                  refine (E_l2 (v := (11 : Int64)) c_228_106 (by decide)).trans ?_
                  refine (E_ladd c_228_109).trans ?_
                  refine (E_al c_228_110 rfl (by decide)).trans ?_
                  refine (E_gfr (k := 3) (r := 84) c_228_111 sh_82 rfl rfl rfl).trans ?_
                  refine (E_il c_228_114 rfl).trans ?_
                  refine (E_ial c_228_115 sh_84).trans (ax_gd ?_)
                  refine (E_i2l c_228_116).trans ?_
                  refine (E_lcmp c_228_117).trans ?_
                  refine (E_b0_le (q := 127) c_228_118 rfl).trans (ax_ite ?_ ?_)
                  · refine (E_al c_228_121 rfl (by decide)).trans ?_
                    refine (E_ic (v := (2 : Int32)) c_228_122 (by decide)).trans ?_
                    refine (E_cLV c_228_123 mi_199 rfl (sO_kl sh_82) (Nat.le_of_ble_eq_true rfl) (Nat.le_of_ble_eq_true rfl)).trans (ax_bnd fun u5 => ?_)
                    exact E_rL c_228_126 mi_228
                  · refine (E_al c_228_127 rfl (by decide)).trans ?_
                    refine (E_il c_228_128 rfl).trans ?_
                    refine (E_il c_228_129 rfl).trans ?_
                    refine (E_il c_228_130 rfl).trans ?_
                    refine (E_ic (v := (-1000000 : Int32)) c_228_132 (by decide)).trans ?_
                    refine (E_br_ne (q := 141) c_228_134 rfl).trans (ax_ite ?_ ?_)
                    · refine (E_ic (v := (-1 : Int32)) c_228_137 (by decide)).trans ?_
                      refine (E_goto (q := 143) c_228_138 rfl).trans ?_
                      refine (E_cVV c_228_143 mi_220 rfl (sO_kl sh_82) (Nat.le_of_ble_eq_true rfl) (Nat.le_of_ble_eq_true rfl)).trans (ax_bnd fun u6 => ?_)
                      refine (E_ic (v := (0 : Int32)) c_228_146 (by decide)).trans ?_
                      refine (E_is (L' := [.ref 82, .int x1, .int x2, .int x3, .int x4, .int x5, .int (0 : Int32), .null]) c_228_147 (Nat.le_of_ble_eq_true rfl) rfl).trans ?_
                      rfl
                    · refine (E_il c_228_141 rfl).trans ?_
                      refine (E_cVV c_228_143 mi_220 rfl (sO_kl sh_82) (Nat.le_of_ble_eq_true rfl) (Nat.le_of_ble_eq_true rfl)).trans (ax_bnd fun u7 => ?_)
                      refine (E_ic (v := (0 : Int32)) c_228_146 (by decide)).trans ?_
                      refine (E_is (L' := [.ref 82, .int x1, .int x2, .int x3, .int x4, .int x5, .int (0 : Int32), .null]) c_228_147 (Nat.le_of_ble_eq_true rfl) rfl).trans ?_
                      rfl
        · refine (E_al c_228_33 rfl (by decide)).trans ?_
          refine (E_il c_228_34 rfl).trans ?_
          refine (E_cIV c_228_36 mi_231 rfl rfl (sO_kl sh_82) (Nat.le_of_ble_eq_true rfl) (Nat.le_of_ble_eq_true rfl)).trans (ax_bnd fun u8 => ?_)
          refine (E_b0_eq (q := 53) c_228_39 rfl).trans (ax_ite ?_ ?_)
          · refine (E_l2 (v := (-9000000000000000001 : Int64)) c_228_53 (by decide)).trans ?_
            exact E_rL c_228_56 mi_228
          · refine (E_al c_228_42 rfl (by decide)).trans ?_
            refine (E_il c_228_43 rfl).trans ?_
            refine (E_ic (v := (2 : Int32)) c_228_45 (by decide)).trans ?_
            refine (E_cIV c_228_46 mi_232 rfl rfl (sO_kl sh_82) (Nat.le_of_ble_eq_true rfl) (Nat.le_of_ble_eq_true rfl)).trans (ax_bnd fun u9 => ?_)
            refine (E_il c_228_49 rfl).trans ?_
            refine (E_br_le (q := 57) c_228_50 rfl).trans (ax_ite ?_ ?_)
            · refine (E_l2 (v := (-9000000000000000001 : Int64)) c_228_53 (by decide)).trans ?_
              exact E_rL c_228_56 mi_228
            · refine (E_al c_228_57 rfl (by decide)).trans ?_
              refine (E_gfi (k := 7) c_228_58 sh_82 rfl rfl rfl (by decide)).trans ?_
              refine (E_b0_ne (q := 68) c_228_61 rfl).trans (ax_ite ?_ ?_)
              · refine (E_l2 (v := (-9000000000000000002 : Int64)) c_228_64 (by decide)).trans ?_
                exact E_rL c_228_67 mi_228
              · refine (E_al c_228_68 rfl (by decide)).trans ?_
                refine (E_gfr (k := 8) (r := 88) c_228_69 sh_82 rfl rfl rfl).trans ?_
                refine (E_ic (v := (0 : Int32)) c_228_72 (by decide)).trans ?_
                refine (E_ialk (k := 0) c_228_73 sh_88 (by decide) (by decide)).trans ?_
                refine (E_ic (v := (12 : Int32)) c_228_74 (by decide)).trans ?_
                refine (E_br_ne (q := 83) c_228_76 rfl).trans (ax_ite ?_ ?_)
                · refine (E_l2 (v := (-9000000000000000003 : Int64)) c_228_79 (by decide)).trans ?_
                  exact E_rL c_228_82 mi_228
                · refine (E_al c_228_83 rfl (by decide)).trans ?_
                  refine (E_gfr (k := 2) (r := 83) c_228_84 sh_82 rfl rfl rfl).trans ?_
                  refine (E_il c_228_87 rfl).trans ?_
                  refine (E_ial c_228_88 sh_83).trans (ax_gd ?_)
                  refine (E_b0_ge (q := 98) c_228_89 rfl).trans (ax_ite ?_ ?_)
                  · refine (E_al c_228_92 rfl (by decide)).trans ?_
                    refine (E_ic (v := (1 : Int32)) c_228_93 (by decide)).trans ?_
                    refine (E_cLV c_228_94 mi_199 rfl (sO_kl sh_82) (Nat.le_of_ble_eq_true rfl) (Nat.le_of_ble_eq_true rfl)).trans (ax_bnd fun u10 => ?_)
                    exact E_rL c_228_97 mi_228
                  · refine (E_il c_228_98 rfl).trans ?_
                    refine (E_b0_lt (q := 121) c_228_100 rfl).trans (ax_ite ?_ ?_)
                    · refine (E_al c_228_121 rfl (by decide)).trans ?_
                      refine (E_ic (v := (2 : Int32)) c_228_122 (by decide)).trans ?_
                      refine (E_cLV c_228_123 mi_199 rfl (sO_kl sh_82) (Nat.le_of_ble_eq_true rfl) (Nat.le_of_ble_eq_true rfl)).trans (ax_bnd fun u11 => ?_)
                      exact E_rL c_228_126 mi_228
                    · refine (E_il c_228_103 rfl).trans ?_
                      refine (E_i2l c_228_105).trans ?_
                      refine (E_l2 (v := (11 : Int64)) c_228_106 (by decide)).trans ?_
                      refine (E_ladd c_228_109).trans ?_
                      refine (E_al c_228_110 rfl (by decide)).trans ?_
                      refine (E_gfr (k := 3) (r := 84) c_228_111 sh_82 rfl rfl rfl).trans ?_
                      refine (E_il c_228_114 rfl).trans ?_
                      refine (E_ial c_228_115 sh_84).trans (ax_gd ?_)
                      refine (E_i2l c_228_116).trans ?_
                      refine (E_lcmp c_228_117).trans ?_
                      refine (E_b0_le (q := 127) c_228_118 rfl).trans (ax_ite ?_ ?_)
                      · refine (E_al c_228_121 rfl (by decide)).trans ?_
                        refine (E_ic (v := (2 : Int32)) c_228_122 (by decide)).trans ?_
                        refine (E_cLV c_228_123 mi_199 rfl (sO_kl sh_82) (Nat.le_of_ble_eq_true rfl) (Nat.le_of_ble_eq_true rfl)).trans (ax_bnd fun u12 => ?_)
                        exact E_rL c_228_126 mi_228
                      · refine (E_al c_228_127 rfl (by decide)).trans ?_
                        refine (E_il c_228_128 rfl).trans ?_
                        refine (E_il c_228_129 rfl).trans ?_
                        refine (E_il c_228_130 rfl).trans ?_
                        refine (E_ic (v := (-1000000 : Int32)) c_228_132 (by decide)).trans ?_
                        refine (E_br_ne (q := 141) c_228_134 rfl).trans (ax_ite ?_ ?_)
                        · refine (E_ic (v := (-1 : Int32)) c_228_137 (by decide)).trans ?_
                          refine (E_goto (q := 143) c_228_138 rfl).trans ?_
                          refine (E_cVV c_228_143 mi_220 rfl (sO_kl sh_82) (Nat.le_of_ble_eq_true rfl) (Nat.le_of_ble_eq_true rfl)).trans (ax_bnd fun u13 => ?_)
                          refine (E_ic (v := (0 : Int32)) c_228_146 (by decide)).trans ?_
                          refine (E_is (L' := [.ref 82, .int x1, .int x2, .int x3, .int x4, .int x5, .int (0 : Int32), .null]) c_228_147 (Nat.le_of_ble_eq_true rfl) rfl).trans ?_
                          rfl
                        · refine (E_il c_228_141 rfl).trans ?_
                          refine (E_cVV c_228_143 mi_220 rfl (sO_kl sh_82) (Nat.le_of_ble_eq_true rfl) (Nat.le_of_ble_eq_true rfl)).trans (ax_bnd fun u14 => ?_)
                          refine (E_ic (v := (0 : Int32)) c_228_146 (by decide)).trans ?_
                          refine (E_is (L' := [.ref 82, .int x1, .int x2, .int x3, .int x4, .int x5, .int (0 : Int32), .null]) c_228_147 (Nat.le_of_ble_eq_true rfl) rfl).trans ?_
                          rfl
set_option maxHeartbeats 4000000 in
theorem u_228_82p149 (d : Nat) (σ : ax_S) (w1 : Value) (hw1 : w1.category = 1) (w2 : Value) (hw2 : w2.category = 1) (x3 : Int32) (x4 : Int32) (w5 : Value) (hw5 : w5.category = 1) (x6 : Int32) (w7 : Value) (hw7 : w7.category = 1) : ev sO (d + 2) 228 149 [.ref 82, w1, w2, .int x3, .int x4, w5, .int x6, w7] [] σ = if x6 < (11 : Int32) then (gd (0 ≤ ((((40 : Int32) * x3) + x4) + x6).toInt ∧ ((((40 : Int32) * x3) + x4) + x6).toInt < (320 : Nat)) (if x6 < (8 : Int32) then ((cI sO (d + 1) 198 [.long ((σ.1 85 ((((40 : Int32) * x3) + x4) + x6).toNatClampNeg).toInt64), .long (-1 : Int64), .long (9999 : Int64)] σ).bind fun u0 => if u0.1 = 0 then (some (some (.long (-9000000000000000001 : Int64)), u0.2)) else ((cV sO (d + 1) 225 [.ref 82, .int x6, .int (σ.1 85 ((((40 : Int32) * x3) + x4) + x6).toNatClampNeg)] u0.2).bind fun u1 => ev sO (d + 2) 228 149 [.ref 82, w1, w2, .int x3, .int x4, w5, .int (x6 + (1 : Int32)), .int (σ.1 85 ((((40 : Int32) * x3) + x4) + x6).toNatClampNeg)] [] u1)) else (if x6 = (8 : Int32) then ((cI sO (d + 1) 198 [.long ((σ.1 85 ((((40 : Int32) * x3) + x4) + x6).toNatClampNeg).toInt64), .long (-1 : Int64), .long (9 : Int64)] σ).bind fun u2 => if u2.1 = 0 then (some (some (.long (-9000000000000000001 : Int64)), u2.2)) else ((cV sO (d + 1) 225 [.ref 82, .int x6, .int (σ.1 85 ((((40 : Int32) * x3) + x4) + x6).toNatClampNeg)] u2.2).bind fun u3 => ev sO (d + 2) 228 149 [.ref 82, w1, w2, .int x3, .int x4, w5, .int (x6 + (1 : Int32)), .int (σ.1 85 ((((40 : Int32) * x3) + x4) + x6).toNatClampNeg)] [] u3)) else ((cI sO (d + 1) 198 [.long ((σ.1 85 ((((40 : Int32) * x3) + x4) + x6).toNatClampNeg).toInt64), .long (-1 : Int64), .long (99 : Int64)] σ).bind fun u4 => if u4.1 = 0 then (some (some (.long (-9000000000000000001 : Int64)), u4.2)) else ((cV sO (d + 1) 225 [.ref 82, .int x6, .int (σ.1 85 ((((40 : Int32) * x3) + x4) + x6).toNatClampNeg)] u4.2).bind fun u5 => ev sO (d + 2) 228 149 [.ref 82, w1, w2, .int x3, .int x4, w5, .int (x6 + (1 : Int32)), .int (σ.1 85 ((((40 : Int32) * x3) + x4) + x6).toNatClampNeg)] [] u5))))) else ((cI sO (d + 1) 226 [.ref 82] (sI σ 82 1 (0 : Int32))).bind fun u6 => some (some (.long u6.1.toInt64), u6.2)) := by
  refine (E_il c_228_149 rfl).trans ?_
  refine (E_ic (v := (11 : Int32)) c_228_151 (by decide)).trans ?_
  refine (E_br_ge (q := 232) c_228_153 rfl).trans (ax_ite ?_ ?_)
  · refine (E_al c_228_156 rfl (by decide)).trans ?_
    refine (E_gfr (k := 4) (r := 85) c_228_157 sh_82 rfl rfl rfl).trans ?_
    refine (E_ic (v := (40 : Int32)) c_228_160 (by decide)).trans ?_
    refine (E_il c_228_162 rfl).trans ?_
    refine (E_imul c_228_163).trans ?_
    refine (E_il c_228_164 rfl).trans ?_
    refine (E_iadd c_228_166).trans ?_
    refine (E_il c_228_167 rfl).trans ?_
    refine (E_iadd c_228_169).trans ?_
    refine (E_ial c_228_170 sh_85).trans (ax_gd ?_)
    refine (E_is (L' := [.ref 82, w1, w2, .int x3, .int x4, w5, .int x6, .int (σ.1 85 ((((40 : Int32) * x3) + x4) + x6).toNatClampNeg)]) c_228_171 (Nat.le_of_ble_eq_true rfl) rfl).trans ?_
    refine (E_il c_228_173 rfl).trans ?_
    refine (E_i2l c_228_175).trans ?_
    refine (E_l2 (v := (-1 : Int64)) c_228_176 (by decide)).trans ?_
    refine (E_il c_228_179 rfl).trans ?_
    refine (E_ic (v := (8 : Int32)) c_228_181 (by decide)).trans ?_
    refine (E_br_ge (q := 192) c_228_183 rfl).trans (ax_ite ?_ ?_)
    · refine (E_l2 (v := (9999 : Int64)) c_228_186 (by decide)).trans ?_
      refine (E_goto (q := 208) c_228_189 rfl).trans ?_
      refine (E_cIS c_228_208 mi_198 rfl rfl (Nat.le_of_ble_eq_true rfl) (Nat.le_of_ble_eq_true rfl)).trans (ax_bnd fun u0 => ?_)
      refine (E_b0_ne (q := 218) c_228_211 rfl).trans (ax_ite ?_ ?_)
      · refine (E_l2 (v := (-9000000000000000001 : Int64)) c_228_214 (by decide)).trans ?_
        exact E_rL c_228_217 mi_228
      · refine (E_al c_228_218 rfl (by decide)).trans ?_
        refine (E_il c_228_219 rfl).trans ?_
        refine (E_il c_228_221 rfl).trans ?_
        refine (E_cVV c_228_223 mi_225 rfl (sO_kl sh_82) (Nat.le_of_ble_eq_true rfl) (Nat.le_of_ble_eq_true rfl)).trans (ax_bnd fun u1 => ?_)
        refine (E_inc (v := (1 : Int32)) (L' := [.ref 82, w1, w2, .int x3, .int x4, w5, .int (x6 + (1 : Int32)), .int (σ.1 85 ((((40 : Int32) * x3) + x4) + x6).toNatClampNeg)]) c_228_226 rfl (by decide) (by simp [ax_st1, ax_drp, hw5])).trans ?_
        refine (E_goto (q := 149) c_228_229 rfl).trans ?_
        rfl
    · refine (E_il c_228_192 rfl).trans ?_
      refine (E_ic (v := (8 : Int32)) c_228_194 (by decide)).trans ?_
      refine (E_br_ne (q := 205) c_228_196 rfl).trans (ax_ite ?_ ?_)
      · refine (E_l2 (v := (9 : Int64)) c_228_199 (by decide)).trans ?_
        refine (E_goto (q := 208) c_228_202 rfl).trans ?_
        refine (E_cIS c_228_208 mi_198 rfl rfl (Nat.le_of_ble_eq_true rfl) (Nat.le_of_ble_eq_true rfl)).trans (ax_bnd fun u2 => ?_)
        refine (E_b0_ne (q := 218) c_228_211 rfl).trans (ax_ite ?_ ?_)
        · refine (E_l2 (v := (-9000000000000000001 : Int64)) c_228_214 (by decide)).trans ?_
          exact E_rL c_228_217 mi_228
        · refine (E_al c_228_218 rfl (by decide)).trans ?_
          refine (E_il c_228_219 rfl).trans ?_
          refine (E_il c_228_221 rfl).trans ?_
          refine (E_cVV c_228_223 mi_225 rfl (sO_kl sh_82) (Nat.le_of_ble_eq_true rfl) (Nat.le_of_ble_eq_true rfl)).trans (ax_bnd fun u3 => ?_)
          refine (E_inc (v := (1 : Int32)) (L' := [.ref 82, w1, w2, .int x3, .int x4, w5, .int (x6 + (1 : Int32)), .int (σ.1 85 ((((40 : Int32) * x3) + x4) + x6).toNatClampNeg)]) c_228_226 rfl (by decide) (by simp [ax_st1, ax_drp, hw5])).trans ?_
          refine (E_goto (q := 149) c_228_229 rfl).trans ?_
          rfl
      · refine (E_l2 (v := (99 : Int64)) c_228_205 (by decide)).trans ?_
        refine (E_cIS c_228_208 mi_198 rfl rfl (Nat.le_of_ble_eq_true rfl) (Nat.le_of_ble_eq_true rfl)).trans (ax_bnd fun u4 => ?_)
        refine (E_b0_ne (q := 218) c_228_211 rfl).trans (ax_ite ?_ ?_)
        · refine (E_l2 (v := (-9000000000000000001 : Int64)) c_228_214 (by decide)).trans ?_
          exact E_rL c_228_217 mi_228
        · refine (E_al c_228_218 rfl (by decide)).trans ?_
          refine (E_il c_228_219 rfl).trans ?_
          refine (E_il c_228_221 rfl).trans ?_
          refine (E_cVV c_228_223 mi_225 rfl (sO_kl sh_82) (Nat.le_of_ble_eq_true rfl) (Nat.le_of_ble_eq_true rfl)).trans (ax_bnd fun u5 => ?_)
          refine (E_inc (v := (1 : Int32)) (L' := [.ref 82, w1, w2, .int x3, .int x4, w5, .int (x6 + (1 : Int32)), .int (σ.1 85 ((((40 : Int32) * x3) + x4) + x6).toNatClampNeg)]) c_228_226 rfl (by decide) (by simp [ax_st1, ax_drp, hw5])).trans ?_
          refine (E_goto (q := 149) c_228_229 rfl).trans ?_
          rfl
  · refine (E_al c_228_232 rfl (by decide)).trans ?_
    refine (E_ic (v := (0 : Int32)) c_228_233 (by decide)).trans ?_
    refine (E_pfi (k := 1) c_228_234 sh_82 rfl rfl rfl).trans ?_
    refine (E_al c_228_237 rfl (by decide)).trans ?_
    refine (E_cIV c_228_238 mi_226 rfl rfl (sO_kl sh_82) (Nat.le_of_ble_eq_true rfl) (Nat.le_of_ble_eq_true rfl)).trans (ax_bnd fun u6 => ?_)
    refine (E_i2l c_228_241).trans ?_
    exact E_rL c_228_242 mi_228
set_option maxHeartbeats 4000000 in
theorem u_95_0 (d : Nat) (σ : ax_S) (x1 : Int32) (x2 : Int32) (x3 : Int32) (x4 : Int32) (x5 : Int32) (x6 : Int32) : ev sO (d + 3) 95 0 [.ref 0, .int x1, .int x2, .int x3, .int x4, .int x5, .int x6] [] σ = (cI sO (d + 2) 84 [.ref 17, .int x1] σ).bind fun u0 => if u0.1 = 0 then (some (some (.long (-9000000000000000001 : Int64)), u0.2)) else ((cI sO (d + 2) 88 [.int x2] u0.2).bind fun u1 => if u1.1 = 0 then (some (some (.long (-9000000000000000001 : Int64)), u1.2)) else ((cI sO (d + 2) 89 [.int x3] u1.2).bind fun u2 => if u2.1 = 0 then (some (some (.long (-9000000000000000001 : Int64)), u2.2)) else ((cI sO (d + 2) 91 [.ref 17, .int x1] u2.2).bind fun u3 => if x3 < u3.1 then (some (some (.long (-9000000000000000001 : Int64)), u3.2)) else (if x4 < 0 then (some (some (.long (-9000000000000000001 : Int64)), u3.2)) else (if (6 : Int32) < x4 then (some (some (.long (-9000000000000000001 : Int64)), u3.2)) else ((cI sO (d + 2) 74 [.int x5] u3.2).bind fun u4 => if u4.1 = 0 then (some (some (.long (-9000000000000000001 : Int64)), u4.2)) else ((cI sO (d + 2) 74 [.int x6] u4.2).bind fun u5 => if u5.1 = 0 then (some (some (.long (-9000000000000000001 : Int64)), u5.2)) else (if x4 = (4 : Int32) then (if x5 = x6 then (some (some (.long (-9000000000000000001 : Int64)), u5.2)) else ((cV sO (d + 2) 70 [.ref 61, .int x2, .int x3] u5.2).bind fun u6 => (cV sO (d + 2) 96 [.ref 61, .ref 17, .int x1] u6).bind fun u7 => (cI sO (d + 2) 98 [.ref 61, .int x4, .int x5, .int x6] u7).bind fun u8 => if u8.1 = 0 then (some (some (.long (-9000000000000000002 : Int64)), u8.2)) else ((cI sO (d + 2) 68 [.ref 17] u8.2).bind fun u9 => if u9.1 = 0 then ((cI sO (d + 2) 78 [.ref 17, .ref 61, .int x1] u9.2).bind fun u10 => some (some (.long u10.1.toInt64), u10.2)) else (some (some (.long (-9000000000000000003 : Int64)), u9.2))))) else ((cV sO (d + 2) 70 [.ref 61, .int x2, .int x3] u5.2).bind fun u11 => (cV sO (d + 2) 96 [.ref 61, .ref 17, .int x1] u11).bind fun u12 => (cI sO (d + 2) 98 [.ref 61, .int x4, .int x5, .int x6] u12).bind fun u13 => if u13.1 = 0 then (some (some (.long (-9000000000000000002 : Int64)), u13.2)) else ((cI sO (d + 2) 68 [.ref 17] u13.2).bind fun u14 => if u14.1 = 0 then ((cI sO (d + 2) 78 [.ref 17, .ref 61, .int x1] u14.2).bind fun u15 => some (some (.long u15.1.toInt64), u15.2)) else (some (some (.long (-9000000000000000003 : Int64)), u14.2)))))))))))) := by
  refine (E_al c_95_0 rfl (by decide)).trans ?_
  refine (E_gfr (k := 2) (r := 7) c_95_1 sh_0 rfl rfl rfl).trans ?_
  refine (E_gfr (k := 1) (r := 17) c_95_4 sh_7 rfl rfl rfl).trans ?_
  refine (E_il c_95_7 rfl).trans ?_
  refine (E_cIV c_95_8 mi_84 rfl rfl (sO_kl sh_17) (Nat.le_of_ble_eq_true rfl) (Nat.le_of_ble_eq_true rfl)).trans (ax_bnd fun u0 => ?_)
  refine (E_b0_eq (q := 43) c_95_11 rfl).trans (ax_ite ?_ ?_)
  · refine (E_l2 (v := (-9000000000000000001 : Int64)) c_95_43 (by decide)).trans ?_
    exact E_rL c_95_46 mi_95
  · refine (E_il c_95_14 rfl).trans ?_
    refine (E_cIS c_95_15 mi_88 rfl rfl (Nat.le_of_ble_eq_true rfl) (Nat.le_of_ble_eq_true rfl)).trans (ax_bnd fun u1 => ?_)
    refine (E_b0_eq (q := 43) c_95_18 rfl).trans (ax_ite ?_ ?_)
    · refine (E_l2 (v := (-9000000000000000001 : Int64)) c_95_43 (by decide)).trans ?_
      exact E_rL c_95_46 mi_95
    · refine (E_il c_95_21 rfl).trans ?_
      refine (E_cIS c_95_22 mi_89 rfl rfl (Nat.le_of_ble_eq_true rfl) (Nat.le_of_ble_eq_true rfl)).trans (ax_bnd fun u2 => ?_)
      refine (E_b0_eq (q := 43) c_95_25 rfl).trans (ax_ite ?_ ?_)
      · refine (E_l2 (v := (-9000000000000000001 : Int64)) c_95_43 (by decide)).trans ?_
        exact E_rL c_95_46 mi_95
      · refine (E_il c_95_28 rfl).trans ?_
        refine (E_al c_95_29 rfl (by decide)).trans ?_
        refine (E_gfr (k := 2) (r := 7) c_95_30 sh_0 rfl rfl rfl).trans ?_
        refine (E_gfr (k := 1) (r := 17) c_95_33 sh_7 rfl rfl rfl).trans ?_
        refine (E_il c_95_36 rfl).trans ?_
        refine (E_cIV c_95_37 mi_91 rfl rfl (sO_kl sh_17) (Nat.le_of_ble_eq_true rfl) (Nat.le_of_ble_eq_true rfl)).trans (ax_bnd fun u3 => ?_)
        refine (E_br_ge (q := 47) c_95_40 rfl).trans (ax_ite ?_ ?_)
        · refine (E_l2 (v := (-9000000000000000001 : Int64)) c_95_43 (by decide)).trans ?_
          exact E_rL c_95_46 mi_95
        · refine (E_il c_95_47 rfl).trans ?_
          refine (E_b0_lt (q := 88) c_95_49 rfl).trans (ax_ite ?_ ?_)
          · refine (E_l2 (v := (-9000000000000000001 : Int64)) c_95_88 (by decide)).trans ?_
            exact E_rL c_95_91 mi_95
          · refine (E_il c_95_52 rfl).trans ?_
            refine (E_ic (v := (6 : Int32)) c_95_54 (by decide)).trans ?_
            refine (E_br_gt (q := 88) c_95_56 rfl).trans (ax_ite ?_ ?_)
            · refine (E_l2 (v := (-9000000000000000001 : Int64)) c_95_88 (by decide)).trans ?_
              exact E_rL c_95_91 mi_95
            · refine (E_il c_95_59 rfl).trans ?_
              refine (E_cIS c_95_61 mi_74 rfl rfl (Nat.le_of_ble_eq_true rfl) (Nat.le_of_ble_eq_true rfl)).trans (ax_bnd fun u4 => ?_)
              refine (E_b0_eq (q := 88) c_95_64 rfl).trans (ax_ite ?_ ?_)
              · refine (E_l2 (v := (-9000000000000000001 : Int64)) c_95_88 (by decide)).trans ?_
                exact E_rL c_95_91 mi_95
              · refine (E_il c_95_67 rfl).trans ?_
                refine (E_cIS c_95_69 mi_74 rfl rfl (Nat.le_of_ble_eq_true rfl) (Nat.le_of_ble_eq_true rfl)).trans (ax_bnd fun u5 => ?_)
                refine (E_b0_eq (q := 88) c_95_72 rfl).trans (ax_ite ?_ ?_)
                · refine (E_l2 (v := (-9000000000000000001 : Int64)) c_95_88 (by decide)).trans ?_
                  exact E_rL c_95_91 mi_95
                · refine (E_il c_95_75 rfl).trans ?_
                  refine (E_ic (v := (4 : Int32)) c_95_77 (by decide)).trans ?_
                  refine (E_br_ne (q := 92) c_95_78 rfl).trans (ax_ite ?_ ?_)
                  · refine (E_il c_95_81 rfl).trans ?_
                    refine (E_il c_95_83 rfl).trans ?_
                    refine (E_br_ne (q := 92) c_95_85 rfl).trans (ax_ite ?_ ?_)
                    · refine (E_l2 (v := (-9000000000000000001 : Int64)) c_95_88 (by decide)).trans ?_
                      exact E_rL c_95_91 mi_95
                    · refine (E_al c_95_92 rfl (by decide)).trans ?_
                      refine (E_gfr (k := 6) (r := 61) c_95_93 sh_0 rfl rfl rfl).trans ?_
                      refine (E_il c_95_96 rfl).trans ?_
                      refine (E_il c_95_97 rfl).trans ?_
                      refine (E_cVV c_95_98 mi_70 rfl (sO_kl sh_61) (Nat.le_of_ble_eq_true rfl) (Nat.le_of_ble_eq_true rfl)).trans (ax_bnd fun u6 => ?_)
                      refine (E_al c_95_101 rfl (by decide)).trans ?_
                      refine (E_gfr (k := 6) (r := 61) c_95_102 sh_0 rfl rfl rfl).trans ?_
                      refine (E_al c_95_105 rfl (by decide)).trans ?_
                      refine (E_gfr (k := 2) (r := 7) c_95_106 sh_0 rfl rfl rfl).trans ?_
                      refine (E_gfr (k := 1) (r := 17) c_95_109 sh_7 rfl rfl rfl).trans ?_
                      refine (E_il c_95_112 rfl).trans ?_
                      refine (E_cVV c_95_113 mi_96 rfl (sO_kl sh_61) (Nat.le_of_ble_eq_true rfl) (Nat.le_of_ble_eq_true rfl)).trans (ax_bnd fun u7 => ?_)
                      refine (E_al c_95_116 rfl (by decide)).trans ?_
                      refine (E_gfr (k := 6) (r := 61) c_95_117 sh_0 rfl rfl rfl).trans ?_
                      refine (E_il c_95_120 rfl).trans ?_
                      refine (E_il c_95_122 rfl).trans ?_
                      refine (E_il c_95_124 rfl).trans ?_
                      refine (E_cIV c_95_126 mi_98 rfl rfl (sO_kl sh_61) (Nat.le_of_ble_eq_true rfl) (Nat.le_of_ble_eq_true rfl)).trans (ax_bnd fun u8 => ?_)
                      refine (E_b0_ne (q := 136) c_95_129 rfl).trans (ax_ite ?_ ?_)
                      · refine (E_l2 (v := (-9000000000000000002 : Int64)) c_95_132 (by decide)).trans ?_
                        exact E_rL c_95_135 mi_95
                      · refine (E_al c_95_136 rfl (by decide)).trans ?_
                        refine (E_gfr (k := 2) (r := 7) c_95_137 sh_0 rfl rfl rfl).trans ?_
                        refine (E_gfr (k := 1) (r := 17) c_95_140 sh_7 rfl rfl rfl).trans ?_
                        refine (E_cIV c_95_143 mi_68 rfl rfl (sO_kl sh_17) (Nat.le_of_ble_eq_true rfl) (Nat.le_of_ble_eq_true rfl)).trans (ax_bnd fun u9 => ?_)
                        refine (E_b0_eq (q := 153) c_95_146 rfl).trans (ax_ite ?_ ?_)
                        · refine (E_al c_95_153 rfl (by decide)).trans ?_
                          refine (E_gfr (k := 2) (r := 7) c_95_154 sh_0 rfl rfl rfl).trans ?_
                          refine (E_gfr (k := 1) (r := 17) c_95_157 sh_7 rfl rfl rfl).trans ?_
                          refine (E_al c_95_160 rfl (by decide)).trans ?_
                          refine (E_gfr (k := 6) (r := 61) c_95_161 sh_0 rfl rfl rfl).trans ?_
                          refine (E_il c_95_164 rfl).trans ?_
                          refine (E_cIV c_95_165 mi_78 rfl rfl (sO_kl sh_17) (Nat.le_of_ble_eq_true rfl) (Nat.le_of_ble_eq_true rfl)).trans (ax_bnd fun u10 => ?_)
                          refine (E_i2l c_95_168).trans ?_
                          exact E_rL c_95_169 mi_95
                        · refine (E_l2 (v := (-9000000000000000003 : Int64)) c_95_149 (by decide)).trans ?_
                          exact E_rL c_95_152 mi_95
                  · refine (E_al c_95_92 rfl (by decide)).trans ?_
                    refine (E_gfr (k := 6) (r := 61) c_95_93 sh_0 rfl rfl rfl).trans ?_
                    refine (E_il c_95_96 rfl).trans ?_
                    refine (E_il c_95_97 rfl).trans ?_
                    refine (E_cVV c_95_98 mi_70 rfl (sO_kl sh_61) (Nat.le_of_ble_eq_true rfl) (Nat.le_of_ble_eq_true rfl)).trans (ax_bnd fun u11 => ?_)
                    refine (E_al c_95_101 rfl (by decide)).trans ?_
                    refine (E_gfr (k := 6) (r := 61) c_95_102 sh_0 rfl rfl rfl).trans ?_
                    refine (E_al c_95_105 rfl (by decide)).trans ?_
                    refine (E_gfr (k := 2) (r := 7) c_95_106 sh_0 rfl rfl rfl).trans ?_
                    refine (E_gfr (k := 1) (r := 17) c_95_109 sh_7 rfl rfl rfl).trans ?_
                    refine (E_il c_95_112 rfl).trans ?_
                    refine (E_cVV c_95_113 mi_96 rfl (sO_kl sh_61) (Nat.le_of_ble_eq_true rfl) (Nat.le_of_ble_eq_true rfl)).trans (ax_bnd fun u12 => ?_)
                    refine (E_al c_95_116 rfl (by decide)).trans ?_
                    refine (E_gfr (k := 6) (r := 61) c_95_117 sh_0 rfl rfl rfl).trans ?_
                    refine (E_il c_95_120 rfl).trans ?_
                    refine (E_il c_95_122 rfl).trans ?_
                    refine (E_il c_95_124 rfl).trans ?_
                    refine (E_cIV c_95_126 mi_98 rfl rfl (sO_kl sh_61) (Nat.le_of_ble_eq_true rfl) (Nat.le_of_ble_eq_true rfl)).trans (ax_bnd fun u13 => ?_)
                    refine (E_b0_ne (q := 136) c_95_129 rfl).trans (ax_ite ?_ ?_)
                    · refine (E_l2 (v := (-9000000000000000002 : Int64)) c_95_132 (by decide)).trans ?_
                      exact E_rL c_95_135 mi_95
                    · refine (E_al c_95_136 rfl (by decide)).trans ?_
                      refine (E_gfr (k := 2) (r := 7) c_95_137 sh_0 rfl rfl rfl).trans ?_
                      refine (E_gfr (k := 1) (r := 17) c_95_140 sh_7 rfl rfl rfl).trans ?_
                      refine (E_cIV c_95_143 mi_68 rfl rfl (sO_kl sh_17) (Nat.le_of_ble_eq_true rfl) (Nat.le_of_ble_eq_true rfl)).trans (ax_bnd fun u14 => ?_)
                      refine (E_b0_eq (q := 153) c_95_146 rfl).trans (ax_ite ?_ ?_)
                      · refine (E_al c_95_153 rfl (by decide)).trans ?_
                        refine (E_gfr (k := 2) (r := 7) c_95_154 sh_0 rfl rfl rfl).trans ?_
                        refine (E_gfr (k := 1) (r := 17) c_95_157 sh_7 rfl rfl rfl).trans ?_
                        refine (E_al c_95_160 rfl (by decide)).trans ?_
                        refine (E_gfr (k := 6) (r := 61) c_95_161 sh_0 rfl rfl rfl).trans ?_
                        refine (E_il c_95_164 rfl).trans ?_
                        refine (E_cIV c_95_165 mi_78 rfl rfl (sO_kl sh_17) (Nat.le_of_ble_eq_true rfl) (Nat.le_of_ble_eq_true rfl)).trans (ax_bnd fun u15 => ?_)
                        refine (E_i2l c_95_168).trans ?_
                        exact E_rL c_95_169 mi_95
                      · refine (E_l2 (v := (-9000000000000000003 : Int64)) c_95_149 (by decide)).trans ?_
                        exact E_rL c_95_152 mi_95
set_option maxHeartbeats 4000000 in
theorem u_233_82 (d : Nat) (σ : ax_S) (x1 : Int32) (x2 : Int32) (x3 : Int32) (x4 : Int32) (x5 : Int32) (x6 : Int32) : ev sO (d + 2) 233 0 [.ref 82, .int x1, .int x2, .int x3, .int x4, .int x5, .int x6, .null] [] σ = (cI sO (d + 1) 231 [.ref 82, .int x1] (sI σ 82 0 (0 : Int32))).bind fun u0 => if u0.1 = 0 then (some (some (.long (-9000000000000000001 : Int64)), u0.2)) else ((cI sO (d + 1) 229 [.int x2] u0.2).bind fun u1 => if u1.1 = 0 then (some (some (.long (-9000000000000000001 : Int64)), u1.2)) else ((cI sO (d + 1) 230 [.int x3] u1.2).bind fun u2 => if u2.1 = 0 then (some (some (.long (-9000000000000000001 : Int64)), u2.2)) else ((cI sO (d + 1) 232 [.ref 82, .int x1, .int (2 : Int32)] u2.2).bind fun u3 => if x3 < u3.1 then (some (some (.long (-9000000000000000001 : Int64)), u3.2)) else ((cI sO (d + 1) 198 [.long x4.toInt64, .long (0 : Int64), .long (6 : Int64)] u3.2).bind fun u4 => if u4.1 = 0 then (some (some (.long (-9000000000000000001 : Int64)), u4.2)) else ((cI sO (d + 1) 198 [.long x5.toInt64, .long (0 : Int64), .long (7 : Int64)] u4.2).bind fun u5 => if u5.1 = 0 then (some (some (.long (-9000000000000000001 : Int64)), u5.2)) else ((cI sO (d + 1) 198 [.long x6.toInt64, .long (0 : Int64), .long (7 : Int64)] u5.2).bind fun u6 => if u6.1 = 0 then (some (some (.long (-9000000000000000001 : Int64)), u6.2)) else (if x4 = (4 : Int32) then (if x5 = x6 then (some (some (.long (-9000000000000000001 : Int64)), u6.2)) else ((cV sO (d + 1) 220 [.ref 82, .int x2, .int x3, .int x1] u6.2).bind fun u7 => ev sO (d + 2) 233 103 [.ref 82, .int x1, .int x2, .int x3, .int x4, .int x5, .int x6, .int (0 : Int32)] [] u7)) else ((cV sO (d + 1) 220 [.ref 82, .int x2, .int x3, .int x1] u6.2).bind fun u8 => ev sO (d + 2) 233 103 [.ref 82, .int x1, .int x2, .int x3, .int x4, .int x5, .int x6, .int (0 : Int32)] [] u8)))))))) := by
  refine (E_al c_233_0 rfl (by decide)).trans ?_
  refine (E_ic (v := (0 : Int32)) c_233_1 (by decide)).trans ?_
  refine (E_pfi (k := 0) c_233_2 sh_82 rfl rfl rfl).trans ?_
  refine (E_al c_233_5 rfl (by decide)).trans ?_
  refine (E_il c_233_6 rfl).trans ?_
  refine (E_cIV c_233_7 mi_231 rfl rfl (sO_kl sh_82) (Nat.le_of_ble_eq_true rfl) (Nat.le_of_ble_eq_true rfl)).trans (ax_bnd fun u0 => ?_)
  refine (E_b0_eq (q := 89) c_233_10 rfl).trans (ax_ite ?_ ?_)
  · refine (E_l2 (v := (-9000000000000000001 : Int64)) c_233_89 (by decide)).trans ?_
    exact E_rL c_233_92 mi_233
  · refine (E_il c_233_13 rfl).trans ?_
    refine (E_cIS c_233_14 mi_229 rfl rfl (Nat.le_of_ble_eq_true rfl) (Nat.le_of_ble_eq_true rfl)).trans (ax_bnd fun u1 => ?_)
    refine (E_b0_eq (q := 89) c_233_17 rfl).trans (ax_ite ?_ ?_)
    · refine (E_l2 (v := (-9000000000000000001 : Int64)) c_233_89 (by decide)).trans ?_
      exact E_rL c_233_92 mi_233
    · refine (E_il c_233_20 rfl).trans ?_
      refine (E_cIS c_233_21 mi_230 rfl rfl (Nat.le_of_ble_eq_true rfl) (Nat.le_of_ble_eq_true rfl)).trans (ax_bnd fun u2 => ?_)
      refine (E_b0_eq (q := 89) c_233_24 rfl).trans (ax_ite ?_ ?_)
      · refine (E_l2 (v := (-9000000000000000001 : Int64)) c_233_89 (by decide)).trans ?_
        exact E_rL c_233_92 mi_233
      · refine (E_il c_233_27 rfl).trans ?_
        refine (E_al c_233_28 rfl (by decide)).trans ?_
        refine (E_il c_233_29 rfl).trans ?_
        refine (E_ic (v := (2 : Int32)) c_233_30 (by decide)).trans ?_
        refine (E_cIV c_233_31 mi_232 rfl rfl (sO_kl sh_82) (Nat.le_of_ble_eq_true rfl) (Nat.le_of_ble_eq_true rfl)).trans (ax_bnd fun u3 => ?_)
        refine (E_br_lt (q := 89) c_233_34 rfl).trans (ax_ite ?_ ?_)
        · refine (E_l2 (v := (-9000000000000000001 : Int64)) c_233_89 (by decide)).trans ?_
          exact E_rL c_233_92 mi_233
        · refine (E_il c_233_37 rfl).trans ?_
          refine (E_i2l c_233_39).trans ?_
          refine (E_lc (v := (0 : Int64)) c_233_40 (by decide)).trans ?_
          refine (E_l2 (v := (6 : Int64)) c_233_41 (by decide)).trans ?_
          refine (E_cIS c_233_44 mi_198 rfl rfl (Nat.le_of_ble_eq_true rfl) (Nat.le_of_ble_eq_true rfl)).trans (ax_bnd fun u4 => ?_)
          refine (E_b0_eq (q := 89) c_233_47 rfl).trans (ax_ite ?_ ?_)
          · refine (E_l2 (v := (-9000000000000000001 : Int64)) c_233_89 (by decide)).trans ?_
            exact E_rL c_233_92 mi_233
          · refine (E_il c_233_50 rfl).trans ?_
            refine (E_i2l c_233_52).trans ?_
            refine (E_lc (v := (0 : Int64)) c_233_53 (by decide)).trans ?_
            refine (E_l2 (v := (7 : Int64)) c_233_54 (by decide)).trans ?_
            refine (E_cIS c_233_57 mi_198 rfl rfl (Nat.le_of_ble_eq_true rfl) (Nat.le_of_ble_eq_true rfl)).trans (ax_bnd fun u5 => ?_)
            refine (E_b0_eq (q := 89) c_233_60 rfl).trans (ax_ite ?_ ?_)
            · refine (E_l2 (v := (-9000000000000000001 : Int64)) c_233_89 (by decide)).trans ?_
              exact E_rL c_233_92 mi_233
            · refine (E_il c_233_63 rfl).trans ?_
              refine (E_i2l c_233_65).trans ?_
              refine (E_lc (v := (0 : Int64)) c_233_66 (by decide)).trans ?_
              refine (E_l2 (v := (7 : Int64)) c_233_67 (by decide)).trans ?_
              refine (E_cIS c_233_70 mi_198 rfl rfl (Nat.le_of_ble_eq_true rfl) (Nat.le_of_ble_eq_true rfl)).trans (ax_bnd fun u6 => ?_)
              refine (E_b0_eq (q := 89) c_233_73 rfl).trans (ax_ite ?_ ?_)
              · refine (E_l2 (v := (-9000000000000000001 : Int64)) c_233_89 (by decide)).trans ?_
                exact E_rL c_233_92 mi_233
              · refine (E_il c_233_76 rfl).trans ?_
                refine (E_ic (v := (4 : Int32)) c_233_78 (by decide)).trans ?_
                refine (E_br_ne (q := 93) c_233_79 rfl).trans (ax_ite ?_ ?_)
                · refine (E_il c_233_82 rfl).trans ?_
                  refine (E_il c_233_84 rfl).trans ?_
                  refine (E_br_ne (q := 93) c_233_86 rfl).trans (ax_ite ?_ ?_)
                  · refine (E_l2 (v := (-9000000000000000001 : Int64)) c_233_89 (by decide)).trans ?_
                    exact E_rL c_233_92 mi_233
                  · refine (E_al c_233_93 rfl (by decide)).trans ?_
                    refine (E_il c_233_94 rfl).trans ?_
                    refine (E_il c_233_95 rfl).trans ?_
                    refine (E_il c_233_96 rfl).trans ?_
                    refine (E_cVV c_233_97 mi_220 rfl (sO_kl sh_82) (Nat.le_of_ble_eq_true rfl) (Nat.le_of_ble_eq_true rfl)).trans (ax_bnd fun u7 => ?_)
                    refine (E_ic (v := (0 : Int32)) c_233_100 (by decide)).trans ?_
                    refine (E_is (L' := [.ref 82, .int x1, .int x2, .int x3, .int x4, .int x5, .int x6, .int (0 : Int32)]) c_233_101 (Nat.le_of_ble_eq_true rfl) rfl).trans ?_
                    rfl
                · refine (E_al c_233_93 rfl (by decide)).trans ?_
                  refine (E_il c_233_94 rfl).trans ?_
                  refine (E_il c_233_95 rfl).trans ?_
                  refine (E_il c_233_96 rfl).trans ?_
                  refine (E_cVV c_233_97 mi_220 rfl (sO_kl sh_82) (Nat.le_of_ble_eq_true rfl) (Nat.le_of_ble_eq_true rfl)).trans (ax_bnd fun u8 => ?_)
                  refine (E_ic (v := (0 : Int32)) c_233_100 (by decide)).trans ?_
                  refine (E_is (L' := [.ref 82, .int x1, .int x2, .int x3, .int x4, .int x5, .int x6, .int (0 : Int32)]) c_233_101 (Nat.le_of_ble_eq_true rfl) rfl).trans ?_
                  rfl
set_option maxHeartbeats 4000000 in
theorem u_233_82p103 (d : Nat) (σ : ax_S) (x1 : Int32) (w2 : Value) (hw2 : w2.category = 1) (w3 : Value) (hw3 : w3.category = 1) (x4 : Int32) (x5 : Int32) (x6 : Int32) (x7 : Int32) : ev sO (d + 2) 233 103 [.ref 82, .int x1, w2, w3, .int x4, .int x5, .int x6, .int x7] [] σ = if x7 < (11 : Int32) then ((cI sO (d + 1) 234 [.ref 82, .int x1, .int x7] σ).bind fun u0 => if u0.1 = 0 then ((cV sO (d + 1) 225 [.ref 82, .int x7, .int (-1 : Int32)] u0.2).bind fun u1 => ev sO (d + 2) 233 103 [.ref 82, .int x1, w2, w3, .int x4, .int x5, .int x6, .int (x7 + (1 : Int32))] [] u1) else ((cI sO (d + 1) 235 [.ref 82, .int x1, .int x7] u0.2).bind fun u2 => (cV sO (d + 1) 225 [.ref 82, .int x7, .int u2.1] u2.2).bind fun u3 => ev sO (d + 2) 233 103 [.ref 82, .int x1, w2, w3, .int x4, .int x5, .int x6, .int (x7 + (1 : Int32))] [] u3)) else (if x4 = (1 : Int32) then (gd (0 ≤ ((4 : Int32) + x5).toInt ∧ ((4 : Int32) + x5).toInt < (15 : Nat)) (gd (0 ≤ ((4 : Int32) + x5).toInt ∧ ((4 : Int32) + x5).toInt < (15 : Nat)) (if (9999 : Int32) < ((sI (sI σ 90 ((4 : Int32) + x5).toNatClampNeg (0 : Int32)) 90 3 (((sI σ 90 ((4 : Int32) + x5).toNatClampNeg (0 : Int32)).1 90 3) &&& (((1 : Int32) <<< (x5 &&& 31)) ^^^ (-1 : Int32)))).1 90 ((4 : Int32) + x5).toNatClampNeg) then (some (some (.long (-9000000000000000002 : Int64)), (sI (sI σ 90 ((4 : Int32) + x5).toNatClampNeg (0 : Int32)) 90 3 (((sI σ 90 ((4 : Int32) + x5).toNatClampNeg (0 : Int32)).1 90 3) &&& (((1 : Int32) <<< (x5 &&& 31)) ^^^ (-1 : Int32)))))) else (gd (0 ≤ ((4 : Int32) + x6).toInt ∧ ((4 : Int32) + x6).toInt < (15 : Nat)) (if (9999 : Int32) < ((sI (sI σ 90 ((4 : Int32) + x5).toNatClampNeg (0 : Int32)) 90 3 (((sI σ 90 ((4 : Int32) + x5).toNatClampNeg (0 : Int32)).1 90 3) &&& (((1 : Int32) <<< (x5 &&& 31)) ^^^ (-1 : Int32)))).1 90 ((4 : Int32) + x6).toNatClampNeg) then (some (some (.long (-9000000000000000002 : Int64)), (sI (sI σ 90 ((4 : Int32) + x5).toNatClampNeg (0 : Int32)) 90 3 (((sI σ 90 ((4 : Int32) + x5).toNatClampNeg (0 : Int32)).1 90 3) &&& (((1 : Int32) <<< (x5 &&& 31)) ^^^ (-1 : Int32)))))) else (if ((sI (sI σ 90 ((4 : Int32) + x5).toNatClampNeg (0 : Int32)) 90 3 (((sI σ 90 ((4 : Int32) + x5).toNatClampNeg (0 : Int32)).1 90 3) &&& (((1 : Int32) <<< (x5 &&& 31)) ^^^ (-1 : Int32)))).1 88 0) = (12 : Int32) then (some (some (.long (-9000000000000000003 : Int64)), (sI (sI σ 90 ((4 : Int32) + x5).toNatClampNeg (0 : Int32)) 90 3 (((sI σ 90 ((4 : Int32) + x5).toNatClampNeg (0 : Int32)).1 90 3) &&& (((1 : Int32) <<< (x5 &&& 31)) ^^^ (-1 : Int32)))))) else ((cI sO (d + 1) 226 [.ref 82] (sI (sI σ 90 ((4 : Int32) + x5).toNatClampNeg (0 : Int32)) 90 3 (((sI σ 90 ((4 : Int32) + x5).toNatClampNeg (0 : Int32)).1 90 3) &&& (((1 : Int32) <<< (x5 &&& 31)) ^^^ (-1 : Int32))))).bind fun u4 => some (some (.long u4.1.toInt64), u4.2)))))))) else (if x4 = (2 : Int32) then (gd (0 ≤ ((4 : Int32) + x5).toInt ∧ ((4 : Int32) + x5).toInt < (15 : Nat)) (gd (0 ≤ ((4 : Int32) + x5).toInt ∧ ((4 : Int32) + x5).toInt < (15 : Nat)) (gd (0 ≤ ((4 : Int32) + x5).toInt ∧ ((4 : Int32) + x5).toInt < (15 : Nat)) (if (9999 : Int32) < ((sI σ 90 ((4 : Int32) + x5).toNatClampNeg ((σ.1 90 ((4 : Int32) + x5).toNatClampNeg) * (2 : Int32))).1 90 ((4 : Int32) + x5).toNatClampNeg) then (some (some (.long (-9000000000000000002 : Int64)), (sI σ 90 ((4 : Int32) + x5).toNatClampNeg ((σ.1 90 ((4 : Int32) + x5).toNatClampNeg) * (2 : Int32))))) else (gd (0 ≤ ((4 : Int32) + x6).toInt ∧ ((4 : Int32) + x6).toInt < (15 : Nat)) (if (9999 : Int32) < ((sI σ 90 ((4 : Int32) + x5).toNatClampNeg ((σ.1 90 ((4 : Int32) + x5).toNatClampNeg) * (2 : Int32))).1 90 ((4 : Int32) + x6).toNatClampNeg) then (some (some (.long (-9000000000000000002 : Int64)), (sI σ 90 ((4 : Int32) + x5).toNatClampNeg ((σ.1 90 ((4 : Int32) + x5).toNatClampNeg) * (2 : Int32))))) else (if ((sI σ 90 ((4 : Int32) + x5).toNatClampNeg ((σ.1 90 ((4 : Int32) + x5).toNatClampNeg) * (2 : Int32))).1 88 0) = (12 : Int32) then (some (some (.long (-9000000000000000003 : Int64)), (sI σ 90 ((4 : Int32) + x5).toNatClampNeg ((σ.1 90 ((4 : Int32) + x5).toNatClampNeg) * (2 : Int32))))) else ((cI sO (d + 1) 226 [.ref 82] (sI σ 90 ((4 : Int32) + x5).toNatClampNeg ((σ.1 90 ((4 : Int32) + x5).toNatClampNeg) * (2 : Int32)))).bind fun u5 => some (some (.long u5.1.toInt64), u5.2))))))))) else (if x4 = (3 : Int32) then (gd (0 ≤ ((4 : Int32) + x5).toInt ∧ ((4 : Int32) + x5).toInt < (15 : Nat)) (gd (0 ≤ ((4 : Int32) + x5).toInt ∧ ((4 : Int32) + x5).toInt < (15 : Nat)) (gd (0 ≤ ((4 : Int32) + x5).toInt ∧ ((4 : Int32) + x5).toInt < (15 : Nat)) (if (9999 : Int32) < ((sI σ 90 ((4 : Int32) + x5).toNatClampNeg ((σ.1 90 ((4 : Int32) + x5).toNatClampNeg) / (2 : Int32))).1 90 ((4 : Int32) + x5).toNatClampNeg) then (some (some (.long (-9000000000000000002 : Int64)), (sI σ 90 ((4 : Int32) + x5).toNatClampNeg ((σ.1 90 ((4 : Int32) + x5).toNatClampNeg) / (2 : Int32))))) else (gd (0 ≤ ((4 : Int32) + x6).toInt ∧ ((4 : Int32) + x6).toInt < (15 : Nat)) (if (9999 : Int32) < ((sI σ 90 ((4 : Int32) + x5).toNatClampNeg ((σ.1 90 ((4 : Int32) + x5).toNatClampNeg) / (2 : Int32))).1 90 ((4 : Int32) + x6).toNatClampNeg) then (some (some (.long (-9000000000000000002 : Int64)), (sI σ 90 ((4 : Int32) + x5).toNatClampNeg ((σ.1 90 ((4 : Int32) + x5).toNatClampNeg) / (2 : Int32))))) else (if ((sI σ 90 ((4 : Int32) + x5).toNatClampNeg ((σ.1 90 ((4 : Int32) + x5).toNatClampNeg) / (2 : Int32))).1 88 0) = (12 : Int32) then (some (some (.long (-9000000000000000003 : Int64)), (sI σ 90 ((4 : Int32) + x5).toNatClampNeg ((σ.1 90 ((4 : Int32) + x5).toNatClampNeg) / (2 : Int32))))) else ((cI sO (d + 1) 226 [.ref 82] (sI σ 90 ((4 : Int32) + x5).toNatClampNeg ((σ.1 90 ((4 : Int32) + x5).toNatClampNeg) / (2 : Int32)))).bind fun u6 => some (some (.long u6.1.toInt64), u6.2))))))))) else (if x4 = (4 : Int32) then (gd (0 ≤ ((4 : Int32) + x6).toInt ∧ ((4 : Int32) + x6).toInt < (15 : Nat)) (gd (0 ≤ ((4 : Int32) + x5).toInt ∧ ((4 : Int32) + x5).toInt < (15 : Nat)) (gd (0 ≤ ((4 : Int32) + x6).toInt ∧ ((4 : Int32) + x6).toInt < (15 : Nat)) (gd (0 ≤ ((4 : Int32) + x5).toInt ∧ ((4 : Int32) + x5).toInt < (15 : Nat)) (if ((((sI (sI (sI (sI σ 90 ((4 : Int32) + x6).toNatClampNeg ((σ.1 90 ((4 : Int32) + x6).toNatClampNeg) + (σ.1 90 ((4 : Int32) + x5).toNatClampNeg))) 90 ((4 : Int32) + x5).toNatClampNeg (0 : Int32)) 90 3 (((sI (sI σ 90 ((4 : Int32) + x6).toNatClampNeg ((σ.1 90 ((4 : Int32) + x6).toNatClampNeg) + (σ.1 90 ((4 : Int32) + x5).toNatClampNeg))) 90 ((4 : Int32) + x5).toNatClampNeg (0 : Int32)).1 90 3) ||| (((((sI (sI σ 90 ((4 : Int32) + x6).toNatClampNeg ((σ.1 90 ((4 : Int32) + x6).toNatClampNeg) + (σ.1 90 ((4 : Int32) + x5).toNatClampNeg))) 90 ((4 : Int32) + x5).toNatClampNeg (0 : Int32)).1 90 3) >>> (x5 &&& 31)) &&& (1 : Int32)) <<< (x6 &&& 31)))) 90 3 (((sI (sI (sI σ 90 ((4 : Int32) + x6).toNatClampNeg ((σ.1 90 ((4 : Int32) + x6).toNatClampNeg) + (σ.1 90 ((4 : Int32) + x5).toNatClampNeg))) 90 ((4 : Int32) + x5).toNatClampNeg (0 : Int32)) 90 3 (((sI (sI σ 90 ((4 : Int32) + x6).toNatClampNeg ((σ.1 90 ((4 : Int32) + x6).toNatClampNeg) + (σ.1 90 ((4 : Int32) + x5).toNatClampNeg))) 90 ((4 : Int32) + x5).toNatClampNeg (0 : Int32)).1 90 3) ||| (((((sI (sI σ 90 ((4 : Int32) + x6).toNatClampNeg ((σ.1 90 ((4 : Int32) + x6).toNatClampNeg) + (σ.1 90 ((4 : Int32) + x5).toNatClampNeg))) 90 ((4 : Int32) + x5).toNatClampNeg (0 : Int32)).1 90 3) >>> (x5 &&& 31)) &&& (1 : Int32)) <<< (x6 &&& 31)))).1 90 3) &&& (((1 : Int32) <<< (x5 &&& 31)) ^^^ (-1 : Int32)))).1 90 3) >>> (x6 &&& 31)) &&& (1 : Int32)) = (1 : Int32) then (gd (0 ≤ ((4 : Int32) + x6).toInt ∧ ((4 : Int32) + x6).toInt < (15 : Nat)) (gd (0 ≤ ((4 : Int32) + x5).toInt ∧ ((4 : Int32) + x5).toInt < (15 : Nat)) (if (9999 : Int32) < ((sI (sI (sI (sI (sI σ 90 ((4 : Int32) + x6).toNatClampNeg ((σ.1 90 ((4 : Int32) + x6).toNatClampNeg) + (σ.1 90 ((4 : Int32) + x5).toNatClampNeg))) 90 ((4 : Int32) + x5).toNatClampNeg (0 : Int32)) 90 3 (((sI (sI σ 90 ((4 : Int32) + x6).toNatClampNeg ((σ.1 90 ((4 : Int32) + x6).toNatClampNeg) + (σ.1 90 ((4 : Int32) + x5).toNatClampNeg))) 90 ((4 : Int32) + x5).toNatClampNeg (0 : Int32)).1 90 3) ||| (((((sI (sI σ 90 ((4 : Int32) + x6).toNatClampNeg ((σ.1 90 ((4 : Int32) + x6).toNatClampNeg) + (σ.1 90 ((4 : Int32) + x5).toNatClampNeg))) 90 ((4 : Int32) + x5).toNatClampNeg (0 : Int32)).1 90 3) >>> (x5 &&& 31)) &&& (1 : Int32)) <<< (x6 &&& 31)))) 90 3 (((sI (sI (sI σ 90 ((4 : Int32) + x6).toNatClampNeg ((σ.1 90 ((4 : Int32) + x6).toNatClampNeg) + (σ.1 90 ((4 : Int32) + x5).toNatClampNeg))) 90 ((4 : Int32) + x5).toNatClampNeg (0 : Int32)) 90 3 (((sI (sI σ 90 ((4 : Int32) + x6).toNatClampNeg ((σ.1 90 ((4 : Int32) + x6).toNatClampNeg) + (σ.1 90 ((4 : Int32) + x5).toNatClampNeg))) 90 ((4 : Int32) + x5).toNatClampNeg (0 : Int32)).1 90 3) ||| (((((sI (sI σ 90 ((4 : Int32) + x6).toNatClampNeg ((σ.1 90 ((4 : Int32) + x6).toNatClampNeg) + (σ.1 90 ((4 : Int32) + x5).toNatClampNeg))) 90 ((4 : Int32) + x5).toNatClampNeg (0 : Int32)).1 90 3) >>> (x5 &&& 31)) &&& (1 : Int32)) <<< (x6 &&& 31)))).1 90 3) &&& (((1 : Int32) <<< (x5 &&& 31)) ^^^ (-1 : Int32)))) 90 ((4 : Int32) + x6).toNatClampNeg (0 : Int32)).1 90 ((4 : Int32) + x5).toNatClampNeg) then (some (some (.long (-9000000000000000002 : Int64)), (sI (sI (sI (sI (sI σ 90 ((4 : Int32) + x6).toNatClampNeg ((σ.1 90 ((4 : Int32) + x6).toNatClampNeg) + (σ.1 90 ((4 : Int32) + x5).toNatClampNeg))) 90 ((4 : Int32) + x5).toNatClampNeg (0 : Int32)) 90 3 (((sI (sI σ 90 ((4 : Int32) + x6).toNatClampNeg ((σ.1 90 ((4 : Int32) + x6).toNatClampNeg) + (σ.1 90 ((4 : Int32) + x5).toNatClampNeg))) 90 ((4 : Int32) + x5).toNatClampNeg (0 : Int32)).1 90 3) ||| (((((sI (sI σ 90 ((4 : Int32) + x6).toNatClampNeg ((σ.1 90 ((4 : Int32) + x6).toNatClampNeg) + (σ.1 90 ((4 : Int32) + x5).toNatClampNeg))) 90 ((4 : Int32) + x5).toNatClampNeg (0 : Int32)).1 90 3) >>> (x5 &&& 31)) &&& (1 : Int32)) <<< (x6 &&& 31)))) 90 3 (((sI (sI (sI σ 90 ((4 : Int32) + x6).toNatClampNeg ((σ.1 90 ((4 : Int32) + x6).toNatClampNeg) + (σ.1 90 ((4 : Int32) + x5).toNatClampNeg))) 90 ((4 : Int32) + x5).toNatClampNeg (0 : Int32)) 90 3 (((sI (sI σ 90 ((4 : Int32) + x6).toNatClampNeg ((σ.1 90 ((4 : Int32) + x6).toNatClampNeg) + (σ.1 90 ((4 : Int32) + x5).toNatClampNeg))) 90 ((4 : Int32) + x5).toNatClampNeg (0 : Int32)).1 90 3) ||| (((((sI (sI σ 90 ((4 : Int32) + x6).toNatClampNeg ((σ.1 90 ((4 : Int32) + x6).toNatClampNeg) + (σ.1 90 ((4 : Int32) + x5).toNatClampNeg))) 90 ((4 : Int32) + x5).toNatClampNeg (0 : Int32)).1 90 3) >>> (x5 &&& 31)) &&& (1 : Int32)) <<< (x6 &&& 31)))).1 90 3) &&& (((1 : Int32) <<< (x5 &&& 31)) ^^^ (-1 : Int32)))) 90 ((4 : Int32) + x6).toNatClampNeg (0 : Int32)))) else (gd (0 ≤ ((4 : Int32) + x6).toInt ∧ ((4 : Int32) + x6).toInt < (15 : Nat)) (if (9999 : Int32) < ((sI (sI (sI (sI (sI σ 90 ((4 : Int32) + x6).toNatClampNeg ((σ.1 90 ((4 : Int32) + x6).toNatClampNeg) + (σ.1 90 ((4 : Int32) + x5).toNatClampNeg))) 90 ((4 : Int32) + x5).toNatClampNeg (0 : Int32)) 90 3 (((sI (sI σ 90 ((4 : Int32) + x6).toNatClampNeg ((σ.1 90 ((4 : Int32) + x6).toNatClampNeg) + (σ.1 90 ((4 : Int32) + x5).toNatClampNeg))) 90 ((4 : Int32) + x5).toNatClampNeg (0 : Int32)).1 90 3) ||| (((((sI (sI σ 90 ((4 : Int32) + x6).toNatClampNeg ((σ.1 90 ((4 : Int32) + x6).toNatClampNeg) + (σ.1 90 ((4 : Int32) + x5).toNatClampNeg))) 90 ((4 : Int32) + x5).toNatClampNeg (0 : Int32)).1 90 3) >>> (x5 &&& 31)) &&& (1 : Int32)) <<< (x6 &&& 31)))) 90 3 (((sI (sI (sI σ 90 ((4 : Int32) + x6).toNatClampNeg ((σ.1 90 ((4 : Int32) + x6).toNatClampNeg) + (σ.1 90 ((4 : Int32) + x5).toNatClampNeg))) 90 ((4 : Int32) + x5).toNatClampNeg (0 : Int32)) 90 3 (((sI (sI σ 90 ((4 : Int32) + x6).toNatClampNeg ((σ.1 90 ((4 : Int32) + x6).toNatClampNeg) + (σ.1 90 ((4 : Int32) + x5).toNatClampNeg))) 90 ((4 : Int32) + x5).toNatClampNeg (0 : Int32)).1 90 3) ||| (((((sI (sI σ 90 ((4 : Int32) + x6).toNatClampNeg ((σ.1 90 ((4 : Int32) + x6).toNatClampNeg) + (σ.1 90 ((4 : Int32) + x5).toNatClampNeg))) 90 ((4 : Int32) + x5).toNatClampNeg (0 : Int32)).1 90 3) >>> (x5 &&& 31)) &&& (1 : Int32)) <<< (x6 &&& 31)))).1 90 3) &&& (((1 : Int32) <<< (x5 &&& 31)) ^^^ (-1 : Int32)))) 90 ((4 : Int32) + x6).toNatClampNeg (0 : Int32)).1 90 ((4 : Int32) + x6).toNatClampNeg) then (some (some (.long (-9000000000000000002 : Int64)), (sI (sI (sI (sI (sI σ 90 ((4 : Int32) + x6).toNatClampNeg ((σ.1 90 ((4 : Int32) + x6).toNatClampNeg) + (σ.1 90 ((4 : Int32) + x5).toNatClampNeg))) 90 ((4 : Int32) + x5).toNatClampNeg (0 : Int32)) 90 3 (((sI (sI σ 90 ((4 : Int32) + x6).toNatClampNeg ((σ.1 90 ((4 : Int32) + x6).toNatClampNeg) + (σ.1 90 ((4 : Int32) + x5).toNatClampNeg))) 90 ((4 : Int32) + x5).toNatClampNeg (0 : Int32)).1 90 3) ||| (((((sI (sI σ 90 ((4 : Int32) + x6).toNatClampNeg ((σ.1 90 ((4 : Int32) + x6).toNatClampNeg) + (σ.1 90 ((4 : Int32) + x5).toNatClampNeg))) 90 ((4 : Int32) + x5).toNatClampNeg (0 : Int32)).1 90 3) >>> (x5 &&& 31)) &&& (1 : Int32)) <<< (x6 &&& 31)))) 90 3 (((sI (sI (sI σ 90 ((4 : Int32) + x6).toNatClampNeg ((σ.1 90 ((4 : Int32) + x6).toNatClampNeg) + (σ.1 90 ((4 : Int32) + x5).toNatClampNeg))) 90 ((4 : Int32) + x5).toNatClampNeg (0 : Int32)) 90 3 (((sI (sI σ 90 ((4 : Int32) + x6).toNatClampNeg ((σ.1 90 ((4 : Int32) + x6).toNatClampNeg) + (σ.1 90 ((4 : Int32) + x5).toNatClampNeg))) 90 ((4 : Int32) + x5).toNatClampNeg (0 : Int32)).1 90 3) ||| (((((sI (sI σ 90 ((4 : Int32) + x6).toNatClampNeg ((σ.1 90 ((4 : Int32) + x6).toNatClampNeg) + (σ.1 90 ((4 : Int32) + x5).toNatClampNeg))) 90 ((4 : Int32) + x5).toNatClampNeg (0 : Int32)).1 90 3) >>> (x5 &&& 31)) &&& (1 : Int32)) <<< (x6 &&& 31)))).1 90 3) &&& (((1 : Int32) <<< (x5 &&& 31)) ^^^ (-1 : Int32)))) 90 ((4 : Int32) + x6).toNatClampNeg (0 : Int32)))) else (if ((sI (sI (sI (sI (sI σ 90 ((4 : Int32) + x6).toNatClampNeg ((σ.1 90 ((4 : Int32) + x6).toNatClampNeg) + (σ.1 90 ((4 : Int32) + x5).toNatClampNeg))) 90 ((4 : Int32) + x5).toNatClampNeg (0 : Int32)) 90 3 (((sI (sI σ 90 ((4 : Int32) + x6).toNatClampNeg ((σ.1 90 ((4 : Int32) + x6).toNatClampNeg) + (σ.1 90 ((4 : Int32) + x5).toNatClampNeg))) 90 ((4 : Int32) + x5).toNatClampNeg (0 : Int32)).1 90 3) ||| (((((sI (sI σ 90 ((4 : Int32) + x6).toNatClampNeg ((σ.1 90 ((4 : Int32) + x6).toNatClampNeg) + (σ.1 90 ((4 : Int32) + x5).toNatClampNeg))) 90 ((4 : Int32) + x5).toNatClampNeg (0 : Int32)).1 90 3) >>> (x5 &&& 31)) &&& (1 : Int32)) <<< (x6 &&& 31)))) 90 3 (((sI (sI (sI σ 90 ((4 : Int32) + x6).toNatClampNeg ((σ.1 90 ((4 : Int32) + x6).toNatClampNeg) + (σ.1 90 ((4 : Int32) + x5).toNatClampNeg))) 90 ((4 : Int32) + x5).toNatClampNeg (0 : Int32)) 90 3 (((sI (sI σ 90 ((4 : Int32) + x6).toNatClampNeg ((σ.1 90 ((4 : Int32) + x6).toNatClampNeg) + (σ.1 90 ((4 : Int32) + x5).toNatClampNeg))) 90 ((4 : Int32) + x5).toNatClampNeg (0 : Int32)).1 90 3) ||| (((((sI (sI σ 90 ((4 : Int32) + x6).toNatClampNeg ((σ.1 90 ((4 : Int32) + x6).toNatClampNeg) + (σ.1 90 ((4 : Int32) + x5).toNatClampNeg))) 90 ((4 : Int32) + x5).toNatClampNeg (0 : Int32)).1 90 3) >>> (x5 &&& 31)) &&& (1 : Int32)) <<< (x6 &&& 31)))).1 90 3) &&& (((1 : Int32) <<< (x5 &&& 31)) ^^^ (-1 : Int32)))) 90 ((4 : Int32) + x6).toNatClampNeg (0 : Int32)).1 88 0) = (12 : Int32) then (some (some (.long (-9000000000000000003 : Int64)), (sI (sI (sI (sI (sI σ 90 ((4 : Int32) + x6).toNatClampNeg ((σ.1 90 ((4 : Int32) + x6).toNatClampNeg) + (σ.1 90 ((4 : Int32) + x5).toNatClampNeg))) 90 ((4 : Int32) + x5).toNatClampNeg (0 : Int32)) 90 3 (((sI (sI σ 90 ((4 : Int32) + x6).toNatClampNeg ((σ.1 90 ((4 : Int32) + x6).toNatClampNeg) + (σ.1 90 ((4 : Int32) + x5).toNatClampNeg))) 90 ((4 : Int32) + x5).toNatClampNeg (0 : Int32)).1 90 3) ||| (((((sI (sI σ 90 ((4 : Int32) + x6).toNatClampNeg ((σ.1 90 ((4 : Int32) + x6).toNatClampNeg) + (σ.1 90 ((4 : Int32) + x5).toNatClampNeg))) 90 ((4 : Int32) + x5).toNatClampNeg (0 : Int32)).1 90 3) >>> (x5 &&& 31)) &&& (1 : Int32)) <<< (x6 &&& 31)))) 90 3 (((sI (sI (sI σ 90 ((4 : Int32) + x6).toNatClampNeg ((σ.1 90 ((4 : Int32) + x6).toNatClampNeg) + (σ.1 90 ((4 : Int32) + x5).toNatClampNeg))) 90 ((4 : Int32) + x5).toNatClampNeg (0 : Int32)) 90 3 (((sI (sI σ 90 ((4 : Int32) + x6).toNatClampNeg ((σ.1 90 ((4 : Int32) + x6).toNatClampNeg) + (σ.1 90 ((4 : Int32) + x5).toNatClampNeg))) 90 ((4 : Int32) + x5).toNatClampNeg (0 : Int32)).1 90 3) ||| (((((sI (sI σ 90 ((4 : Int32) + x6).toNatClampNeg ((σ.1 90 ((4 : Int32) + x6).toNatClampNeg) + (σ.1 90 ((4 : Int32) + x5).toNatClampNeg))) 90 ((4 : Int32) + x5).toNatClampNeg (0 : Int32)).1 90 3) >>> (x5 &&& 31)) &&& (1 : Int32)) <<< (x6 &&& 31)))).1 90 3) &&& (((1 : Int32) <<< (x5 &&& 31)) ^^^ (-1 : Int32)))) 90 ((4 : Int32) + x6).toNatClampNeg (0 : Int32)))) else ((cI sO (d + 1) 226 [.ref 82] (sI (sI (sI (sI (sI σ 90 ((4 : Int32) + x6).toNatClampNeg ((σ.1 90 ((4 : Int32) + x6).toNatClampNeg) + (σ.1 90 ((4 : Int32) + x5).toNatClampNeg))) 90 ((4 : Int32) + x5).toNatClampNeg (0 : Int32)) 90 3 (((sI (sI σ 90 ((4 : Int32) + x6).toNatClampNeg ((σ.1 90 ((4 : Int32) + x6).toNatClampNeg) + (σ.1 90 ((4 : Int32) + x5).toNatClampNeg))) 90 ((4 : Int32) + x5).toNatClampNeg (0 : Int32)).1 90 3) ||| (((((sI (sI σ 90 ((4 : Int32) + x6).toNatClampNeg ((σ.1 90 ((4 : Int32) + x6).toNatClampNeg) + (σ.1 90 ((4 : Int32) + x5).toNatClampNeg))) 90 ((4 : Int32) + x5).toNatClampNeg (0 : Int32)).1 90 3) >>> (x5 &&& 31)) &&& (1 : Int32)) <<< (x6 &&& 31)))) 90 3 (((sI (sI (sI σ 90 ((4 : Int32) + x6).toNatClampNeg ((σ.1 90 ((4 : Int32) + x6).toNatClampNeg) + (σ.1 90 ((4 : Int32) + x5).toNatClampNeg))) 90 ((4 : Int32) + x5).toNatClampNeg (0 : Int32)) 90 3 (((sI (sI σ 90 ((4 : Int32) + x6).toNatClampNeg ((σ.1 90 ((4 : Int32) + x6).toNatClampNeg) + (σ.1 90 ((4 : Int32) + x5).toNatClampNeg))) 90 ((4 : Int32) + x5).toNatClampNeg (0 : Int32)).1 90 3) ||| (((((sI (sI σ 90 ((4 : Int32) + x6).toNatClampNeg ((σ.1 90 ((4 : Int32) + x6).toNatClampNeg) + (σ.1 90 ((4 : Int32) + x5).toNatClampNeg))) 90 ((4 : Int32) + x5).toNatClampNeg (0 : Int32)).1 90 3) >>> (x5 &&& 31)) &&& (1 : Int32)) <<< (x6 &&& 31)))).1 90 3) &&& (((1 : Int32) <<< (x5 &&& 31)) ^^^ (-1 : Int32)))) 90 ((4 : Int32) + x6).toNatClampNeg (0 : Int32))).bind fun u7 => some (some (.long u7.1.toInt64), u7.2)))))))) else (gd (0 ≤ ((4 : Int32) + x6).toInt ∧ ((4 : Int32) + x6).toInt < (15 : Nat)) (gd (0 ≤ ((4 : Int32) + x6).toInt ∧ ((4 : Int32) + x6).toInt < (15 : Nat)) (gd (0 ≤ ((4 : Int32) + x5).toInt ∧ ((4 : Int32) + x5).toInt < (15 : Nat)) (if (9999 : Int32) < ((sI (sI (sI (sI (sI σ 90 ((4 : Int32) + x6).toNatClampNeg ((σ.1 90 ((4 : Int32) + x6).toNatClampNeg) + (σ.1 90 ((4 : Int32) + x5).toNatClampNeg))) 90 ((4 : Int32) + x5).toNatClampNeg (0 : Int32)) 90 3 (((sI (sI σ 90 ((4 : Int32) + x6).toNatClampNeg ((σ.1 90 ((4 : Int32) + x6).toNatClampNeg) + (σ.1 90 ((4 : Int32) + x5).toNatClampNeg))) 90 ((4 : Int32) + x5).toNatClampNeg (0 : Int32)).1 90 3) ||| (((((sI (sI σ 90 ((4 : Int32) + x6).toNatClampNeg ((σ.1 90 ((4 : Int32) + x6).toNatClampNeg) + (σ.1 90 ((4 : Int32) + x5).toNatClampNeg))) 90 ((4 : Int32) + x5).toNatClampNeg (0 : Int32)).1 90 3) >>> (x5 &&& 31)) &&& (1 : Int32)) <<< (x6 &&& 31)))) 90 3 (((sI (sI (sI σ 90 ((4 : Int32) + x6).toNatClampNeg ((σ.1 90 ((4 : Int32) + x6).toNatClampNeg) + (σ.1 90 ((4 : Int32) + x5).toNatClampNeg))) 90 ((4 : Int32) + x5).toNatClampNeg (0 : Int32)) 90 3 (((sI (sI σ 90 ((4 : Int32) + x6).toNatClampNeg ((σ.1 90 ((4 : Int32) + x6).toNatClampNeg) + (σ.1 90 ((4 : Int32) + x5).toNatClampNeg))) 90 ((4 : Int32) + x5).toNatClampNeg (0 : Int32)).1 90 3) ||| (((((sI (sI σ 90 ((4 : Int32) + x6).toNatClampNeg ((σ.1 90 ((4 : Int32) + x6).toNatClampNeg) + (σ.1 90 ((4 : Int32) + x5).toNatClampNeg))) 90 ((4 : Int32) + x5).toNatClampNeg (0 : Int32)).1 90 3) >>> (x5 &&& 31)) &&& (1 : Int32)) <<< (x6 &&& 31)))).1 90 3) &&& (((1 : Int32) <<< (x5 &&& 31)) ^^^ (-1 : Int32)))) 90 ((4 : Int32) + x6).toNatClampNeg ((sI (sI (sI (sI σ 90 ((4 : Int32) + x6).toNatClampNeg ((σ.1 90 ((4 : Int32) + x6).toNatClampNeg) + (σ.1 90 ((4 : Int32) + x5).toNatClampNeg))) 90 ((4 : Int32) + x5).toNatClampNeg (0 : Int32)) 90 3 (((sI (sI σ 90 ((4 : Int32) + x6).toNatClampNeg ((σ.1 90 ((4 : Int32) + x6).toNatClampNeg) + (σ.1 90 ((4 : Int32) + x5).toNatClampNeg))) 90 ((4 : Int32) + x5).toNatClampNeg (0 : Int32)).1 90 3) ||| (((((sI (sI σ 90 ((4 : Int32) + x6).toNatClampNeg ((σ.1 90 ((4 : Int32) + x6).toNatClampNeg) + (σ.1 90 ((4 : Int32) + x5).toNatClampNeg))) 90 ((4 : Int32) + x5).toNatClampNeg (0 : Int32)).1 90 3) >>> (x5 &&& 31)) &&& (1 : Int32)) <<< (x6 &&& 31)))) 90 3 (((sI (sI (sI σ 90 ((4 : Int32) + x6).toNatClampNeg ((σ.1 90 ((4 : Int32) + x6).toNatClampNeg) + (σ.1 90 ((4 : Int32) + x5).toNatClampNeg))) 90 ((4 : Int32) + x5).toNatClampNeg (0 : Int32)) 90 3 (((sI (sI σ 90 ((4 : Int32) + x6).toNatClampNeg ((σ.1 90 ((4 : Int32) + x6).toNatClampNeg) + (σ.1 90 ((4 : Int32) + x5).toNatClampNeg))) 90 ((4 : Int32) + x5).toNatClampNeg (0 : Int32)).1 90 3) ||| (((((sI (sI σ 90 ((4 : Int32) + x6).toNatClampNeg ((σ.1 90 ((4 : Int32) + x6).toNatClampNeg) + (σ.1 90 ((4 : Int32) + x5).toNatClampNeg))) 90 ((4 : Int32) + x5).toNatClampNeg (0 : Int32)).1 90 3) >>> (x5 &&& 31)) &&& (1 : Int32)) <<< (x6 &&& 31)))).1 90 3) &&& (((1 : Int32) <<< (x5 &&& 31)) ^^^ (-1 : Int32)))).1 90 ((4 : Int32) + x6).toNatClampNeg)).1 90 ((4 : Int32) + x5).toNatClampNeg) then (some (some (.long (-9000000000000000002 : Int64)), (sI (sI (sI (sI (sI σ 90 ((4 : Int32) + x6).toNatClampNeg ((σ.1 90 ((4 : Int32) + x6).toNatClampNeg) + (σ.1 90 ((4 : Int32) + x5).toNatClampNeg))) 90 ((4 : Int32) + x5).toNatClampNeg (0 : Int32)) 90 3 (((sI (sI σ 90 ((4 : Int32) + x6).toNatClampNeg ((σ.1 90 ((4 : Int32) + x6).toNatClampNeg) + (σ.1 90 ((4 : Int32) + x5).toNatClampNeg))) 90 ((4 : Int32) + x5).toNatClampNeg (0 : Int32)).1 90 3) ||| (((((sI (sI σ 90 ((4 : Int32) + x6).toNatClampNeg ((σ.1 90 ((4 : Int32) + x6).toNatClampNeg) + (σ.1 90 ((4 : Int32) + x5).toNatClampNeg))) 90 ((4 : Int32) + x5).toNatClampNeg (0 : Int32)).1 90 3) >>> (x5 &&& 31)) &&& (1 : Int32)) <<< (x6 &&& 31)))) 90 3 (((sI (sI (sI σ 90 ((4 : Int32) + x6).toNatClampNeg ((σ.1 90 ((4 : Int32) + x6).toNatClampNeg) + (σ.1 90 ((4 : Int32) + x5).toNatClampNeg))) 90 ((4 : Int32) + x5).toNatClampNeg (0 : Int32)) 90 3 (((sI (sI σ 90 ((4 : Int32) + x6).toNatClampNeg ((σ.1 90 ((4 : Int32) + x6).toNatClampNeg) + (σ.1 90 ((4 : Int32) + x5).toNatClampNeg))) 90 ((4 : Int32) + x5).toNatClampNeg (0 : Int32)).1 90 3) ||| (((((sI (sI σ 90 ((4 : Int32) + x6).toNatClampNeg ((σ.1 90 ((4 : Int32) + x6).toNatClampNeg) + (σ.1 90 ((4 : Int32) + x5).toNatClampNeg))) 90 ((4 : Int32) + x5).toNatClampNeg (0 : Int32)).1 90 3) >>> (x5 &&& 31)) &&& (1 : Int32)) <<< (x6 &&& 31)))).1 90 3) &&& (((1 : Int32) <<< (x5 &&& 31)) ^^^ (-1 : Int32)))) 90 ((4 : Int32) + x6).toNatClampNeg ((sI (sI (sI (sI σ 90 ((4 : Int32) + x6).toNatClampNeg ((σ.1 90 ((4 : Int32) + x6).toNatClampNeg) + (σ.1 90 ((4 : Int32) + x5).toNatClampNeg))) 90 ((4 : Int32) + x5).toNatClampNeg (0 : Int32)) 90 3 (((sI (sI σ 90 ((4 : Int32) + x6).toNatClampNeg ((σ.1 90 ((4 : Int32) + x6).toNatClampNeg) + (σ.1 90 ((4 : Int32) + x5).toNatClampNeg))) 90 ((4 : Int32) + x5).toNatClampNeg (0 : Int32)).1 90 3) ||| (((((sI (sI σ 90 ((4 : Int32) + x6).toNatClampNeg ((σ.1 90 ((4 : Int32) + x6).toNatClampNeg) + (σ.1 90 ((4 : Int32) + x5).toNatClampNeg))) 90 ((4 : Int32) + x5).toNatClampNeg (0 : Int32)).1 90 3) >>> (x5 &&& 31)) &&& (1 : Int32)) <<< (x6 &&& 31)))) 90 3 (((sI (sI (sI σ 90 ((4 : Int32) + x6).toNatClampNeg ((σ.1 90 ((4 : Int32) + x6).toNatClampNeg) + (σ.1 90 ((4 : Int32) + x5).toNatClampNeg))) 90 ((4 : Int32) + x5).toNatClampNeg (0 : Int32)) 90 3 (((sI (sI σ 90 ((4 : Int32) + x6).toNatClampNeg ((σ.1 90 ((4 : Int32) + x6).toNatClampNeg) + (σ.1 90 ((4 : Int32) + x5).toNatClampNeg))) 90 ((4 : Int32) + x5).toNatClampNeg (0 : Int32)).1 90 3) ||| (((((sI (sI σ 90 ((4 : Int32) + x6).toNatClampNeg ((σ.1 90 ((4 : Int32) + x6).toNatClampNeg) + (σ.1 90 ((4 : Int32) + x5).toNatClampNeg))) 90 ((4 : Int32) + x5).toNatClampNeg (0 : Int32)).1 90 3) >>> (x5 &&& 31)) &&& (1 : Int32)) <<< (x6 &&& 31)))).1 90 3) &&& (((1 : Int32) <<< (x5 &&& 31)) ^^^ (-1 : Int32)))).1 90 ((4 : Int32) + x6).toNatClampNeg)))) else (gd (0 ≤ ((4 : Int32) + x6).toInt ∧ ((4 : Int32) + x6).toInt < (15 : Nat)) (if (9999 : Int32) < ((sI (sI (sI (sI (sI σ 90 ((4 : Int32) + x6).toNatClampNeg ((σ.1 90 ((4 : Int32) + x6).toNatClampNeg) + (σ.1 90 ((4 : Int32) + x5).toNatClampNeg))) 90 ((4 : Int32) + x5).toNatClampNeg (0 : Int32)) 90 3 (((sI (sI σ 90 ((4 : Int32) + x6).toNatClampNeg ((σ.1 90 ((4 : Int32) + x6).toNatClampNeg) + (σ.1 90 ((4 : Int32) + x5).toNatClampNeg))) 90 ((4 : Int32) + x5).toNatClampNeg (0 : Int32)).1 90 3) ||| (((((sI (sI σ 90 ((4 : Int32) + x6).toNatClampNeg ((σ.1 90 ((4 : Int32) + x6).toNatClampNeg) + (σ.1 90 ((4 : Int32) + x5).toNatClampNeg))) 90 ((4 : Int32) + x5).toNatClampNeg (0 : Int32)).1 90 3) >>> (x5 &&& 31)) &&& (1 : Int32)) <<< (x6 &&& 31)))) 90 3 (((sI (sI (sI σ 90 ((4 : Int32) + x6).toNatClampNeg ((σ.1 90 ((4 : Int32) + x6).toNatClampNeg) + (σ.1 90 ((4 : Int32) + x5).toNatClampNeg))) 90 ((4 : Int32) + x5).toNatClampNeg (0 : Int32)) 90 3 (((sI (sI σ 90 ((4 : Int32) + x6).toNatClampNeg ((σ.1 90 ((4 : Int32) + x6).toNatClampNeg) + (σ.1 90 ((4 : Int32) + x5).toNatClampNeg))) 90 ((4 : Int32) + x5).toNatClampNeg (0 : Int32)).1 90 3) ||| (((((sI (sI σ 90 ((4 : Int32) + x6).toNatClampNeg ((σ.1 90 ((4 : Int32) + x6).toNatClampNeg) + (σ.1 90 ((4 : Int32) + x5).toNatClampNeg))) 90 ((4 : Int32) + x5).toNatClampNeg (0 : Int32)).1 90 3) >>> (x5 &&& 31)) &&& (1 : Int32)) <<< (x6 &&& 31)))).1 90 3) &&& (((1 : Int32) <<< (x5 &&& 31)) ^^^ (-1 : Int32)))) 90 ((4 : Int32) + x6).toNatClampNeg ((sI (sI (sI (sI σ 90 ((4 : Int32) + x6).toNatClampNeg ((σ.1 90 ((4 : Int32) + x6).toNatClampNeg) + (σ.1 90 ((4 : Int32) + x5).toNatClampNeg))) 90 ((4 : Int32) + x5).toNatClampNeg (0 : Int32)) 90 3 (((sI (sI σ 90 ((4 : Int32) + x6).toNatClampNeg ((σ.1 90 ((4 : Int32) + x6).toNatClampNeg) + (σ.1 90 ((4 : Int32) + x5).toNatClampNeg))) 90 ((4 : Int32) + x5).toNatClampNeg (0 : Int32)).1 90 3) ||| (((((sI (sI σ 90 ((4 : Int32) + x6).toNatClampNeg ((σ.1 90 ((4 : Int32) + x6).toNatClampNeg) + (σ.1 90 ((4 : Int32) + x5).toNatClampNeg))) 90 ((4 : Int32) + x5).toNatClampNeg (0 : Int32)).1 90 3) >>> (x5 &&& 31)) &&& (1 : Int32)) <<< (x6 &&& 31)))) 90 3 (((sI (sI (sI σ 90 ((4 : Int32) + x6).toNatClampNeg ((σ.1 90 ((4 : Int32) + x6).toNatClampNeg) + (σ.1 90 ((4 : Int32) + x5).toNatClampNeg))) 90 ((4 : Int32) + x5).toNatClampNeg (0 : Int32)) 90 3 (((sI (sI σ 90 ((4 : Int32) + x6).toNatClampNeg ((σ.1 90 ((4 : Int32) + x6).toNatClampNeg) + (σ.1 90 ((4 : Int32) + x5).toNatClampNeg))) 90 ((4 : Int32) + x5).toNatClampNeg (0 : Int32)).1 90 3) ||| (((((sI (sI σ 90 ((4 : Int32) + x6).toNatClampNeg ((σ.1 90 ((4 : Int32) + x6).toNatClampNeg) + (σ.1 90 ((4 : Int32) + x5).toNatClampNeg))) 90 ((4 : Int32) + x5).toNatClampNeg (0 : Int32)).1 90 3) >>> (x5 &&& 31)) &&& (1 : Int32)) <<< (x6 &&& 31)))).1 90 3) &&& (((1 : Int32) <<< (x5 &&& 31)) ^^^ (-1 : Int32)))).1 90 ((4 : Int32) + x6).toNatClampNeg)).1 90 ((4 : Int32) + x6).toNatClampNeg) then (some (some (.long (-9000000000000000002 : Int64)), (sI (sI (sI (sI (sI σ 90 ((4 : Int32) + x6).toNatClampNeg ((σ.1 90 ((4 : Int32) + x6).toNatClampNeg) + (σ.1 90 ((4 : Int32) + x5).toNatClampNeg))) 90 ((4 : Int32) + x5).toNatClampNeg (0 : Int32)) 90 3 (((sI (sI σ 90 ((4 : Int32) + x6).toNatClampNeg ((σ.1 90 ((4 : Int32) + x6).toNatClampNeg) + (σ.1 90 ((4 : Int32) + x5).toNatClampNeg))) 90 ((4 : Int32) + x5).toNatClampNeg (0 : Int32)).1 90 3) ||| (((((sI (sI σ 90 ((4 : Int32) + x6).toNatClampNeg ((σ.1 90 ((4 : Int32) + x6).toNatClampNeg) + (σ.1 90 ((4 : Int32) + x5).toNatClampNeg))) 90 ((4 : Int32) + x5).toNatClampNeg (0 : Int32)).1 90 3) >>> (x5 &&& 31)) &&& (1 : Int32)) <<< (x6 &&& 31)))) 90 3 (((sI (sI (sI σ 90 ((4 : Int32) + x6).toNatClampNeg ((σ.1 90 ((4 : Int32) + x6).toNatClampNeg) + (σ.1 90 ((4 : Int32) + x5).toNatClampNeg))) 90 ((4 : Int32) + x5).toNatClampNeg (0 : Int32)) 90 3 (((sI (sI σ 90 ((4 : Int32) + x6).toNatClampNeg ((σ.1 90 ((4 : Int32) + x6).toNatClampNeg) + (σ.1 90 ((4 : Int32) + x5).toNatClampNeg))) 90 ((4 : Int32) + x5).toNatClampNeg (0 : Int32)).1 90 3) ||| (((((sI (sI σ 90 ((4 : Int32) + x6).toNatClampNeg ((σ.1 90 ((4 : Int32) + x6).toNatClampNeg) + (σ.1 90 ((4 : Int32) + x5).toNatClampNeg))) 90 ((4 : Int32) + x5).toNatClampNeg (0 : Int32)).1 90 3) >>> (x5 &&& 31)) &&& (1 : Int32)) <<< (x6 &&& 31)))).1 90 3) &&& (((1 : Int32) <<< (x5 &&& 31)) ^^^ (-1 : Int32)))) 90 ((4 : Int32) + x6).toNatClampNeg ((sI (sI (sI (sI σ 90 ((4 : Int32) + x6).toNatClampNeg ((σ.1 90 ((4 : Int32) + x6).toNatClampNeg) + (σ.1 90 ((4 : Int32) + x5).toNatClampNeg))) 90 ((4 : Int32) + x5).toNatClampNeg (0 : Int32)) 90 3 (((sI (sI σ 90 ((4 : Int32) + x6).toNatClampNeg ((σ.1 90 ((4 : Int32) + x6).toNatClampNeg) + (σ.1 90 ((4 : Int32) + x5).toNatClampNeg))) 90 ((4 : Int32) + x5).toNatClampNeg (0 : Int32)).1 90 3) ||| (((((sI (sI σ 90 ((4 : Int32) + x6).toNatClampNeg ((σ.1 90 ((4 : Int32) + x6).toNatClampNeg) + (σ.1 90 ((4 : Int32) + x5).toNatClampNeg))) 90 ((4 : Int32) + x5).toNatClampNeg (0 : Int32)).1 90 3) >>> (x5 &&& 31)) &&& (1 : Int32)) <<< (x6 &&& 31)))) 90 3 (((sI (sI (sI σ 90 ((4 : Int32) + x6).toNatClampNeg ((σ.1 90 ((4 : Int32) + x6).toNatClampNeg) + (σ.1 90 ((4 : Int32) + x5).toNatClampNeg))) 90 ((4 : Int32) + x5).toNatClampNeg (0 : Int32)) 90 3 (((sI (sI σ 90 ((4 : Int32) + x6).toNatClampNeg ((σ.1 90 ((4 : Int32) + x6).toNatClampNeg) + (σ.1 90 ((4 : Int32) + x5).toNatClampNeg))) 90 ((4 : Int32) + x5).toNatClampNeg (0 : Int32)).1 90 3) ||| (((((sI (sI σ 90 ((4 : Int32) + x6).toNatClampNeg ((σ.1 90 ((4 : Int32) + x6).toNatClampNeg) + (σ.1 90 ((4 : Int32) + x5).toNatClampNeg))) 90 ((4 : Int32) + x5).toNatClampNeg (0 : Int32)).1 90 3) >>> (x5 &&& 31)) &&& (1 : Int32)) <<< (x6 &&& 31)))).1 90 3) &&& (((1 : Int32) <<< (x5 &&& 31)) ^^^ (-1 : Int32)))).1 90 ((4 : Int32) + x6).toNatClampNeg)))) else (if ((sI (sI (sI (sI (sI σ 90 ((4 : Int32) + x6).toNatClampNeg ((σ.1 90 ((4 : Int32) + x6).toNatClampNeg) + (σ.1 90 ((4 : Int32) + x5).toNatClampNeg))) 90 ((4 : Int32) + x5).toNatClampNeg (0 : Int32)) 90 3 (((sI (sI σ 90 ((4 : Int32) + x6).toNatClampNeg ((σ.1 90 ((4 : Int32) + x6).toNatClampNeg) + (σ.1 90 ((4 : Int32) + x5).toNatClampNeg))) 90 ((4 : Int32) + x5).toNatClampNeg (0 : Int32)).1 90 3) ||| (((((sI (sI σ 90 ((4 : Int32) + x6).toNatClampNeg ((σ.1 90 ((4 : Int32) + x6).toNatClampNeg) + (σ.1 90 ((4 : Int32) + x5).toNatClampNeg))) 90 ((4 : Int32) + x5).toNatClampNeg (0 : Int32)).1 90 3) >>> (x5 &&& 31)) &&& (1 : Int32)) <<< (x6 &&& 31)))) 90 3 (((sI (sI (sI σ 90 ((4 : Int32) + x6).toNatClampNeg ((σ.1 90 ((4 : Int32) + x6).toNatClampNeg) + (σ.1 90 ((4 : Int32) + x5).toNatClampNeg))) 90 ((4 : Int32) + x5).toNatClampNeg (0 : Int32)) 90 3 (((sI (sI σ 90 ((4 : Int32) + x6).toNatClampNeg ((σ.1 90 ((4 : Int32) + x6).toNatClampNeg) + (σ.1 90 ((4 : Int32) + x5).toNatClampNeg))) 90 ((4 : Int32) + x5).toNatClampNeg (0 : Int32)).1 90 3) ||| (((((sI (sI σ 90 ((4 : Int32) + x6).toNatClampNeg ((σ.1 90 ((4 : Int32) + x6).toNatClampNeg) + (σ.1 90 ((4 : Int32) + x5).toNatClampNeg))) 90 ((4 : Int32) + x5).toNatClampNeg (0 : Int32)).1 90 3) >>> (x5 &&& 31)) &&& (1 : Int32)) <<< (x6 &&& 31)))).1 90 3) &&& (((1 : Int32) <<< (x5 &&& 31)) ^^^ (-1 : Int32)))) 90 ((4 : Int32) + x6).toNatClampNeg ((sI (sI (sI (sI σ 90 ((4 : Int32) + x6).toNatClampNeg ((σ.1 90 ((4 : Int32) + x6).toNatClampNeg) + (σ.1 90 ((4 : Int32) + x5).toNatClampNeg))) 90 ((4 : Int32) + x5).toNatClampNeg (0 : Int32)) 90 3 (((sI (sI σ 90 ((4 : Int32) + x6).toNatClampNeg ((σ.1 90 ((4 : Int32) + x6).toNatClampNeg) + (σ.1 90 ((4 : Int32) + x5).toNatClampNeg))) 90 ((4 : Int32) + x5).toNatClampNeg (0 : Int32)).1 90 3) ||| (((((sI (sI σ 90 ((4 : Int32) + x6).toNatClampNeg ((σ.1 90 ((4 : Int32) + x6).toNatClampNeg) + (σ.1 90 ((4 : Int32) + x5).toNatClampNeg))) 90 ((4 : Int32) + x5).toNatClampNeg (0 : Int32)).1 90 3) >>> (x5 &&& 31)) &&& (1 : Int32)) <<< (x6 &&& 31)))) 90 3 (((sI (sI (sI σ 90 ((4 : Int32) + x6).toNatClampNeg ((σ.1 90 ((4 : Int32) + x6).toNatClampNeg) + (σ.1 90 ((4 : Int32) + x5).toNatClampNeg))) 90 ((4 : Int32) + x5).toNatClampNeg (0 : Int32)) 90 3 (((sI (sI σ 90 ((4 : Int32) + x6).toNatClampNeg ((σ.1 90 ((4 : Int32) + x6).toNatClampNeg) + (σ.1 90 ((4 : Int32) + x5).toNatClampNeg))) 90 ((4 : Int32) + x5).toNatClampNeg (0 : Int32)).1 90 3) ||| (((((sI (sI σ 90 ((4 : Int32) + x6).toNatClampNeg ((σ.1 90 ((4 : Int32) + x6).toNatClampNeg) + (σ.1 90 ((4 : Int32) + x5).toNatClampNeg))) 90 ((4 : Int32) + x5).toNatClampNeg (0 : Int32)).1 90 3) >>> (x5 &&& 31)) &&& (1 : Int32)) <<< (x6 &&& 31)))).1 90 3) &&& (((1 : Int32) <<< (x5 &&& 31)) ^^^ (-1 : Int32)))).1 90 ((4 : Int32) + x6).toNatClampNeg)).1 88 0) = (12 : Int32) then (some (some (.long (-9000000000000000003 : Int64)), (sI (sI (sI (sI (sI σ 90 ((4 : Int32) + x6).toNatClampNeg ((σ.1 90 ((4 : Int32) + x6).toNatClampNeg) + (σ.1 90 ((4 : Int32) + x5).toNatClampNeg))) 90 ((4 : Int32) + x5).toNatClampNeg (0 : Int32)) 90 3 (((sI (sI σ 90 ((4 : Int32) + x6).toNatClampNeg ((σ.1 90 ((4 : Int32) + x6).toNatClampNeg) + (σ.1 90 ((4 : Int32) + x5).toNatClampNeg))) 90 ((4 : Int32) + x5).toNatClampNeg (0 : Int32)).1 90 3) ||| (((((sI (sI σ 90 ((4 : Int32) + x6).toNatClampNeg ((σ.1 90 ((4 : Int32) + x6).toNatClampNeg) + (σ.1 90 ((4 : Int32) + x5).toNatClampNeg))) 90 ((4 : Int32) + x5).toNatClampNeg (0 : Int32)).1 90 3) >>> (x5 &&& 31)) &&& (1 : Int32)) <<< (x6 &&& 31)))) 90 3 (((sI (sI (sI σ 90 ((4 : Int32) + x6).toNatClampNeg ((σ.1 90 ((4 : Int32) + x6).toNatClampNeg) + (σ.1 90 ((4 : Int32) + x5).toNatClampNeg))) 90 ((4 : Int32) + x5).toNatClampNeg (0 : Int32)) 90 3 (((sI (sI σ 90 ((4 : Int32) + x6).toNatClampNeg ((σ.1 90 ((4 : Int32) + x6).toNatClampNeg) + (σ.1 90 ((4 : Int32) + x5).toNatClampNeg))) 90 ((4 : Int32) + x5).toNatClampNeg (0 : Int32)).1 90 3) ||| (((((sI (sI σ 90 ((4 : Int32) + x6).toNatClampNeg ((σ.1 90 ((4 : Int32) + x6).toNatClampNeg) + (σ.1 90 ((4 : Int32) + x5).toNatClampNeg))) 90 ((4 : Int32) + x5).toNatClampNeg (0 : Int32)).1 90 3) >>> (x5 &&& 31)) &&& (1 : Int32)) <<< (x6 &&& 31)))).1 90 3) &&& (((1 : Int32) <<< (x5 &&& 31)) ^^^ (-1 : Int32)))) 90 ((4 : Int32) + x6).toNatClampNeg ((sI (sI (sI (sI σ 90 ((4 : Int32) + x6).toNatClampNeg ((σ.1 90 ((4 : Int32) + x6).toNatClampNeg) + (σ.1 90 ((4 : Int32) + x5).toNatClampNeg))) 90 ((4 : Int32) + x5).toNatClampNeg (0 : Int32)) 90 3 (((sI (sI σ 90 ((4 : Int32) + x6).toNatClampNeg ((σ.1 90 ((4 : Int32) + x6).toNatClampNeg) + (σ.1 90 ((4 : Int32) + x5).toNatClampNeg))) 90 ((4 : Int32) + x5).toNatClampNeg (0 : Int32)).1 90 3) ||| (((((sI (sI σ 90 ((4 : Int32) + x6).toNatClampNeg ((σ.1 90 ((4 : Int32) + x6).toNatClampNeg) + (σ.1 90 ((4 : Int32) + x5).toNatClampNeg))) 90 ((4 : Int32) + x5).toNatClampNeg (0 : Int32)).1 90 3) >>> (x5 &&& 31)) &&& (1 : Int32)) <<< (x6 &&& 31)))) 90 3 (((sI (sI (sI σ 90 ((4 : Int32) + x6).toNatClampNeg ((σ.1 90 ((4 : Int32) + x6).toNatClampNeg) + (σ.1 90 ((4 : Int32) + x5).toNatClampNeg))) 90 ((4 : Int32) + x5).toNatClampNeg (0 : Int32)) 90 3 (((sI (sI σ 90 ((4 : Int32) + x6).toNatClampNeg ((σ.1 90 ((4 : Int32) + x6).toNatClampNeg) + (σ.1 90 ((4 : Int32) + x5).toNatClampNeg))) 90 ((4 : Int32) + x5).toNatClampNeg (0 : Int32)).1 90 3) ||| (((((sI (sI σ 90 ((4 : Int32) + x6).toNatClampNeg ((σ.1 90 ((4 : Int32) + x6).toNatClampNeg) + (σ.1 90 ((4 : Int32) + x5).toNatClampNeg))) 90 ((4 : Int32) + x5).toNatClampNeg (0 : Int32)).1 90 3) >>> (x5 &&& 31)) &&& (1 : Int32)) <<< (x6 &&& 31)))).1 90 3) &&& (((1 : Int32) <<< (x5 &&& 31)) ^^^ (-1 : Int32)))).1 90 ((4 : Int32) + x6).toNatClampNeg)))) else ((cI sO (d + 1) 226 [.ref 82] (sI (sI (sI (sI (sI σ 90 ((4 : Int32) + x6).toNatClampNeg ((σ.1 90 ((4 : Int32) + x6).toNatClampNeg) + (σ.1 90 ((4 : Int32) + x5).toNatClampNeg))) 90 ((4 : Int32) + x5).toNatClampNeg (0 : Int32)) 90 3 (((sI (sI σ 90 ((4 : Int32) + x6).toNatClampNeg ((σ.1 90 ((4 : Int32) + x6).toNatClampNeg) + (σ.1 90 ((4 : Int32) + x5).toNatClampNeg))) 90 ((4 : Int32) + x5).toNatClampNeg (0 : Int32)).1 90 3) ||| (((((sI (sI σ 90 ((4 : Int32) + x6).toNatClampNeg ((σ.1 90 ((4 : Int32) + x6).toNatClampNeg) + (σ.1 90 ((4 : Int32) + x5).toNatClampNeg))) 90 ((4 : Int32) + x5).toNatClampNeg (0 : Int32)).1 90 3) >>> (x5 &&& 31)) &&& (1 : Int32)) <<< (x6 &&& 31)))) 90 3 (((sI (sI (sI σ 90 ((4 : Int32) + x6).toNatClampNeg ((σ.1 90 ((4 : Int32) + x6).toNatClampNeg) + (σ.1 90 ((4 : Int32) + x5).toNatClampNeg))) 90 ((4 : Int32) + x5).toNatClampNeg (0 : Int32)) 90 3 (((sI (sI σ 90 ((4 : Int32) + x6).toNatClampNeg ((σ.1 90 ((4 : Int32) + x6).toNatClampNeg) + (σ.1 90 ((4 : Int32) + x5).toNatClampNeg))) 90 ((4 : Int32) + x5).toNatClampNeg (0 : Int32)).1 90 3) ||| (((((sI (sI σ 90 ((4 : Int32) + x6).toNatClampNeg ((σ.1 90 ((4 : Int32) + x6).toNatClampNeg) + (σ.1 90 ((4 : Int32) + x5).toNatClampNeg))) 90 ((4 : Int32) + x5).toNatClampNeg (0 : Int32)).1 90 3) >>> (x5 &&& 31)) &&& (1 : Int32)) <<< (x6 &&& 31)))).1 90 3) &&& (((1 : Int32) <<< (x5 &&& 31)) ^^^ (-1 : Int32)))) 90 ((4 : Int32) + x6).toNatClampNeg ((sI (sI (sI (sI σ 90 ((4 : Int32) + x6).toNatClampNeg ((σ.1 90 ((4 : Int32) + x6).toNatClampNeg) + (σ.1 90 ((4 : Int32) + x5).toNatClampNeg))) 90 ((4 : Int32) + x5).toNatClampNeg (0 : Int32)) 90 3 (((sI (sI σ 90 ((4 : Int32) + x6).toNatClampNeg ((σ.1 90 ((4 : Int32) + x6).toNatClampNeg) + (σ.1 90 ((4 : Int32) + x5).toNatClampNeg))) 90 ((4 : Int32) + x5).toNatClampNeg (0 : Int32)).1 90 3) ||| (((((sI (sI σ 90 ((4 : Int32) + x6).toNatClampNeg ((σ.1 90 ((4 : Int32) + x6).toNatClampNeg) + (σ.1 90 ((4 : Int32) + x5).toNatClampNeg))) 90 ((4 : Int32) + x5).toNatClampNeg (0 : Int32)).1 90 3) >>> (x5 &&& 31)) &&& (1 : Int32)) <<< (x6 &&& 31)))) 90 3 (((sI (sI (sI σ 90 ((4 : Int32) + x6).toNatClampNeg ((σ.1 90 ((4 : Int32) + x6).toNatClampNeg) + (σ.1 90 ((4 : Int32) + x5).toNatClampNeg))) 90 ((4 : Int32) + x5).toNatClampNeg (0 : Int32)) 90 3 (((sI (sI σ 90 ((4 : Int32) + x6).toNatClampNeg ((σ.1 90 ((4 : Int32) + x6).toNatClampNeg) + (σ.1 90 ((4 : Int32) + x5).toNatClampNeg))) 90 ((4 : Int32) + x5).toNatClampNeg (0 : Int32)).1 90 3) ||| (((((sI (sI σ 90 ((4 : Int32) + x6).toNatClampNeg ((σ.1 90 ((4 : Int32) + x6).toNatClampNeg) + (σ.1 90 ((4 : Int32) + x5).toNatClampNeg))) 90 ((4 : Int32) + x5).toNatClampNeg (0 : Int32)).1 90 3) >>> (x5 &&& 31)) &&& (1 : Int32)) <<< (x6 &&& 31)))).1 90 3) &&& (((1 : Int32) <<< (x5 &&& 31)) ^^^ (-1 : Int32)))).1 90 ((4 : Int32) + x6).toNatClampNeg))).bind fun u8 => some (some (.long u8.1.toInt64), u8.2)))))))))))))) else (if x4 = (5 : Int32) then (if (σ.1 90 12) < (9 : Int32) then ((cI sO (d + 1) 234 [.ref 82, .int x1, .int (8 : Int32)] σ).bind fun u9 => if u9.1 = 0 then (gd (0 ≤ ((4 : Int32) + x5).toInt ∧ ((4 : Int32) + x5).toInt < (15 : Nat)) (if (9999 : Int32) < ((sI u9.2 90 12 ((σ.1 90 12) + (0 : Int32))).1 90 ((4 : Int32) + x5).toNatClampNeg) then (some (some (.long (-9000000000000000002 : Int64)), (sI u9.2 90 12 ((σ.1 90 12) + (0 : Int32))))) else (gd (0 ≤ ((4 : Int32) + x6).toInt ∧ ((4 : Int32) + x6).toInt < (15 : Nat)) (if (9999 : Int32) < ((sI u9.2 90 12 ((σ.1 90 12) + (0 : Int32))).1 90 ((4 : Int32) + x6).toNatClampNeg) then (some (some (.long (-9000000000000000002 : Int64)), (sI u9.2 90 12 ((σ.1 90 12) + (0 : Int32))))) else (if ((sI u9.2 90 12 ((σ.1 90 12) + (0 : Int32))).1 88 0) = (12 : Int32) then (some (some (.long (-9000000000000000003 : Int64)), (sI u9.2 90 12 ((σ.1 90 12) + (0 : Int32))))) else ((cI sO (d + 1) 226 [.ref 82] (sI u9.2 90 12 ((σ.1 90 12) + (0 : Int32)))).bind fun u10 => some (some (.long u10.1.toInt64), u10.2))))))) else (gd (0 ≤ ((4 : Int32) + x5).toInt ∧ ((4 : Int32) + x5).toInt < (15 : Nat)) (if (9999 : Int32) < ((sI u9.2 90 12 ((σ.1 90 12) + (1 : Int32))).1 90 ((4 : Int32) + x5).toNatClampNeg) then (some (some (.long (-9000000000000000002 : Int64)), (sI u9.2 90 12 ((σ.1 90 12) + (1 : Int32))))) else (gd (0 ≤ ((4 : Int32) + x6).toInt ∧ ((4 : Int32) + x6).toInt < (15 : Nat)) (if (9999 : Int32) < ((sI u9.2 90 12 ((σ.1 90 12) + (1 : Int32))).1 90 ((4 : Int32) + x6).toNatClampNeg) then (some (some (.long (-9000000000000000002 : Int64)), (sI u9.2 90 12 ((σ.1 90 12) + (1 : Int32))))) else (if ((sI u9.2 90 12 ((σ.1 90 12) + (1 : Int32))).1 88 0) = (12 : Int32) then (some (some (.long (-9000000000000000003 : Int64)), (sI u9.2 90 12 ((σ.1 90 12) + (1 : Int32))))) else ((cI sO (d + 1) 226 [.ref 82] (sI u9.2 90 12 ((σ.1 90 12) + (1 : Int32)))).bind fun u11 => some (some (.long u11.1.toInt64), u11.2)))))))) else (gd (0 ≤ ((4 : Int32) + x5).toInt ∧ ((4 : Int32) + x5).toInt < (15 : Nat)) (if (9999 : Int32) < ((sI σ 90 12 ((σ.1 90 12) + (0 : Int32))).1 90 ((4 : Int32) + x5).toNatClampNeg) then (some (some (.long (-9000000000000000002 : Int64)), (sI σ 90 12 ((σ.1 90 12) + (0 : Int32))))) else (gd (0 ≤ ((4 : Int32) + x6).toInt ∧ ((4 : Int32) + x6).toInt < (15 : Nat)) (if (9999 : Int32) < ((sI σ 90 12 ((σ.1 90 12) + (0 : Int32))).1 90 ((4 : Int32) + x6).toNatClampNeg) then (some (some (.long (-9000000000000000002 : Int64)), (sI σ 90 12 ((σ.1 90 12) + (0 : Int32))))) else (if ((sI σ 90 12 ((σ.1 90 12) + (0 : Int32))).1 88 0) = (12 : Int32) then (some (some (.long (-9000000000000000003 : Int64)), (sI σ 90 12 ((σ.1 90 12) + (0 : Int32))))) else ((cI sO (d + 1) 226 [.ref 82] (sI σ 90 12 ((σ.1 90 12) + (0 : Int32)))).bind fun u12 => some (some (.long u12.1.toInt64), u12.2)))))))) else (if x4 = (6 : Int32) then (if (σ.1 90 13) < (5 : Int32) then (gd (0 ≤ ((4 : Int32) + x5).toInt ∧ ((4 : Int32) + x5).toInt < (15 : Nat)) (if (9999 : Int32) < ((sI σ 90 13 (0 : Int32)).1 90 ((4 : Int32) + x5).toNatClampNeg) then (some (some (.long (-9000000000000000002 : Int64)), (sI σ 90 13 (0 : Int32)))) else (gd (0 ≤ ((4 : Int32) + x6).toInt ∧ ((4 : Int32) + x6).toInt < (15 : Nat)) (if (9999 : Int32) < ((sI σ 90 13 (0 : Int32)).1 90 ((4 : Int32) + x6).toNatClampNeg) then (some (some (.long (-9000000000000000002 : Int64)), (sI σ 90 13 (0 : Int32)))) else (if ((sI σ 90 13 (0 : Int32)).1 88 0) = (12 : Int32) then (some (some (.long (-9000000000000000003 : Int64)), (sI σ 90 13 (0 : Int32)))) else ((cI sO (d + 1) 226 [.ref 82] (sI σ 90 13 (0 : Int32))).bind fun u13 => some (some (.long u13.1.toInt64), u13.2))))))) else (gd (0 ≤ ((4 : Int32) + x5).toInt ∧ ((4 : Int32) + x5).toInt < (15 : Nat)) (if (9999 : Int32) < ((sI σ 90 13 ((σ.1 90 13) - (5 : Int32))).1 90 ((4 : Int32) + x5).toNatClampNeg) then (some (some (.long (-9000000000000000002 : Int64)), (sI σ 90 13 ((σ.1 90 13) - (5 : Int32))))) else (gd (0 ≤ ((4 : Int32) + x6).toInt ∧ ((4 : Int32) + x6).toInt < (15 : Nat)) (if (9999 : Int32) < ((sI σ 90 13 ((σ.1 90 13) - (5 : Int32))).1 90 ((4 : Int32) + x6).toNatClampNeg) then (some (some (.long (-9000000000000000002 : Int64)), (sI σ 90 13 ((σ.1 90 13) - (5 : Int32))))) else (if ((sI σ 90 13 ((σ.1 90 13) - (5 : Int32))).1 88 0) = (12 : Int32) then (some (some (.long (-9000000000000000003 : Int64)), (sI σ 90 13 ((σ.1 90 13) - (5 : Int32))))) else ((cI sO (d + 1) 226 [.ref 82] (sI σ 90 13 ((σ.1 90 13) - (5 : Int32)))).bind fun u14 => some (some (.long u14.1.toInt64), u14.2)))))))) else (gd (0 ≤ ((4 : Int32) + x5).toInt ∧ ((4 : Int32) + x5).toInt < (15 : Nat)) (if (9999 : Int32) < (σ.1 90 ((4 : Int32) + x5).toNatClampNeg) then (some (some (.long (-9000000000000000002 : Int64)), σ)) else (gd (0 ≤ ((4 : Int32) + x6).toInt ∧ ((4 : Int32) + x6).toInt < (15 : Nat)) (if (9999 : Int32) < (σ.1 90 ((4 : Int32) + x6).toNatClampNeg) then (some (some (.long (-9000000000000000002 : Int64)), σ)) else (if (σ.1 88 0) = (12 : Int32) then (some (some (.long (-9000000000000000003 : Int64)), σ)) else ((cI sO (d + 1) 226 [.ref 82] σ).bind fun u15 => some (some (.long u15.1.toInt64), u15.2))))))))))))) := by
  refine (E_il c_233_103 rfl).trans ?_
  refine (E_ic (v := (11 : Int32)) c_233_105 (by decide)).trans ?_
  refine (E_br_ge (q := 143) c_233_107 rfl).trans (ax_ite ?_ ?_)
  · refine (E_al c_233_110 rfl (by decide)).trans ?_
    refine (E_il c_233_111 rfl).trans ?_
    refine (E_al c_233_113 rfl (by decide)).trans ?_
    refine (E_il c_233_114 rfl).trans ?_
    refine (E_il c_233_115 rfl).trans ?_
    refine (E_cIV c_233_117 mi_234 rfl rfl (sO_kl sh_82) (Nat.le_of_ble_eq_true rfl) (Nat.le_of_ble_eq_true rfl)).trans (ax_bnd fun u0 => ?_)
    refine (E_b0_eq (q := 133) c_233_120 rfl).trans (ax_ite ?_ ?_)
    · refine (E_ic (v := (-1 : Int32)) c_233_133 (by decide)).trans ?_
      refine (E_cVV c_233_134 mi_225 rfl (sO_kl sh_82) (Nat.le_of_ble_eq_true rfl) (Nat.le_of_ble_eq_true rfl)).trans (ax_bnd fun u1 => ?_)
      refine (E_inc (v := (1 : Int32)) (L' := [.ref 82, .int x1, w2, w3, .int x4, .int x5, .int x6, .int (x7 + (1 : Int32))]) c_233_137 rfl (by decide) rfl).trans ?_
      refine (E_goto (q := 103) c_233_140 rfl).trans ?_
      rfl
    · refine (E_al c_233_123 rfl (by decide)).trans ?_
      refine (E_il c_233_124 rfl).trans ?_
      refine (E_il c_233_125 rfl).trans ?_
      refine (E_cIV c_233_127 mi_235 rfl rfl (sO_kl sh_82) (Nat.le_of_ble_eq_true rfl) (Nat.le_of_ble_eq_true rfl)).trans (ax_bnd fun u2 => ?_)
      refine (E_goto (q := 134) c_233_130 rfl).trans ?_
      refine (E_cVV c_233_134 mi_225 rfl (sO_kl sh_82) (Nat.le_of_ble_eq_true rfl) (Nat.le_of_ble_eq_true rfl)).trans (ax_bnd fun u3 => ?_)
      refine (E_inc (v := (1 : Int32)) (L' := [.ref 82, .int x1, w2, w3, .int x4, .int x5, .int x6, .int (x7 + (1 : Int32))]) c_233_137 rfl (by decide) rfl).trans ?_
      refine (E_goto (q := 103) c_233_140 rfl).trans ?_
      rfl
  · refine (E_ic (v := (4 : Int32)) c_233_143 (by decide)).trans ?_
    refine (E_il c_233_144 rfl).trans ?_
    refine (E_iadd c_233_146).trans ?_
    refine (E_is (L' := [.ref 82, .int x1, w2, w3, .int x4, .int x5, .int x6, .int ((4 : Int32) + x5)]) c_233_147 (Nat.le_of_ble_eq_true rfl) rfl).trans ?_
    refine (E_il c_233_149 rfl).trans ?_
    refine (E_sw c_233_151 [((1 : Int32), 188), ((2 : Int32), 214), ((3 : Int32), 228), ((4 : Int32), 242), ((5 : Int32), 347), ((6 : Int32), 387)] (q := 421) rfl (by decide) (by decide) (by decide)).trans ?_
    refine ev_sw1.trans (ax_ite ?_ ?_)
    · refine (E_al c_233_188 rfl (by decide)).trans ?_
      refine (E_gfr (k := 19) (r := 90) c_233_189 sh_82 rfl rfl rfl).trans ?_
      refine (E_il c_233_192 rfl).trans ?_
      refine (E_ic (v := (0 : Int32)) c_233_194 (by decide)).trans ?_
      refine (E_ias (v := (0 : Int32)) c_233_195 sh_90 rfl).trans (ax_gd ?_)
      refine (E_al c_233_196 rfl (by decide)).trans ?_
      refine (E_gfr (k := 19) (r := 90) c_233_197 sh_82 rfl rfl rfl).trans ?_
      refine (E_ic (v := (3 : Int32)) c_233_200 (by decide)).trans ?_
      refine (E_dup2 c_233_201 ⟨rfl, rfl⟩).trans ?_
      refine (E_ialk (k := 3) c_233_202 sh_90 (by decide) (by decide)).trans ?_
      refine (E_ic (v := (1 : Int32)) c_233_203 (by decide)).trans ?_
      refine (E_il c_233_204 rfl).trans ?_
      refine (E_ishl c_233_206).trans ?_
      refine (E_ic (v := (-1 : Int32)) c_233_207 (by decide)).trans ?_
      refine (E_ixor c_233_208).trans ?_
      refine (E_iand c_233_209).trans ?_
      refine (E_iask (k := 3) (v := (((sI σ 90 ((4 : Int32) + x5).toNatClampNeg (0 : Int32)).1 90 3) &&& (((1 : Int32) <<< (x5 &&& 31)) ^^^ (-1 : Int32)))) c_233_210 sh_90 rfl (by decide) (by decide)).trans ?_
      refine (E_goto (q := 421) c_233_211 rfl).trans ?_
      refine (E_al c_233_421 rfl (by decide)).trans ?_
      refine (E_gfr (k := 19) (r := 90) c_233_422 sh_82 rfl rfl rfl).trans ?_
      refine (E_il c_233_425 rfl).trans ?_
      refine (E_ial c_233_427 sh_90).trans (ax_gd ?_)
      refine (E_ic (v := (9999 : Int32)) c_233_428 (by decide)).trans ?_
      refine (E_br_gt (q := 449) c_233_431 rfl).trans (ax_ite ?_ ?_)
      · refine (E_l2 (v := (-9000000000000000002 : Int64)) c_233_449 (by decide)).trans ?_
        exact E_rL c_233_452 mi_233
      · refine (E_al c_233_434 rfl (by decide)).trans ?_
        refine (E_gfr (k := 19) (r := 90) c_233_435 sh_82 rfl rfl rfl).trans ?_
        refine (E_ic (v := (4 : Int32)) c_233_438 (by decide)).trans ?_
        refine (E_il c_233_439 rfl).trans ?_
        refine (E_iadd c_233_441).trans ?_
        refine (E_ial c_233_442 sh_90).trans (ax_gd ?_)
        refine (E_ic (v := (9999 : Int32)) c_233_443 (by decide)).trans ?_
        refine (E_br_le (q := 453) c_233_446 rfl).trans (ax_ite ?_ ?_)
        · refine (E_l2 (v := (-9000000000000000002 : Int64)) c_233_449 (by decide)).trans ?_
          exact E_rL c_233_452 mi_233
        · refine (E_al c_233_453 rfl (by decide)).trans ?_
          refine (E_gfr (k := 8) (r := 88) c_233_454 sh_82 rfl rfl rfl).trans ?_
          refine (E_ic (v := (0 : Int32)) c_233_457 (by decide)).trans ?_
          refine (E_ialk (k := 0) c_233_458 sh_88 (by decide) (by decide)).trans ?_
          refine (E_ic (v := (12 : Int32)) c_233_459 (by decide)).trans ?_
          refine (E_br_ne (q := 470) c_233_461 rfl).trans (ax_ite ?_ ?_)
          · refine (E_l2 (v := (-9000000000000000003 : Int64)) c_233_464 (by decide)).trans ?_
            refine (E_goto (q := 475) c_233_467 rfl).trans ?_
            exact E_rL c_233_475 mi_233
          · refine (E_al c_233_470 rfl (by decide)).trans ?_
            refine (E_cIV c_233_471 mi_226 rfl rfl (sO_kl sh_82) (Nat.le_of_ble_eq_true rfl) (Nat.le_of_ble_eq_true rfl)).trans (ax_bnd fun u4 => ?_)
            refine (E_i2l c_233_474).trans ?_
            exact E_rL c_233_475 mi_233
    · refine ev_sw1.trans (ax_ite ?_ ?_)
      · refine (E_al c_233_214 rfl (by decide)).trans ?_
        refine (E_gfr (k := 19) (r := 90) c_233_215 sh_82 rfl rfl rfl).trans ?_
        refine (E_il c_233_218 rfl).trans ?_
        refine (E_dup2 c_233_220 ⟨rfl, rfl⟩).trans ?_
        refine (E_ial c_233_221 sh_90).trans (ax_gd ?_)
        refine (E_ic (v := (2 : Int32)) c_233_222 (by decide)).trans ?_
        refine (E_imul c_233_223).trans ?_
        refine (E_ias (v := ((σ.1 90 ((4 : Int32) + x5).toNatClampNeg) * (2 : Int32))) c_233_224 sh_90 rfl).trans (ax_gd ?_)
        refine (E_goto (q := 421) c_233_225 rfl).trans ?_
        refine (E_al c_233_421 rfl (by decide)).trans ?_
        refine (E_gfr (k := 19) (r := 90) c_233_422 sh_82 rfl rfl rfl).trans ?_
        refine (E_il c_233_425 rfl).trans ?_
        refine (E_ial c_233_427 sh_90).trans (ax_gd ?_)
        refine (E_ic (v := (9999 : Int32)) c_233_428 (by decide)).trans ?_
        refine (E_br_gt (q := 449) c_233_431 rfl).trans (ax_ite ?_ ?_)
        · refine (E_l2 (v := (-9000000000000000002 : Int64)) c_233_449 (by decide)).trans ?_
          exact E_rL c_233_452 mi_233
        · refine (E_al c_233_434 rfl (by decide)).trans ?_
          refine (E_gfr (k := 19) (r := 90) c_233_435 sh_82 rfl rfl rfl).trans ?_
          refine (E_ic (v := (4 : Int32)) c_233_438 (by decide)).trans ?_
          refine (E_il c_233_439 rfl).trans ?_
          refine (E_iadd c_233_441).trans ?_
          refine (E_ial c_233_442 sh_90).trans (ax_gd ?_)
          refine (E_ic (v := (9999 : Int32)) c_233_443 (by decide)).trans ?_
          refine (E_br_le (q := 453) c_233_446 rfl).trans (ax_ite ?_ ?_)
          · refine (E_l2 (v := (-9000000000000000002 : Int64)) c_233_449 (by decide)).trans ?_
            exact E_rL c_233_452 mi_233
          · refine (E_al c_233_453 rfl (by decide)).trans ?_
            refine (E_gfr (k := 8) (r := 88) c_233_454 sh_82 rfl rfl rfl).trans ?_
            refine (E_ic (v := (0 : Int32)) c_233_457 (by decide)).trans ?_
            refine (E_ialk (k := 0) c_233_458 sh_88 (by decide) (by decide)).trans ?_
            refine (E_ic (v := (12 : Int32)) c_233_459 (by decide)).trans ?_
            refine (E_br_ne (q := 470) c_233_461 rfl).trans (ax_ite ?_ ?_)
            · refine (E_l2 (v := (-9000000000000000003 : Int64)) c_233_464 (by decide)).trans ?_
              refine (E_goto (q := 475) c_233_467 rfl).trans ?_
              exact E_rL c_233_475 mi_233
            · refine (E_al c_233_470 rfl (by decide)).trans ?_
              refine (E_cIV c_233_471 mi_226 rfl rfl (sO_kl sh_82) (Nat.le_of_ble_eq_true rfl) (Nat.le_of_ble_eq_true rfl)).trans (ax_bnd fun u5 => ?_)
              refine (E_i2l c_233_474).trans ?_
              exact E_rL c_233_475 mi_233
      · refine ev_sw1.trans (ax_ite ?_ ?_)
        · refine (E_al c_233_228 rfl (by decide)).trans ?_
          refine (E_gfr (k := 19) (r := 90) c_233_229 sh_82 rfl rfl rfl).trans ?_
          refine (E_il c_233_232 rfl).trans ?_
          refine (E_dup2 c_233_234 ⟨rfl, rfl⟩).trans ?_
          refine (E_ial c_233_235 sh_90).trans (ax_gd ?_)
          refine (E_ic (v := (2 : Int32)) c_233_236 (by decide)).trans ?_
          refine (E_idiv c_233_237 (by decide)).trans ?_
          refine (E_ias (v := ((σ.1 90 ((4 : Int32) + x5).toNatClampNeg) / (2 : Int32))) c_233_238 sh_90 rfl).trans (ax_gd ?_)
          refine (E_goto (q := 421) c_233_239 rfl).trans ?_
          refine (E_al c_233_421 rfl (by decide)).trans ?_
          refine (E_gfr (k := 19) (r := 90) c_233_422 sh_82 rfl rfl rfl).trans ?_
          refine (E_il c_233_425 rfl).trans ?_
          refine (E_ial c_233_427 sh_90).trans (ax_gd ?_)
          refine (E_ic (v := (9999 : Int32)) c_233_428 (by decide)).trans ?_
          refine (E_br_gt (q := 449) c_233_431 rfl).trans (ax_ite ?_ ?_)
          · refine (E_l2 (v := (-9000000000000000002 : Int64)) c_233_449 (by decide)).trans ?_
            exact E_rL c_233_452 mi_233
          · refine (E_al c_233_434 rfl (by decide)).trans ?_
            refine (E_gfr (k := 19) (r := 90) c_233_435 sh_82 rfl rfl rfl).trans ?_
            refine (E_ic (v := (4 : Int32)) c_233_438 (by decide)).trans ?_
            refine (E_il c_233_439 rfl).trans ?_
            refine (E_iadd c_233_441).trans ?_
            refine (E_ial c_233_442 sh_90).trans (ax_gd ?_)
            refine (E_ic (v := (9999 : Int32)) c_233_443 (by decide)).trans ?_
            refine (E_br_le (q := 453) c_233_446 rfl).trans (ax_ite ?_ ?_)
            · refine (E_l2 (v := (-9000000000000000002 : Int64)) c_233_449 (by decide)).trans ?_
              exact E_rL c_233_452 mi_233
            · refine (E_al c_233_453 rfl (by decide)).trans ?_
              refine (E_gfr (k := 8) (r := 88) c_233_454 sh_82 rfl rfl rfl).trans ?_
              refine (E_ic (v := (0 : Int32)) c_233_457 (by decide)).trans ?_
              refine (E_ialk (k := 0) c_233_458 sh_88 (by decide) (by decide)).trans ?_
              refine (E_ic (v := (12 : Int32)) c_233_459 (by decide)).trans ?_
              refine (E_br_ne (q := 470) c_233_461 rfl).trans (ax_ite ?_ ?_)
              · refine (E_l2 (v := (-9000000000000000003 : Int64)) c_233_464 (by decide)).trans ?_
                refine (E_goto (q := 475) c_233_467 rfl).trans ?_
                exact E_rL c_233_475 mi_233
              · refine (E_al c_233_470 rfl (by decide)).trans ?_
                refine (E_cIV c_233_471 mi_226 rfl rfl (sO_kl sh_82) (Nat.le_of_ble_eq_true rfl) (Nat.le_of_ble_eq_true rfl)).trans (ax_bnd fun u6 => ?_)
                refine (E_i2l c_233_474).trans ?_
                exact E_rL c_233_475 mi_233
        · refine ev_sw1.trans (ax_ite ?_ ?_)
          · refine (E_al c_233_242 rfl (by decide)).trans ?_
            refine (E_gfr (k := 19) (r := 90) c_233_243 sh_82 rfl rfl rfl).trans ?_
            refine (E_ic (v := (4 : Int32)) c_233_246 (by decide)).trans ?_
            refine (E_il c_233_247 rfl).trans ?_
            refine (E_iadd c_233_249).trans ?_
            refine (E_dup2 c_233_250 ⟨rfl, rfl⟩).trans ?_
            refine (E_ial c_233_251 sh_90).trans (ax_gd ?_)
            refine (E_al c_233_252 rfl (by decide)).trans ?_
            refine (E_gfr (k := 19) (r := 90) c_233_253 sh_82 rfl rfl rfl).trans ?_
            refine (E_il c_233_256 rfl).trans ?_
            refine (E_ial c_233_258 sh_90).trans (ax_gd ?_)
            refine (E_iadd c_233_259).trans ?_
            refine (E_ias (v := ((σ.1 90 ((4 : Int32) + x6).toNatClampNeg) + (σ.1 90 ((4 : Int32) + x5).toNatClampNeg))) c_233_260 sh_90 rfl).trans (ax_gd ?_)
            refine (E_al c_233_261 rfl (by decide)).trans ?_
            refine (E_gfr (k := 19) (r := 90) c_233_262 sh_82 rfl rfl rfl).trans ?_
            refine (E_il c_233_265 rfl).trans ?_
            refine (E_ic (v := (0 : Int32)) c_233_267 (by decide)).trans ?_
            refine (E_ias (v := (0 : Int32)) c_233_268 sh_90 rfl).trans (ax_gd ?_)
            refine (E_al c_233_269 rfl (by decide)).trans ?_
            refine (E_gfr (k := 19) (r := 90) c_233_270 sh_82 rfl rfl rfl).trans ?_
            refine (E_ic (v := (3 : Int32)) c_233_273 (by decide)).trans ?_
            refine (E_dup2 c_233_274 ⟨rfl, rfl⟩).trans ?_
            refine (E_ialk (k := 3) c_233_275 sh_90 (by decide) (by decide)).trans ?_
            refine (E_al c_233_276 rfl (by decide)).trans ?_
            refine (E_gfr (k := 19) (r := 90) c_233_277 sh_82 rfl rfl rfl).trans ?_
            refine (E_ic (v := (3 : Int32)) c_233_280 (by decide)).trans ?_
            refine (E_ialk (k := 3) c_233_281 sh_90 (by decide) (by decide)).trans ?_
            refine (E_il c_233_282 rfl).trans ?_
            refine (E_ishr c_233_284).trans ?_
            refine (E_ic (v := (1 : Int32)) c_233_285 (by decide)).trans ?_
            refine (E_iand c_233_286).trans ?_
            refine (E_il c_233_287 rfl).trans ?_
            refine (E_ishl c_233_289).trans ?_
            refine (E_ior c_233_290).trans ?_
            refine (E_iask (k := 3) (v := (((sI (sI σ 90 ((4 : Int32) + x6).toNatClampNeg ((σ.1 90 ((4 : Int32) + x6).toNatClampNeg) + (σ.1 90 ((4 : Int32) + x5).toNatClampNeg))) 90 ((4 : Int32) + x5).toNatClampNeg (0 : Int32)).1 90 3) ||| (((((sI (sI σ 90 ((4 : Int32) + x6).toNatClampNeg ((σ.1 90 ((4 : Int32) + x6).toNatClampNeg) + (σ.1 90 ((4 : Int32) + x5).toNatClampNeg))) 90 ((4 : Int32) + x5).toNatClampNeg (0 : Int32)).1 90 3) >>> (x5 &&& 31)) &&& (1 : Int32)) <<< (x6 &&& 31)))) c_233_291 sh_90 rfl (by decide) (by decide)).trans ?_
            refine (E_al c_233_292 rfl (by decide)).trans ?_
            refine (E_gfr (k := 19) (r := 90) c_233_293 sh_82 rfl rfl rfl).trans ?_
            refine (E_ic (v := (3 : Int32)) c_233_296 (by decide)).trans ?_
            refine (E_dup2 c_233_297 ⟨rfl, rfl⟩).trans ?_
            refine (E_ialk (k := 3) c_233_298 sh_90 (by decide) (by decide)).trans ?_
            refine (E_ic (v := (1 : Int32)) c_233_299 (by decide)).trans ?_
            refine (E_il c_233_300 rfl).trans ?_
            refine (E_ishl c_233_302).trans ?_
            refine (E_ic (v := (-1 : Int32)) c_233_303 (by decide)).trans ?_
            refine (E_ixor c_233_304).trans ?_
            refine (E_iand c_233_305).trans ?_
            refine (E_iask (k := 3) (v := (((sI (sI (sI σ 90 ((4 : Int32) + x6).toNatClampNeg ((σ.1 90 ((4 : Int32) + x6).toNatClampNeg) + (σ.1 90 ((4 : Int32) + x5).toNatClampNeg))) 90 ((4 : Int32) + x5).toNatClampNeg (0 : Int32)) 90 3 (((sI (sI σ 90 ((4 : Int32) + x6).toNatClampNeg ((σ.1 90 ((4 : Int32) + x6).toNatClampNeg) + (σ.1 90 ((4 : Int32) + x5).toNatClampNeg))) 90 ((4 : Int32) + x5).toNatClampNeg (0 : Int32)).1 90 3) ||| (((((sI (sI σ 90 ((4 : Int32) + x6).toNatClampNeg ((σ.1 90 ((4 : Int32) + x6).toNatClampNeg) + (σ.1 90 ((4 : Int32) + x5).toNatClampNeg))) 90 ((4 : Int32) + x5).toNatClampNeg (0 : Int32)).1 90 3) >>> (x5 &&& 31)) &&& (1 : Int32)) <<< (x6 &&& 31)))).1 90 3) &&& (((1 : Int32) <<< (x5 &&& 31)) ^^^ (-1 : Int32)))) c_233_306 sh_90 rfl (by decide) (by decide)).trans ?_
            refine (E_al c_233_307 rfl (by decide)).trans ?_
            refine (E_gfr (k := 19) (r := 90) c_233_308 sh_82 rfl rfl rfl).trans ?_
            refine (E_ic (v := (4 : Int32)) c_233_311 (by decide)).trans ?_
            refine (E_il c_233_312 rfl).trans ?_
            refine (E_iadd c_233_314).trans ?_
            refine (E_al c_233_315 rfl (by decide)).trans ?_
            refine (E_gfr (k := 19) (r := 90) c_233_316 sh_82 rfl rfl rfl).trans ?_
            refine (E_ic (v := (3 : Int32)) c_233_319 (by decide)).trans ?_
            refine (E_ialk (k := 3) c_233_320 sh_90 (by decide) (by decide)).trans ?_
            refine (E_il c_233_321 rfl).trans ?_
            refine (E_ishr c_233_323).trans ?_
            refine (E_ic (v := (1 : Int32)) c_233_324 (by decide)).trans ?_
            refine (E_iand c_233_325).trans ?_
            refine (E_ic (v := (1 : Int32)) c_233_326 (by decide)).trans ?_
            refine (E_br_ne (q := 334) c_233_327 rfl).trans (ax_ite ?_ ?_)
            · refine (E_ic (v := (0 : Int32)) c_233_330 (by decide)).trans ?_
              refine (E_goto (q := 343) c_233_331 rfl).trans ?_
              refine (E_ias (v := (0 : Int32)) c_233_343 sh_90 rfl).trans (ax_gd ?_)
              refine (E_goto (q := 421) c_233_344 rfl).trans ?_
              refine (E_al c_233_421 rfl (by decide)).trans ?_
              refine (E_gfr (k := 19) (r := 90) c_233_422 sh_82 rfl rfl rfl).trans ?_
              refine (E_il c_233_425 rfl).trans ?_
              refine (E_ial c_233_427 sh_90).trans (ax_gd ?_)
              refine (E_ic (v := (9999 : Int32)) c_233_428 (by decide)).trans ?_
              refine (E_br_gt (q := 449) c_233_431 rfl).trans (ax_ite ?_ ?_)
              · refine (E_l2 (v := (-9000000000000000002 : Int64)) c_233_449 (by decide)).trans ?_
                exact E_rL c_233_452 mi_233
              · refine (E_al c_233_434 rfl (by decide)).trans ?_
                refine (E_gfr (k := 19) (r := 90) c_233_435 sh_82 rfl rfl rfl).trans ?_
                refine (E_ic (v := (4 : Int32)) c_233_438 (by decide)).trans ?_
                refine (E_il c_233_439 rfl).trans ?_
                refine (E_iadd c_233_441).trans ?_
                refine (E_ial c_233_442 sh_90).trans (ax_gd ?_)
                refine (E_ic (v := (9999 : Int32)) c_233_443 (by decide)).trans ?_
                refine (E_br_le (q := 453) c_233_446 rfl).trans (ax_ite ?_ ?_)
                · refine (E_l2 (v := (-9000000000000000002 : Int64)) c_233_449 (by decide)).trans ?_
                  exact E_rL c_233_452 mi_233
                · refine (E_al c_233_453 rfl (by decide)).trans ?_
                  refine (E_gfr (k := 8) (r := 88) c_233_454 sh_82 rfl rfl rfl).trans ?_
                  refine (E_ic (v := (0 : Int32)) c_233_457 (by decide)).trans ?_
                  refine (E_ialk (k := 0) c_233_458 sh_88 (by decide) (by decide)).trans ?_
                  refine (E_ic (v := (12 : Int32)) c_233_459 (by decide)).trans ?_
                  refine (E_br_ne (q := 470) c_233_461 rfl).trans (ax_ite ?_ ?_)
                  · refine (E_l2 (v := (-9000000000000000003 : Int64)) c_233_464 (by decide)).trans ?_
                    refine (E_goto (q := 475) c_233_467 rfl).trans ?_
                    exact E_rL c_233_475 mi_233
                  · refine (E_al c_233_470 rfl (by decide)).trans ?_
                    refine (E_cIV c_233_471 mi_226 rfl rfl (sO_kl sh_82) (Nat.le_of_ble_eq_true rfl) (Nat.le_of_ble_eq_true rfl)).trans (ax_bnd fun u7 => ?_)
                    refine (E_i2l c_233_474).trans ?_
                    exact E_rL c_233_475 mi_233
            · refine (E_al c_233_334 rfl (by decide)).trans ?_
              refine (E_gfr (k := 19) (r := 90) c_233_335 sh_82 rfl rfl rfl).trans ?_
              refine (E_ic (v := (4 : Int32)) c_233_338 (by decide)).trans ?_
              refine (E_il c_233_339 rfl).trans ?_
              refine (E_iadd c_233_341).trans ?_
              refine (E_ial c_233_342 sh_90).trans (ax_gd ?_)
              refine (E_ias (v := ((sI (sI (sI (sI σ 90 ((4 : Int32) + x6).toNatClampNeg ((σ.1 90 ((4 : Int32) + x6).toNatClampNeg) + (σ.1 90 ((4 : Int32) + x5).toNatClampNeg))) 90 ((4 : Int32) + x5).toNatClampNeg (0 : Int32)) 90 3 (((sI (sI σ 90 ((4 : Int32) + x6).toNatClampNeg ((σ.1 90 ((4 : Int32) + x6).toNatClampNeg) + (σ.1 90 ((4 : Int32) + x5).toNatClampNeg))) 90 ((4 : Int32) + x5).toNatClampNeg (0 : Int32)).1 90 3) ||| (((((sI (sI σ 90 ((4 : Int32) + x6).toNatClampNeg ((σ.1 90 ((4 : Int32) + x6).toNatClampNeg) + (σ.1 90 ((4 : Int32) + x5).toNatClampNeg))) 90 ((4 : Int32) + x5).toNatClampNeg (0 : Int32)).1 90 3) >>> (x5 &&& 31)) &&& (1 : Int32)) <<< (x6 &&& 31)))) 90 3 (((sI (sI (sI σ 90 ((4 : Int32) + x6).toNatClampNeg ((σ.1 90 ((4 : Int32) + x6).toNatClampNeg) + (σ.1 90 ((4 : Int32) + x5).toNatClampNeg))) 90 ((4 : Int32) + x5).toNatClampNeg (0 : Int32)) 90 3 (((sI (sI σ 90 ((4 : Int32) + x6).toNatClampNeg ((σ.1 90 ((4 : Int32) + x6).toNatClampNeg) + (σ.1 90 ((4 : Int32) + x5).toNatClampNeg))) 90 ((4 : Int32) + x5).toNatClampNeg (0 : Int32)).1 90 3) ||| (((((sI (sI σ 90 ((4 : Int32) + x6).toNatClampNeg ((σ.1 90 ((4 : Int32) + x6).toNatClampNeg) + (σ.1 90 ((4 : Int32) + x5).toNatClampNeg))) 90 ((4 : Int32) + x5).toNatClampNeg (0 : Int32)).1 90 3) >>> (x5 &&& 31)) &&& (1 : Int32)) <<< (x6 &&& 31)))).1 90 3) &&& (((1 : Int32) <<< (x5 &&& 31)) ^^^ (-1 : Int32)))).1 90 ((4 : Int32) + x6).toNatClampNeg)) c_233_343 sh_90 rfl).trans (ax_gd ?_)
              refine (E_goto (q := 421) c_233_344 rfl).trans ?_
              refine (E_al c_233_421 rfl (by decide)).trans ?_
              refine (E_gfr (k := 19) (r := 90) c_233_422 sh_82 rfl rfl rfl).trans ?_
              refine (E_il c_233_425 rfl).trans ?_
              refine (E_ial c_233_427 sh_90).trans (ax_gd ?_)
              refine (E_ic (v := (9999 : Int32)) c_233_428 (by decide)).trans ?_
              refine (E_br_gt (q := 449) c_233_431 rfl).trans (ax_ite ?_ ?_)
              · refine (E_l2 (v := (-9000000000000000002 : Int64)) c_233_449 (by decide)).trans ?_
                exact E_rL c_233_452 mi_233
              · refine (E_al c_233_434 rfl (by decide)).trans ?_
                refine (E_gfr (k := 19) (r := 90) c_233_435 sh_82 rfl rfl rfl).trans ?_
                refine (E_ic (v := (4 : Int32)) c_233_438 (by decide)).trans ?_
                refine (E_il c_233_439 rfl).trans ?_
                refine (E_iadd c_233_441).trans ?_
                refine (E_ial c_233_442 sh_90).trans (ax_gd ?_)
                refine (E_ic (v := (9999 : Int32)) c_233_443 (by decide)).trans ?_
                refine (E_br_le (q := 453) c_233_446 rfl).trans (ax_ite ?_ ?_)
                · refine (E_l2 (v := (-9000000000000000002 : Int64)) c_233_449 (by decide)).trans ?_
                  exact E_rL c_233_452 mi_233
                · refine (E_al c_233_453 rfl (by decide)).trans ?_
                  refine (E_gfr (k := 8) (r := 88) c_233_454 sh_82 rfl rfl rfl).trans ?_
                  refine (E_ic (v := (0 : Int32)) c_233_457 (by decide)).trans ?_
                  refine (E_ialk (k := 0) c_233_458 sh_88 (by decide) (by decide)).trans ?_
                  refine (E_ic (v := (12 : Int32)) c_233_459 (by decide)).trans ?_
                  refine (E_br_ne (q := 470) c_233_461 rfl).trans (ax_ite ?_ ?_)
                  · refine (E_l2 (v := (-9000000000000000003 : Int64)) c_233_464 (by decide)).trans ?_
                    refine (E_goto (q := 475) c_233_467 rfl).trans ?_
                    exact E_rL c_233_475 mi_233
                  · refine (E_al c_233_470 rfl (by decide)).trans ?_
                    refine (E_cIV c_233_471 mi_226 rfl rfl (sO_kl sh_82) (Nat.le_of_ble_eq_true rfl) (Nat.le_of_ble_eq_true rfl)).trans (ax_bnd fun u8 => ?_)
                    refine (E_i2l c_233_474).trans ?_
                    exact E_rL c_233_475 mi_233
          · refine ev_sw1.trans (ax_ite ?_ ?_)
            · refine (E_al c_233_347 rfl (by decide)).trans ?_
              refine (E_gfr (k := 19) (r := 90) c_233_348 sh_82 rfl rfl rfl).trans ?_
              refine (E_ic (v := (12 : Int32)) c_233_351 (by decide)).trans ?_
              refine (E_dup2 c_233_353 ⟨rfl, rfl⟩).trans ?_
              refine (E_ialk (k := 12) c_233_354 sh_90 (by decide) (by decide)).trans ?_
              refine (E_al c_233_355 rfl (by decide)).trans ?_
              refine (E_gfr (k := 19) (r := 90) c_233_356 sh_82 rfl rfl rfl).trans ?_
              refine (E_ic (v := (12 : Int32)) c_233_359 (by decide)).trans ?_
              refine (E_ialk (k := 12) c_233_361 sh_90 (by decide) (by decide)).trans ?_
              refine (E_ic (v := (9 : Int32)) c_233_362 (by decide)).trans ?_
              refine (E_br_ge (q := 381) c_233_364 rfl).trans (ax_ite ?_ ?_)
              · refine (E_al c_233_367 rfl (by decide)).trans ?_
                refine (E_il c_233_368 rfl).trans ?_
                refine (E_ic (v := (8 : Int32)) c_233_369 (by decide)).trans ?_
                refine (E_cIV c_233_371 mi_234 rfl rfl (sO_kl sh_82) (Nat.le_of_ble_eq_true rfl) (Nat.le_of_ble_eq_true rfl)).trans (ax_bnd fun u9 => ?_)
                refine (E_b0_eq (q := 381) c_233_374 rfl).trans (ax_ite ?_ ?_)
                · refine (E_ic (v := (0 : Int32)) c_233_381 (by decide)).trans ?_
                  refine (E_iadd c_233_382).trans ?_
                  refine (E_iask (k := 12) (v := ((σ.1 90 12) + (0 : Int32))) c_233_383 sh_90 rfl (by decide) (by decide)).trans ?_
                  refine (E_goto (q := 421) c_233_384 rfl).trans ?_
                  refine (E_al c_233_421 rfl (by decide)).trans ?_
                  refine (E_gfr (k := 19) (r := 90) c_233_422 sh_82 rfl rfl rfl).trans ?_
                  refine (E_il c_233_425 rfl).trans ?_
                  refine (E_ial c_233_427 sh_90).trans (ax_gd ?_)
                  refine (E_ic (v := (9999 : Int32)) c_233_428 (by decide)).trans ?_
                  refine (E_br_gt (q := 449) c_233_431 rfl).trans (ax_ite ?_ ?_)
                  · refine (E_l2 (v := (-9000000000000000002 : Int64)) c_233_449 (by decide)).trans ?_
                    exact E_rL c_233_452 mi_233
                  · refine (E_al c_233_434 rfl (by decide)).trans ?_
                    refine (E_gfr (k := 19) (r := 90) c_233_435 sh_82 rfl rfl rfl).trans ?_
                    refine (E_ic (v := (4 : Int32)) c_233_438 (by decide)).trans ?_
                    refine (E_il c_233_439 rfl).trans ?_
                    refine (E_iadd c_233_441).trans ?_
                    refine (E_ial c_233_442 sh_90).trans (ax_gd ?_)
                    refine (E_ic (v := (9999 : Int32)) c_233_443 (by decide)).trans ?_
                    refine (E_br_le (q := 453) c_233_446 rfl).trans (ax_ite ?_ ?_)
                    · refine (E_l2 (v := (-9000000000000000002 : Int64)) c_233_449 (by decide)).trans ?_
                      exact E_rL c_233_452 mi_233
                    · refine (E_al c_233_453 rfl (by decide)).trans ?_
                      refine (E_gfr (k := 8) (r := 88) c_233_454 sh_82 rfl rfl rfl).trans ?_
                      refine (E_ic (v := (0 : Int32)) c_233_457 (by decide)).trans ?_
                      refine (E_ialk (k := 0) c_233_458 sh_88 (by decide) (by decide)).trans ?_
                      refine (E_ic (v := (12 : Int32)) c_233_459 (by decide)).trans ?_
                      refine (E_br_ne (q := 470) c_233_461 rfl).trans (ax_ite ?_ ?_)
                      · refine (E_l2 (v := (-9000000000000000003 : Int64)) c_233_464 (by decide)).trans ?_
                        refine (E_goto (q := 475) c_233_467 rfl).trans ?_
                        exact E_rL c_233_475 mi_233
                      · refine (E_al c_233_470 rfl (by decide)).trans ?_
                        refine (E_cIV c_233_471 mi_226 rfl rfl (sO_kl sh_82) (Nat.le_of_ble_eq_true rfl) (Nat.le_of_ble_eq_true rfl)).trans (ax_bnd fun u10 => ?_)
                        refine (E_i2l c_233_474).trans ?_
                        exact E_rL c_233_475 mi_233
                · refine (E_ic (v := (1 : Int32)) c_233_377 (by decide)).trans ?_
                  refine (E_goto (q := 382) c_233_378 rfl).trans ?_
                  refine (E_iadd c_233_382).trans ?_
                  refine (E_iask (k := 12) (v := ((σ.1 90 12) + (1 : Int32))) c_233_383 sh_90 rfl (by decide) (by decide)).trans ?_
                  refine (E_goto (q := 421) c_233_384 rfl).trans ?_
                  refine (E_al c_233_421 rfl (by decide)).trans ?_
                  refine (E_gfr (k := 19) (r := 90) c_233_422 sh_82 rfl rfl rfl).trans ?_
                  refine (E_il c_233_425 rfl).trans ?_
                  refine (E_ial c_233_427 sh_90).trans (ax_gd ?_)
                  refine (E_ic (v := (9999 : Int32)) c_233_428 (by decide)).trans ?_
                  refine (E_br_gt (q := 449) c_233_431 rfl).trans (ax_ite ?_ ?_)
                  · refine (E_l2 (v := (-9000000000000000002 : Int64)) c_233_449 (by decide)).trans ?_
                    exact E_rL c_233_452 mi_233
                  · refine (E_al c_233_434 rfl (by decide)).trans ?_
                    refine (E_gfr (k := 19) (r := 90) c_233_435 sh_82 rfl rfl rfl).trans ?_
                    refine (E_ic (v := (4 : Int32)) c_233_438 (by decide)).trans ?_
                    refine (E_il c_233_439 rfl).trans ?_
                    refine (E_iadd c_233_441).trans ?_
                    refine (E_ial c_233_442 sh_90).trans (ax_gd ?_)
                    refine (E_ic (v := (9999 : Int32)) c_233_443 (by decide)).trans ?_
                    refine (E_br_le (q := 453) c_233_446 rfl).trans (ax_ite ?_ ?_)
                    · refine (E_l2 (v := (-9000000000000000002 : Int64)) c_233_449 (by decide)).trans ?_
                      exact E_rL c_233_452 mi_233
                    · refine (E_al c_233_453 rfl (by decide)).trans ?_
                      refine (E_gfr (k := 8) (r := 88) c_233_454 sh_82 rfl rfl rfl).trans ?_
                      refine (E_ic (v := (0 : Int32)) c_233_457 (by decide)).trans ?_
                      refine (E_ialk (k := 0) c_233_458 sh_88 (by decide) (by decide)).trans ?_
                      refine (E_ic (v := (12 : Int32)) c_233_459 (by decide)).trans ?_
                      refine (E_br_ne (q := 470) c_233_461 rfl).trans (ax_ite ?_ ?_)
                      · refine (E_l2 (v := (-9000000000000000003 : Int64)) c_233_464 (by decide)).trans ?_
                        refine (E_goto (q := 475) c_233_467 rfl).trans ?_
                        exact E_rL c_233_475 mi_233
                      · refine (E_al c_233_470 rfl (by decide)).trans ?_
                        refine (E_cIV c_233_471 mi_226 rfl rfl (sO_kl sh_82) (Nat.le_of_ble_eq_true rfl) (Nat.le_of_ble_eq_true rfl)).trans (ax_bnd fun u11 => ?_)
                        refine (E_i2l c_233_474).trans ?_
                        exact E_rL c_233_475 mi_233
              · refine (E_ic (v := (0 : Int32)) c_233_381 (by decide)).trans ?_
                refine (E_iadd c_233_382).trans ?_
                refine (E_iask (k := 12) (v := ((σ.1 90 12) + (0 : Int32))) c_233_383 sh_90 rfl (by decide) (by decide)).trans ?_
                refine (E_goto (q := 421) c_233_384 rfl).trans ?_
                refine (E_al c_233_421 rfl (by decide)).trans ?_
                refine (E_gfr (k := 19) (r := 90) c_233_422 sh_82 rfl rfl rfl).trans ?_
                refine (E_il c_233_425 rfl).trans ?_
                refine (E_ial c_233_427 sh_90).trans (ax_gd ?_)
                refine (E_ic (v := (9999 : Int32)) c_233_428 (by decide)).trans ?_
                refine (E_br_gt (q := 449) c_233_431 rfl).trans (ax_ite ?_ ?_)
                · refine (E_l2 (v := (-9000000000000000002 : Int64)) c_233_449 (by decide)).trans ?_
                  exact E_rL c_233_452 mi_233
                · refine (E_al c_233_434 rfl (by decide)).trans ?_
                  refine (E_gfr (k := 19) (r := 90) c_233_435 sh_82 rfl rfl rfl).trans ?_
                  refine (E_ic (v := (4 : Int32)) c_233_438 (by decide)).trans ?_
                  refine (E_il c_233_439 rfl).trans ?_
                  refine (E_iadd c_233_441).trans ?_
                  refine (E_ial c_233_442 sh_90).trans (ax_gd ?_)
                  refine (E_ic (v := (9999 : Int32)) c_233_443 (by decide)).trans ?_
                  refine (E_br_le (q := 453) c_233_446 rfl).trans (ax_ite ?_ ?_)
                  · refine (E_l2 (v := (-9000000000000000002 : Int64)) c_233_449 (by decide)).trans ?_
                    exact E_rL c_233_452 mi_233
                  · refine (E_al c_233_453 rfl (by decide)).trans ?_
                    refine (E_gfr (k := 8) (r := 88) c_233_454 sh_82 rfl rfl rfl).trans ?_
                    refine (E_ic (v := (0 : Int32)) c_233_457 (by decide)).trans ?_
                    refine (E_ialk (k := 0) c_233_458 sh_88 (by decide) (by decide)).trans ?_
                    refine (E_ic (v := (12 : Int32)) c_233_459 (by decide)).trans ?_
                    refine (E_br_ne (q := 470) c_233_461 rfl).trans (ax_ite ?_ ?_)
                    · refine (E_l2 (v := (-9000000000000000003 : Int64)) c_233_464 (by decide)).trans ?_
                      refine (E_goto (q := 475) c_233_467 rfl).trans ?_
                      exact E_rL c_233_475 mi_233
                    · refine (E_al c_233_470 rfl (by decide)).trans ?_
                      refine (E_cIV c_233_471 mi_226 rfl rfl (sO_kl sh_82) (Nat.le_of_ble_eq_true rfl) (Nat.le_of_ble_eq_true rfl)).trans (ax_bnd fun u12 => ?_)
                      refine (E_i2l c_233_474).trans ?_
                      exact E_rL c_233_475 mi_233
            · refine ev_sw1.trans (ax_ite ?_ ?_)
              · refine (E_al c_233_387 rfl (by decide)).trans ?_
                refine (E_gfr (k := 19) (r := 90) c_233_388 sh_82 rfl rfl rfl).trans ?_
                refine (E_ic (v := (13 : Int32)) c_233_391 (by decide)).trans ?_
                refine (E_al c_233_393 rfl (by decide)).trans ?_
                refine (E_gfr (k := 19) (r := 90) c_233_394 sh_82 rfl rfl rfl).trans ?_
                refine (E_ic (v := (13 : Int32)) c_233_397 (by decide)).trans ?_
                refine (E_ialk (k := 13) c_233_399 sh_90 (by decide) (by decide)).trans ?_
                refine (E_ic (v := (5 : Int32)) c_233_400 (by decide)).trans ?_
                refine (E_br_ge (q := 408) c_233_401 rfl).trans (ax_ite ?_ ?_)
                · refine (E_ic (v := (0 : Int32)) c_233_404 (by decide)).trans ?_
                  refine (E_goto (q := 417) c_233_405 rfl).trans ?_
                  refine (E_iask (k := 13) (v := (0 : Int32)) c_233_417 sh_90 rfl (by decide) (by decide)).trans ?_
                  refine (E_goto (q := 421) c_233_418 rfl).trans ?_
                  refine (E_al c_233_421 rfl (by decide)).trans ?_
                  refine (E_gfr (k := 19) (r := 90) c_233_422 sh_82 rfl rfl rfl).trans ?_
                  refine (E_il c_233_425 rfl).trans ?_
                  refine (E_ial c_233_427 sh_90).trans (ax_gd ?_)
                  refine (E_ic (v := (9999 : Int32)) c_233_428 (by decide)).trans ?_
                  refine (E_br_gt (q := 449) c_233_431 rfl).trans (ax_ite ?_ ?_)
                  · refine (E_l2 (v := (-9000000000000000002 : Int64)) c_233_449 (by decide)).trans ?_
                    exact E_rL c_233_452 mi_233
                  · refine (E_al c_233_434 rfl (by decide)).trans ?_
                    refine (E_gfr (k := 19) (r := 90) c_233_435 sh_82 rfl rfl rfl).trans ?_
                    refine (E_ic (v := (4 : Int32)) c_233_438 (by decide)).trans ?_
                    refine (E_il c_233_439 rfl).trans ?_
                    refine (E_iadd c_233_441).trans ?_
                    refine (E_ial c_233_442 sh_90).trans (ax_gd ?_)
                    refine (E_ic (v := (9999 : Int32)) c_233_443 (by decide)).trans ?_
                    refine (E_br_le (q := 453) c_233_446 rfl).trans (ax_ite ?_ ?_)
                    · refine (E_l2 (v := (-9000000000000000002 : Int64)) c_233_449 (by decide)).trans ?_
                      exact E_rL c_233_452 mi_233
                    · refine (E_al c_233_453 rfl (by decide)).trans ?_
                      refine (E_gfr (k := 8) (r := 88) c_233_454 sh_82 rfl rfl rfl).trans ?_
                      refine (E_ic (v := (0 : Int32)) c_233_457 (by decide)).trans ?_
                      refine (E_ialk (k := 0) c_233_458 sh_88 (by decide) (by decide)).trans ?_
                      refine (E_ic (v := (12 : Int32)) c_233_459 (by decide)).trans ?_
                      refine (E_br_ne (q := 470) c_233_461 rfl).trans (ax_ite ?_ ?_)
                      · refine (E_l2 (v := (-9000000000000000003 : Int64)) c_233_464 (by decide)).trans ?_
                        refine (E_goto (q := 475) c_233_467 rfl).trans ?_
                        exact E_rL c_233_475 mi_233
                      · refine (E_al c_233_470 rfl (by decide)).trans ?_
                        refine (E_cIV c_233_471 mi_226 rfl rfl (sO_kl sh_82) (Nat.le_of_ble_eq_true rfl) (Nat.le_of_ble_eq_true rfl)).trans (ax_bnd fun u13 => ?_)
                        refine (E_i2l c_233_474).trans ?_
                        exact E_rL c_233_475 mi_233
                · refine (E_al c_233_408 rfl (by decide)).trans ?_
                  refine (E_gfr (k := 19) (r := 90) c_233_409 sh_82 rfl rfl rfl).trans ?_
                  refine (E_ic (v := (13 : Int32)) c_233_412 (by decide)).trans ?_
                  refine (E_ialk (k := 13) c_233_414 sh_90 (by decide) (by decide)).trans ?_
                  refine (E_ic (v := (5 : Int32)) c_233_415 (by decide)).trans ?_
                  refine (E_isub c_233_416).trans ?_
                  refine (E_iask (k := 13) (v := ((σ.1 90 13) - (5 : Int32))) c_233_417 sh_90 rfl (by decide) (by decide)).trans ?_
                  refine (E_goto (q := 421) c_233_418 rfl).trans ?_
                  refine (E_al c_233_421 rfl (by decide)).trans ?_
                  refine (E_gfr (k := 19) (r := 90) c_233_422 sh_82 rfl rfl rfl).trans ?_
                  refine (E_il c_233_425 rfl).trans ?_
                  refine (E_ial c_233_427 sh_90).trans (ax_gd ?_)
                  refine (E_ic (v := (9999 : Int32)) c_233_428 (by decide)).trans ?_
                  refine (E_br_gt (q := 449) c_233_431 rfl).trans (ax_ite ?_ ?_)
                  · refine (E_l2 (v := (-9000000000000000002 : Int64)) c_233_449 (by decide)).trans ?_
                    exact E_rL c_233_452 mi_233
                  · refine (E_al c_233_434 rfl (by decide)).trans ?_
                    refine (E_gfr (k := 19) (r := 90) c_233_435 sh_82 rfl rfl rfl).trans ?_
                    refine (E_ic (v := (4 : Int32)) c_233_438 (by decide)).trans ?_
                    refine (E_il c_233_439 rfl).trans ?_
                    refine (E_iadd c_233_441).trans ?_
                    refine (E_ial c_233_442 sh_90).trans (ax_gd ?_)
                    refine (E_ic (v := (9999 : Int32)) c_233_443 (by decide)).trans ?_
                    refine (E_br_le (q := 453) c_233_446 rfl).trans (ax_ite ?_ ?_)
                    · refine (E_l2 (v := (-9000000000000000002 : Int64)) c_233_449 (by decide)).trans ?_
                      exact E_rL c_233_452 mi_233
                    · refine (E_al c_233_453 rfl (by decide)).trans ?_
                      refine (E_gfr (k := 8) (r := 88) c_233_454 sh_82 rfl rfl rfl).trans ?_
                      refine (E_ic (v := (0 : Int32)) c_233_457 (by decide)).trans ?_
                      refine (E_ialk (k := 0) c_233_458 sh_88 (by decide) (by decide)).trans ?_
                      refine (E_ic (v := (12 : Int32)) c_233_459 (by decide)).trans ?_
                      refine (E_br_ne (q := 470) c_233_461 rfl).trans (ax_ite ?_ ?_)
                      · refine (E_l2 (v := (-9000000000000000003 : Int64)) c_233_464 (by decide)).trans ?_
                        refine (E_goto (q := 475) c_233_467 rfl).trans ?_
                        exact E_rL c_233_475 mi_233
                      · refine (E_al c_233_470 rfl (by decide)).trans ?_
                        refine (E_cIV c_233_471 mi_226 rfl rfl (sO_kl sh_82) (Nat.le_of_ble_eq_true rfl) (Nat.le_of_ble_eq_true rfl)).trans (ax_bnd fun u14 => ?_)
                        refine (E_i2l c_233_474).trans ?_
                        exact E_rL c_233_475 mi_233
              · refine ev_sw0.trans ?_
                refine (E_al c_233_421 rfl (by decide)).trans ?_
                refine (E_gfr (k := 19) (r := 90) c_233_422 sh_82 rfl rfl rfl).trans ?_
                refine (E_il c_233_425 rfl).trans ?_
                refine (E_ial c_233_427 sh_90).trans (ax_gd ?_)
                refine (E_ic (v := (9999 : Int32)) c_233_428 (by decide)).trans ?_
                refine (E_br_gt (q := 449) c_233_431 rfl).trans (ax_ite ?_ ?_)
                · refine (E_l2 (v := (-9000000000000000002 : Int64)) c_233_449 (by decide)).trans ?_
                  exact E_rL c_233_452 mi_233
                · refine (E_al c_233_434 rfl (by decide)).trans ?_
                  refine (E_gfr (k := 19) (r := 90) c_233_435 sh_82 rfl rfl rfl).trans ?_
                  refine (E_ic (v := (4 : Int32)) c_233_438 (by decide)).trans ?_
                  refine (E_il c_233_439 rfl).trans ?_
                  refine (E_iadd c_233_441).trans ?_
                  refine (E_ial c_233_442 sh_90).trans (ax_gd ?_)
                  refine (E_ic (v := (9999 : Int32)) c_233_443 (by decide)).trans ?_
                  refine (E_br_le (q := 453) c_233_446 rfl).trans (ax_ite ?_ ?_)
                  · refine (E_l2 (v := (-9000000000000000002 : Int64)) c_233_449 (by decide)).trans ?_
                    exact E_rL c_233_452 mi_233
                  · refine (E_al c_233_453 rfl (by decide)).trans ?_
                    refine (E_gfr (k := 8) (r := 88) c_233_454 sh_82 rfl rfl rfl).trans ?_
                    refine (E_ic (v := (0 : Int32)) c_233_457 (by decide)).trans ?_
                    refine (E_ialk (k := 0) c_233_458 sh_88 (by decide) (by decide)).trans ?_
                    refine (E_ic (v := (12 : Int32)) c_233_459 (by decide)).trans ?_
                    refine (E_br_ne (q := 470) c_233_461 rfl).trans (ax_ite ?_ ?_)
                    · refine (E_l2 (v := (-9000000000000000003 : Int64)) c_233_464 (by decide)).trans ?_
                      refine (E_goto (q := 475) c_233_467 rfl).trans ?_
                      exact E_rL c_233_475 mi_233
                    · refine (E_al c_233_470 rfl (by decide)).trans ?_
                      refine (E_cIV c_233_471 mi_226 rfl rfl (sO_kl sh_82) (Nat.le_of_ble_eq_true rfl) (Nat.le_of_ble_eq_true rfl)).trans (ax_bnd fun u15 => ?_)
                      refine (E_i2l c_233_474).trans ?_
                      exact E_rL c_233_475 mi_233
