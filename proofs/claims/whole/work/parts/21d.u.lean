set_option maxHeartbeats 4000000 in
theorem u_23_1 (d : Nat) (σ : ax_S) (x1 : Int32) : ev sO (d + 1) 23 0 [.ref 1, .int x1] [] σ = (cI sO d 13 [.int x1] σ).bind fun u0 => if u0.1 = 0 then (some (some (.int (0 : Int32)), u0.2)) else (gd (0 ≤ x1.toInt ∧ x1.toInt < (8 : Nat)) (some (some (.int (u0.2.1 2 x1.toNatClampNeg)), u0.2))) := by
  refine (E_il c_23_0 rfl).trans ?_
  refine (E_cIS c_23_1 mi_13 rfl rfl (Nat.le_of_ble_eq_true rfl) (Nat.le_of_ble_eq_true rfl)).trans (ax_bnd fun u0 => ?_)
  refine (E_b0_eq (q := 16) c_23_4 rfl).trans (ax_ite ?_ ?_)
  · refine (E_ic (v := (0 : Int32)) c_23_16 (by decide)).trans ?_
    exact E_rI c_23_17 mi_23
  · refine (E_al c_23_7 rfl (by decide)).trans ?_
    refine (E_gfr (k := 0) (r := 2) c_23_8 sh_1 rfl rfl rfl).trans ?_
    refine (E_il c_23_11 rfl).trans ?_
    refine (E_ial c_23_12 sh_2).trans (ax_gd ?_)
    refine (E_goto (q := 17) c_23_13 rfl).trans ?_
    exact E_rI c_23_17 mi_23
set_option maxHeartbeats 4000000 in
theorem u_24_1 (d : Nat) (σ : ax_S) (x1 : Int32) (x2 : Int32) (x3 : Int32) (x4 : Int32) (x5 : Int32) (hcp46 : cpOk 320 320 ((x1 * (40 : Int32)) + x2) ((x3 * (40 : Int32)) + x4) x5) : ev sO (d + 3) 24 0 [.ref 1, .int x1, .int x2, .int x3, .int x4, .int x5] [] σ = (cI sO (d + 2) 20 [.ref 1, .int x1, .int x2, .int x5] σ).bind fun u0 => if u0.1 = 0 then (some (none, u0.2)) else ((cI sO (d + 2) 20 [.ref 1, .int x3, .int x4, .int x5] u0.2).bind fun u1 => if u1.1 = 0 then (some (none, u1.2)) else (some (none, (sR u1.2 4 (va_cpy (u1.2.1 4) (u1.2.1 4) ((x1 * (40 : Int32)) + x2).toNatClampNeg ((x3 * (40 : Int32)) + x4).toNatClampNeg x5.toNatClampNeg))))) := by
  refine (E_al c_24_0 rfl (by decide)).trans ?_
  refine (E_il c_24_1 rfl).trans ?_
  refine (E_il c_24_2 rfl).trans ?_
  refine (E_il c_24_3 rfl).trans ?_
  refine (E_cIV c_24_5 mi_20 rfl rfl (sO_kl sh_1) (Nat.le_of_ble_eq_true rfl) (Nat.le_of_ble_eq_true rfl)).trans (ax_bnd fun u0 => ?_)
  refine (E_b0_eq (q := 49) c_24_8 rfl).trans (ax_ite ?_ ?_)
  · exact E_rV c_24_49 mi_24
  · refine (E_al c_24_11 rfl (by decide)).trans ?_
    refine (E_il c_24_12 rfl).trans ?_
    refine (E_il c_24_13 rfl).trans ?_
    refine (E_il c_24_15 rfl).trans ?_
    refine (E_cIV c_24_17 mi_20 rfl rfl (sO_kl sh_1) (Nat.le_of_ble_eq_true rfl) (Nat.le_of_ble_eq_true rfl)).trans (ax_bnd fun u1 => ?_)
    refine (E_b0_eq (q := 49) c_24_20 rfl).trans (ax_ite ?_ ?_)
    · exact E_rV c_24_49 mi_24
    · refine (E_al c_24_23 rfl (by decide)).trans ?_
      refine (E_gfr (k := 2) (r := 4) c_24_24 sh_1 rfl rfl rfl).trans ?_
      refine (E_il c_24_27 rfl).trans ?_
      refine (E_ic (v := (40 : Int32)) c_24_28 (by decide)).trans ?_
      refine (E_imul c_24_30).trans ?_
      refine (E_il c_24_31 rfl).trans ?_
      refine (E_iadd c_24_32).trans ?_
      refine (E_al c_24_33 rfl (by decide)).trans ?_
      refine (E_gfr (k := 2) (r := 4) c_24_34 sh_1 rfl rfl rfl).trans ?_
      refine (E_il c_24_37 rfl).trans ?_
      refine (E_ic (v := (40 : Int32)) c_24_38 (by decide)).trans ?_
      refine (E_imul c_24_40).trans ?_
      refine (E_il c_24_41 rfl).trans ?_
      refine (E_iadd c_24_43).trans ?_
      refine (E_il c_24_44 rfl).trans ?_
      refine (E_cpy c_24_46 sh_4 sh_4 (Nat.le_of_ble_eq_true rfl) hcp46).trans ?_
      exact E_rV c_24_49 mi_24
set_option maxHeartbeats 4000000 in
theorem u_26_1 (d : Nat) (σ : ax_S) (x1 : Int32) : ev sO (d + 2) 26 0 [.ref 1, .int x1, .null] [] σ = (cI sO (d + 1) 19 [.ref 1, .int x1] σ).bind fun u0 => (cI sO (d + 1) 13 [.int x1] u0.2).bind fun u1 => if u1.1 = 0 then (some (some (.int u0.1), u1.2)) else (gd (0 ≤ x1.toInt ∧ x1.toInt < (8 : Nat)) (some (some (.int u0.1), (sI u1.2 3 x1.toNatClampNeg (-1 : Int32))))) := by
  refine (E_al c_26_0 rfl (by decide)).trans ?_
  refine (E_il c_26_1 rfl).trans ?_
  refine (E_cIV c_26_2 mi_19 rfl rfl (sO_kl sh_1) (Nat.le_of_ble_eq_true rfl) (Nat.le_of_ble_eq_true rfl)).trans (ax_bnd fun u0 => ?_)
  refine (E_is (L' := [.ref 1, .int x1, .int u0.1]) c_26_5 (Nat.le_of_ble_eq_true rfl) rfl).trans ?_
  refine (E_il c_26_6 rfl).trans ?_
  refine (E_cIS c_26_7 mi_13 rfl rfl (Nat.le_of_ble_eq_true rfl) (Nat.le_of_ble_eq_true rfl)).trans (ax_bnd fun u1 => ?_)
  refine (E_b0_eq (q := 20) c_26_10 rfl).trans (ax_ite ?_ ?_)
  · refine (E_il c_26_20 rfl).trans ?_
    exact E_rI c_26_21 mi_26
  · refine (E_al c_26_13 rfl (by decide)).trans ?_
    refine (E_gfr (k := 1) (r := 3) c_26_14 sh_1 rfl rfl rfl).trans ?_
    refine (E_il c_26_17 rfl).trans ?_
    refine (E_ic (v := (-1 : Int32)) c_26_18 (by decide)).trans ?_
    refine (E_ias (v := (-1 : Int32)) c_26_19 sh_3 rfl).trans (ax_gd ?_)
    refine (E_il c_26_20 rfl).trans ?_
    exact E_rI c_26_21 mi_26
set_option maxHeartbeats 4000000 in
theorem u_28_5 (d : Nat) (σ : ax_S) (x1 : Int32) : ev sO d 28 0 [.ref 5, .int x1] [] σ = if ((500 : Int32) - (σ.1 5 1)) < x1 then (some (some (.int (0 : Int32)), σ)) else (some (some (.int (1 : Int32)), σ)) := by
  refine (E_il c_28_0 rfl).trans ?_
  refine (E_ic (v := (500 : Int32)) c_28_1 (by decide)).trans ?_
  refine (E_al c_28_4 rfl (by decide)).trans ?_
  refine (E_gfi (k := 1) c_28_5 sh_5 rfl rfl rfl (by decide)).trans ?_
  refine (E_isub c_28_8).trans ?_
  refine (E_br_gt (q := 16) c_28_9 rfl).trans (ax_ite ?_ ?_)
  · refine (E_ic (v := (0 : Int32)) c_28_16 (by decide)).trans ?_
    exact E_rZ (v := (0 : Int32)) c_28_17 mi_28 (by decide)
  · refine (E_ic (v := (1 : Int32)) c_28_12 (by decide)).trans ?_
    refine (E_goto (q := 17) c_28_13 rfl).trans ?_
    exact E_rZ (v := (1 : Int32)) c_28_17 mi_28 (by decide)
set_option maxHeartbeats 4000000 in
theorem u_29_5 (d : Nat) (σ : ax_S) (x1 : Int64) (x2 : Int32) : ev sO d 29 0 [.ref 5, .long x1, .null, .int x2, .null] [] σ = ev sO d 29 5 [.ref 5, .long x1, .null, .int x2, .int (x2 - (1 : Int32))] [] σ := by
  refine (E_il c_29_0 rfl).trans ?_
  refine (E_ic (v := (1 : Int32)) c_29_1 (by decide)).trans ?_
  refine (E_isub c_29_2).trans ?_
  refine (E_is (L' := [.ref 5, .long x1, .null, .int x2, .int (x2 - (1 : Int32))]) c_29_3 (Nat.le_of_ble_eq_true rfl) rfl).trans ?_
  rfl
set_option maxHeartbeats 4000000 in
theorem u_29_5p5 (d : Nat) (σ : ax_S) (x1 : Int64) (w3 : Value) (hw3 : w3.category = 1) (x4 : Int32) : ev sO d 29 5 [.ref 5, .long x1, .null, w3, .int x4] [] σ = if x4 < 0 then (some (some (.int (σ.1 5 1)), σ)) else (if (σ.1 5 1) < (500 : Int32) then (gd (0 ≤ (σ.1 5 1).toInt ∧ (σ.1 5 1).toInt < (500 : Nat)) (ax_lt (sI (sI σ 6 (σ.1 5 1).toNatClampNeg (((x1 >>> (((8 : Int32) * x4).toInt64 &&& 63)).toInt32).toInt8.toInt32).toInt8.toInt32) 5 1 (((sI σ 6 (σ.1 5 1).toNatClampNeg (((x1 >>> (((8 : Int32) * x4).toInt64 &&& 63)).toInt32).toInt8.toInt32).toInt8.toInt32).1 5 1) + (1 : Int32))) fun s0 => ev sO d 29 5 [.ref 5, .long x1, .null, w3, .int (x4 + (-1 : Int32))] [] s0)) else (some (some (.int (σ.1 5 1)), σ))) := by
  refine (E_il c_29_5 rfl).trans ?_
  refine (E_b0_lt (q := 54) c_29_7 rfl).trans (ax_ite ?_ ?_)
  · refine (E_al c_29_54 rfl (by decide)).trans ?_
    refine (E_gfi (k := 1) c_29_55 sh_5 rfl rfl rfl (by decide)).trans ?_
    exact E_rI c_29_58 mi_29
  · refine (E_al c_29_10 rfl (by decide)).trans ?_
    refine (E_gfi (k := 1) c_29_11 sh_5 rfl rfl rfl (by decide)).trans ?_
    refine (E_ic (v := (500 : Int32)) c_29_14 (by decide)).trans ?_
    refine (E_br_ge (q := 54) c_29_17 rfl).trans (ax_ite ?_ ?_)
    · refine (E_al c_29_20 rfl (by decide)).trans ?_
      refine (E_gfr (k := 0) (r := 6) c_29_21 sh_5 rfl rfl rfl).trans ?_
      refine (E_al c_29_24 rfl (by decide)).trans ?_
      refine (E_gfi (k := 1) c_29_25 sh_5 rfl rfl rfl (by decide)).trans ?_
      refine (E_ll c_29_28 rfl).trans ?_
      refine (E_ic (v := (8 : Int32)) c_29_29 (by decide)).trans ?_
      refine (E_il c_29_31 rfl).trans ?_
      refine (E_imul c_29_33).trans ?_
      refine (E_lshr c_29_34).trans ?_
      refine (E_l2i c_29_35).trans ?_
      refine (E_i2b c_29_36).trans ?_
      refine (E_bas (v := (((x1 >>> (((8 : Int32) * x4).toInt64 &&& 63)).toInt32).toInt8.toInt32).toInt8.toInt32) c_29_37 sh_6 rfl).trans (ax_gd ?_)
      refine (E_al c_29_38 rfl (by decide)).trans ?_
      refine (E_dup c_29_39 rfl).trans ?_
      refine (E_gfi (k := 1) c_29_40 sh_5 rfl rfl rfl (by decide)).trans ?_
      refine (E_ic (v := (1 : Int32)) c_29_43 (by decide)).trans ?_
      refine (E_iadd c_29_44).trans ?_
      refine (E_pfi (k := 1) c_29_45 sh_5 rfl rfl rfl).trans ?_
      refine ax_ltE (fun s0 => ?_)
      refine (E_inc (v := (-1 : Int32)) (L' := [.ref 5, .long x1, .null, w3, .int (x4 + (-1 : Int32))]) c_29_48 rfl (by decide) (by simp [ax_st1, ax_drp, hw3])).trans ?_
      refine (E_goto (q := 5) c_29_51 rfl).trans ?_
      rfl
    · refine (E_al c_29_54 rfl (by decide)).trans ?_
      refine (E_gfi (k := 1) c_29_55 sh_5 rfl rfl rfl (by decide)).trans ?_
      exact E_rI c_29_58 mi_29
set_option maxHeartbeats 4000000 in
theorem u_31_52_5 (d : Nat) (σ : ax_S) : ev sO (d + 7) 31 0 [.ref 52, .ref 5, .null] [] σ = (cV sO (d + 6) 32 [.ref 5] (sI (sI σ 52 1 (0 : Int32)) 52 6 (0 : Int32))).bind fun u0 => ev sO (d + 7) 31 16 [.ref 52, .ref 5, .int (0 : Int32)] [] u0 := by
  refine (E_al c_31_0 rfl (by decide)).trans ?_
  refine (E_ic (v := (0 : Int32)) c_31_1 (by decide)).trans ?_
  refine (E_pfi (k := 1) c_31_2 sh_52 rfl rfl rfl).trans ?_
  refine (E_al c_31_5 rfl (by decide)).trans ?_
  refine (E_ic (v := (0 : Int32)) c_31_6 (by decide)).trans ?_
  refine (E_pfi (k := 6) c_31_7 sh_52 rfl rfl rfl).trans ?_
  refine (E_al c_31_10 rfl (by decide)).trans ?_
  refine (E_cVV c_31_11 mi_32 rfl (sO_kl sh_5) (Nat.le_of_ble_eq_true rfl) (Nat.le_of_ble_eq_true rfl)).trans (ax_bnd fun u0 => ?_)
  refine (E_ic (v := (0 : Int32)) c_31_14 (by decide)).trans ?_
  refine (E_is (L' := [.ref 52, .ref 5, .int (0 : Int32)]) c_31_15 (Nat.le_of_ble_eq_true rfl) rfl).trans ?_
  rfl
set_option maxHeartbeats 4000000 in
theorem u_31_52_5p16 (d : Nat) (σ : ax_S) (x2 : Int32) : ev sO (d + 7) 31 16 [.ref 52, .ref 5, .int x2] [] σ = if (16 : Int32) < x2 then (ev sO (d + 7) 31 44 [.ref 52, .ref 5, .int (0 : Int32)] [] σ) else ((cI sO (d + 6) 38 [.ref 5, .ref 1001] σ).bind fun u0 => if u0.1 = 0 then (ev sO (d + 7) 31 44 [.ref 52, .ref 5, .int (0 : Int32)] [] u0.2) else ((cV sO (d + 6) 46 [.ref 52, .ref 5] u0.2).bind fun u1 => ev sO (d + 7) 31 16 [.ref 52, .ref 5, .int (x2 + (1 : Int32))] [] u1)) := by
  refine (E_il c_31_16 rfl).trans ?_
  refine (E_ic (v := (16 : Int32)) c_31_17 (by decide)).trans ?_
  refine (E_br_gt (q := 42) c_31_19 rfl).trans (ax_ite ?_ ?_)
  · refine (E_ic (v := (0 : Int32)) c_31_42 (by decide)).trans ?_
    refine (E_is (L' := [.ref 52, .ref 5, .int (0 : Int32)]) c_31_43 (Nat.le_of_ble_eq_true rfl) rfl).trans ?_
    rfl
  · refine (E_al c_31_22 rfl (by decide)).trans ?_
    refine (E_ls (a := 1001) c_31_23 rfl).trans ?_
    refine (E_cIV c_31_25 mi_38 rfl rfl (sO_kl sh_5) (Nat.le_of_ble_eq_true rfl) (Nat.le_of_ble_eq_true rfl)).trans (ax_bnd fun u0 => ?_)
    refine (E_b0_eq (q := 42) c_31_28 rfl).trans (ax_ite ?_ ?_)
    · refine (E_ic (v := (0 : Int32)) c_31_42 (by decide)).trans ?_
      refine (E_is (L' := [.ref 52, .ref 5, .int (0 : Int32)]) c_31_43 (Nat.le_of_ble_eq_true rfl) rfl).trans ?_
      rfl
    · refine (E_al c_31_31 rfl (by decide)).trans ?_
      refine (E_al c_31_32 rfl (by decide)).trans ?_
      refine (E_cVV c_31_33 mi_46 rfl (sO_kl sh_52) (Nat.le_of_ble_eq_true rfl) (Nat.le_of_ble_eq_true rfl)).trans (ax_bnd fun u1 => ?_)
      refine (E_inc (v := (1 : Int32)) (L' := [.ref 52, .ref 5, .int (x2 + (1 : Int32))]) c_31_36 rfl (by decide) rfl).trans ?_
      refine (E_goto (q := 16) c_31_39 rfl).trans ?_
      rfl
set_option maxHeartbeats 4000000 in
theorem u_31_52_5p44 (d : Nat) (σ : ax_S) (x2 : Int32) : ev sO (d + 7) 31 44 [.ref 52, .ref 5, .int x2] [] σ = if (8 : Int32) < x2 then ((cV sO (d + 6) 56 [.ref 52, .ref 5] σ).bind fun u0 => (cV sO (d + 6) 57 [.ref 5] u0).bind fun u1 => (cI sO (d + 6) 59 [.ref 5] u1).bind fun u2 => if u2.1 = 0 then (some (some (.int (((sI u2.2 52 0 (1 : Int32)).1 52 0) &&& 1)), (sI u2.2 52 0 (1 : Int32)))) else (some (some (.int (((sI u2.2 52 0 (0 : Int32)).1 52 0) &&& 1)), (sI u2.2 52 0 (0 : Int32))))) else ((cI sO (d + 6) 38 [.ref 5, .ref 1002] σ).bind fun u3 => if u3.1 = 0 then ((cV sO (d + 6) 56 [.ref 52, .ref 5] u3.2).bind fun u4 => (cV sO (d + 6) 57 [.ref 5] u4).bind fun u5 => (cI sO (d + 6) 59 [.ref 5] u5).bind fun u6 => if u6.1 = 0 then (some (some (.int (((sI u6.2 52 0 (1 : Int32)).1 52 0) &&& 1)), (sI u6.2 52 0 (1 : Int32)))) else (some (some (.int (((sI u6.2 52 0 (0 : Int32)).1 52 0) &&& 1)), (sI u6.2 52 0 (0 : Int32))))) else ((cV sO (d + 6) 55 [.ref 52, .ref 5] u3.2).bind fun u7 => ev sO (d + 7) 31 44 [.ref 52, .ref 5, .int (x2 + (1 : Int32))] [] u7)) := by
  refine (E_il c_31_44 rfl).trans ?_
  refine (E_ic (v := (8 : Int32)) c_31_45 (by decide)).trans ?_
  refine (E_br_gt (q := 70) c_31_47 rfl).trans (ax_ite ?_ ?_)
  · refine (E_al c_31_70 rfl (by decide)).trans ?_
    refine (E_al c_31_71 rfl (by decide)).trans ?_
    refine (E_cVV c_31_72 mi_56 rfl (sO_kl sh_52) (Nat.le_of_ble_eq_true rfl) (Nat.le_of_ble_eq_true rfl)).trans (ax_bnd fun u0 => ?_)
    refine (E_al c_31_75 rfl (by decide)).trans ?_
    refine (E_cVV c_31_76 mi_57 rfl (sO_kl sh_5) (Nat.le_of_ble_eq_true rfl) (Nat.le_of_ble_eq_true rfl)).trans (ax_bnd fun u1 => ?_)
    refine (E_al c_31_79 rfl (by decide)).trans ?_
    refine (E_al c_31_80 rfl (by decide)).trans ?_
    refine (E_cIV c_31_81 mi_59 rfl rfl (sO_kl sh_5) (Nat.le_of_ble_eq_true rfl) (Nat.le_of_ble_eq_true rfl)).trans (ax_bnd fun u2 => ?_)
    refine (E_b0_ne (q := 91) c_31_84 rfl).trans (ax_ite ?_ ?_)
    · refine (E_ic (v := (1 : Int32)) c_31_87 (by decide)).trans ?_
      refine (E_goto (q := 92) c_31_88 rfl).trans ?_
      refine (E_pfz (k := 0) c_31_92 sh_52 rfl rfl rfl (by decide)).trans ?_
      refine (E_al c_31_95 rfl (by decide)).trans ?_
      refine (E_gfi (k := 0) c_31_96 sh_52 rfl rfl rfl (by decide)).trans ?_
      exact E_rZ (v := (((sI u2.2 52 0 (1 : Int32)).1 52 0) &&& 1)) c_31_99 mi_31 rfl
    · refine (E_ic (v := (0 : Int32)) c_31_91 (by decide)).trans ?_
      refine (E_pfz (k := 0) c_31_92 sh_52 rfl rfl rfl (by decide)).trans ?_
      refine (E_al c_31_95 rfl (by decide)).trans ?_
      refine (E_gfi (k := 0) c_31_96 sh_52 rfl rfl rfl (by decide)).trans ?_
      exact E_rZ (v := (((sI u2.2 52 0 (0 : Int32)).1 52 0) &&& 1)) c_31_99 mi_31 rfl
  · refine (E_al c_31_50 rfl (by decide)).trans ?_
    refine (E_ls (a := 1002) c_31_51 rfl).trans ?_
    refine (E_cIV c_31_53 mi_38 rfl rfl (sO_kl sh_5) (Nat.le_of_ble_eq_true rfl) (Nat.le_of_ble_eq_true rfl)).trans (ax_bnd fun u3 => ?_)
    refine (E_b0_eq (q := 70) c_31_56 rfl).trans (ax_ite ?_ ?_)
    · refine (E_al c_31_70 rfl (by decide)).trans ?_
      refine (E_al c_31_71 rfl (by decide)).trans ?_
      refine (E_cVV c_31_72 mi_56 rfl (sO_kl sh_52) (Nat.le_of_ble_eq_true rfl) (Nat.le_of_ble_eq_true rfl)).trans (ax_bnd fun u4 => ?_)
      refine (E_al c_31_75 rfl (by decide)).trans ?_
      refine (E_cVV c_31_76 mi_57 rfl (sO_kl sh_5) (Nat.le_of_ble_eq_true rfl) (Nat.le_of_ble_eq_true rfl)).trans (ax_bnd fun u5 => ?_)
      refine (E_al c_31_79 rfl (by decide)).trans ?_
      refine (E_al c_31_80 rfl (by decide)).trans ?_
      refine (E_cIV c_31_81 mi_59 rfl rfl (sO_kl sh_5) (Nat.le_of_ble_eq_true rfl) (Nat.le_of_ble_eq_true rfl)).trans (ax_bnd fun u6 => ?_)
      refine (E_b0_ne (q := 91) c_31_84 rfl).trans (ax_ite ?_ ?_)
      · refine (E_ic (v := (1 : Int32)) c_31_87 (by decide)).trans ?_
        refine (E_goto (q := 92) c_31_88 rfl).trans ?_
        refine (E_pfz (k := 0) c_31_92 sh_52 rfl rfl rfl (by decide)).trans ?_
        refine (E_al c_31_95 rfl (by decide)).trans ?_
        refine (E_gfi (k := 0) c_31_96 sh_52 rfl rfl rfl (by decide)).trans ?_
        exact E_rZ (v := (((sI u6.2 52 0 (1 : Int32)).1 52 0) &&& 1)) c_31_99 mi_31 rfl
      · refine (E_ic (v := (0 : Int32)) c_31_91 (by decide)).trans ?_
        refine (E_pfz (k := 0) c_31_92 sh_52 rfl rfl rfl (by decide)).trans ?_
        refine (E_al c_31_95 rfl (by decide)).trans ?_
        refine (E_gfi (k := 0) c_31_96 sh_52 rfl rfl rfl (by decide)).trans ?_
        exact E_rZ (v := (((sI u6.2 52 0 (0 : Int32)).1 52 0) &&& 1)) c_31_99 mi_31 rfl
    · refine (E_al c_31_59 rfl (by decide)).trans ?_
      refine (E_al c_31_60 rfl (by decide)).trans ?_
      refine (E_cVV c_31_61 mi_55 rfl (sO_kl sh_52) (Nat.le_of_ble_eq_true rfl) (Nat.le_of_ble_eq_true rfl)).trans (ax_bnd fun u7 => ?_)
      refine (E_inc (v := (1 : Int32)) (L' := [.ref 52, .ref 5, .int (x2 + (1 : Int32))]) c_31_64 rfl (by decide) rfl).trans ?_
      refine (E_goto (q := 44) c_31_67 rfl).trans ?_
      rfl
set_option maxHeartbeats 4000000 in
theorem u_60_5 (d : Nat) (σ : ax_S) : ev sO d 60 0 [.ref 5] [] σ = some (none, (sI σ 5 1 (0 : Int32))) := by
  refine (E_al c_60_0 rfl (by decide)).trans ?_
  refine (E_ic (v := (0 : Int32)) c_60_1 (by decide)).trans ?_
  refine (E_pfi (k := 1) c_60_2 sh_5 rfl rfl rfl).trans ?_
  exact E_rV c_60_5 mi_60
set_option maxHeartbeats 4000000 in
theorem u_61_5 (d : Nat) (σ : ax_S) : ev sO d 61 0 [.ref 5] [] σ = some (some (.int (σ.1 5 3)), σ) := by
  refine (E_al c_61_0 rfl (by decide)).trans ?_
  refine (E_gfi (k := 3) c_61_1 sh_5 rfl rfl rfl (by decide)).trans ?_
  exact E_rI c_61_4 mi_61
set_option maxHeartbeats 4000000 in
theorem u_62_8_52 (d : Nat) (σ : ax_S) : ev sO d 62 0 [.ref 8, .ref 52] [] σ = gd ((σ.1 52 0) = 0 ∨ (σ.1 52 0) = 1) (ax_lt (sI (sI (sI (sI σ 8 0 (σ.1 52 0)) 8 1 ((sI σ 8 0 (σ.1 52 0)).1 52 1)) 8 6 ((sI (sI σ 8 0 (σ.1 52 0)) 8 1 ((sI σ 8 0 (σ.1 52 0)).1 52 1)).1 52 6)) 8 11 ((sI (sI (sI σ 8 0 (σ.1 52 0)) 8 1 ((sI σ 8 0 (σ.1 52 0)).1 52 1)) 8 6 ((sI (sI σ 8 0 (σ.1 52 0)) 8 1 ((sI σ 8 0 (σ.1 52 0)).1 52 1)).1 52 6)).1 52 11)) fun s0 => ax_lt (sI (sI (sI s0 8 12 (s0.1 52 12)) 8 13 ((sI s0 8 12 (s0.1 52 12)).1 52 13)) 8 14 ((sI (sI s0 8 12 (s0.1 52 12)) 8 13 ((sI s0 8 12 (s0.1 52 12)).1 52 13)).1 52 14)) fun s1 => ax_lt (sR s1 9 (va_cpy (s1.1 53) (s1.1 9) (0 : Int32).toNatClampNeg (0 : Int32).toNatClampNeg (16 : Int32).toNatClampNeg)) fun s2 => ax_lt (sR s2 10 (va_cpy (s2.1 54) (s2.1 10) (0 : Int32).toNatClampNeg (0 : Int32).toNatClampNeg (16 : Int32).toNatClampNeg)) fun s3 => ax_lt (sR s3 11 (va_cpy (s3.1 55) (s3.1 11) (0 : Int32).toNatClampNeg (0 : Int32).toNatClampNeg (16 : Int32).toNatClampNeg)) fun s4 => ax_lt (sR s4 12 (va_cpy (s4.1 56) (s4.1 12) (0 : Int32).toNatClampNeg (0 : Int32).toNatClampNeg (16 : Int32).toNatClampNeg)) fun s5 => ax_lt (sR s5 13 (va_cpy (s5.1 57) (s5.1 13) (0 : Int32).toNatClampNeg (0 : Int32).toNatClampNeg (8 : Int32).toNatClampNeg)) fun s6 => ax_lt (sR s6 14 (va_cpy (s6.1 58) (s6.1 14) (0 : Int32).toNatClampNeg (0 : Int32).toNatClampNeg (8 : Int32).toNatClampNeg)) fun s7 => ax_lt (sR s7 15 (va_cpy (s7.1 59) (s7.1 15) (0 : Int32).toNatClampNeg (0 : Int32).toNatClampNeg (8 : Int32).toNatClampNeg)) fun s8 => ax_lt (sR s8 16 (va_cpy (s8.1 60) (s8.1 16) (0 : Int32).toNatClampNeg (0 : Int32).toNatClampNeg (8 : Int32).toNatClampNeg)) fun s9 => some (none, s9)) := by
  refine (E_al c_62_0 rfl (by decide)).trans ?_
  refine (E_al c_62_1 rfl (by decide)).trans ?_
  refine (E_gfi (k := 0) c_62_2 sh_52 rfl rfl rfl (by decide)).trans ?_
  refine (E_pfzg (k := 0) c_62_5 sh_8 rfl rfl rfl).trans (ax_gd ?_)
  refine (E_al c_62_8 rfl (by decide)).trans ?_
  refine (E_al c_62_9 rfl (by decide)).trans ?_
  refine (E_gfi (k := 1) c_62_10 sh_52 rfl rfl rfl (by decide)).trans ?_
  refine (E_pfi (k := 1) c_62_13 sh_8 rfl rfl rfl).trans ?_
  refine (E_al c_62_16 rfl (by decide)).trans ?_
  refine (E_al c_62_17 rfl (by decide)).trans ?_
  refine (E_gfi (k := 6) c_62_18 sh_52 rfl rfl rfl (by decide)).trans ?_
  refine (E_pfi (k := 6) c_62_21 sh_8 rfl rfl rfl).trans ?_
  refine (E_al c_62_24 rfl (by decide)).trans ?_
  refine (E_al c_62_25 rfl (by decide)).trans ?_
  refine (E_gfi (k := 11) c_62_26 sh_52 rfl rfl rfl (by decide)).trans ?_
  refine (E_pfi (k := 11) c_62_29 sh_8 rfl rfl rfl).trans ?_
  refine ax_ltE (fun s0 => ?_)
  refine (E_al c_62_32 rfl (by decide)).trans ?_
  refine (E_al c_62_33 rfl (by decide)).trans ?_
  refine (E_gfi (k := 12) c_62_34 sh_52 rfl rfl rfl (by decide)).trans ?_
  refine (E_pfi (k := 12) c_62_37 sh_8 rfl rfl rfl).trans ?_
  refine (E_al c_62_40 rfl (by decide)).trans ?_
  refine (E_al c_62_41 rfl (by decide)).trans ?_
  refine (E_gfi (k := 13) c_62_42 sh_52 rfl rfl rfl (by decide)).trans ?_
  refine (E_pfi (k := 13) c_62_45 sh_8 rfl rfl rfl).trans ?_
  refine (E_al c_62_48 rfl (by decide)).trans ?_
  refine (E_al c_62_49 rfl (by decide)).trans ?_
  refine (E_gfi (k := 14) c_62_50 sh_52 rfl rfl rfl (by decide)).trans ?_
  refine (E_pfi (k := 14) c_62_53 sh_8 rfl rfl rfl).trans ?_
  refine ax_ltE (fun s1 => ?_)
  refine (E_al c_62_56 rfl (by decide)).trans ?_
  refine (E_gfr (k := 2) (r := 53) c_62_57 sh_52 rfl rfl rfl).trans ?_
  refine (E_ic (v := (0 : Int32)) c_62_60 (by decide)).trans ?_
  refine (E_al c_62_61 rfl (by decide)).trans ?_
  refine (E_gfr (k := 2) (r := 9) c_62_62 sh_8 rfl rfl rfl).trans ?_
  refine (E_ic (v := (0 : Int32)) c_62_65 (by decide)).trans ?_
  refine (E_ic (v := (16 : Int32)) c_62_66 (by decide)).trans ?_
  refine (E_cpy c_62_68 sh_53 sh_9 (Nat.le_of_ble_eq_true rfl) (by unfold cpOk; decide)).trans ?_
  refine ax_ltE (fun s2 => ?_)
  refine (E_al c_62_71 rfl (by decide)).trans ?_
  refine (E_gfr (k := 3) (r := 54) c_62_72 sh_52 rfl rfl rfl).trans ?_
  refine (E_ic (v := (0 : Int32)) c_62_75 (by decide)).trans ?_
  refine (E_al c_62_76 rfl (by decide)).trans ?_
  refine (E_gfr (k := 3) (r := 10) c_62_77 sh_8 rfl rfl rfl).trans ?_
  refine (E_ic (v := (0 : Int32)) c_62_80 (by decide)).trans ?_
  refine (E_ic (v := (16 : Int32)) c_62_81 (by decide)).trans ?_
  refine (E_cpy c_62_83 sh_54 sh_10 (Nat.le_of_ble_eq_true rfl) (by unfold cpOk; decide)).trans ?_
  refine ax_ltE (fun s3 => ?_)
  refine (E_al c_62_86 rfl (by decide)).trans ?_
  refine (E_gfr (k := 4) (r := 55) c_62_87 sh_52 rfl rfl rfl).trans ?_
  refine (E_ic (v := (0 : Int32)) c_62_90 (by decide)).trans ?_
  refine (E_al c_62_91 rfl (by decide)).trans ?_
  refine (E_gfr (k := 4) (r := 11) c_62_92 sh_8 rfl rfl rfl).trans ?_
  refine (E_ic (v := (0 : Int32)) c_62_95 (by decide)).trans ?_
  refine (E_ic (v := (16 : Int32)) c_62_96 (by decide)).trans ?_
  refine (E_cpy c_62_98 sh_55 sh_11 (Nat.le_of_ble_eq_true rfl) (by unfold cpOk; decide)).trans ?_
  refine ax_ltE (fun s4 => ?_)
  refine (E_al c_62_101 rfl (by decide)).trans ?_
  refine (E_gfr (k := 5) (r := 56) c_62_102 sh_52 rfl rfl rfl).trans ?_
  refine (E_ic (v := (0 : Int32)) c_62_105 (by decide)).trans ?_
  refine (E_al c_62_106 rfl (by decide)).trans ?_
  refine (E_gfr (k := 5) (r := 12) c_62_107 sh_8 rfl rfl rfl).trans ?_
  refine (E_ic (v := (0 : Int32)) c_62_110 (by decide)).trans ?_
  refine (E_ic (v := (16 : Int32)) c_62_111 (by decide)).trans ?_
  refine (E_cpy c_62_113 sh_56 sh_12 (Nat.le_of_ble_eq_true rfl) (by unfold cpOk; decide)).trans ?_
  refine ax_ltE (fun s5 => ?_)
  refine (E_al c_62_116 rfl (by decide)).trans ?_
  refine (E_gfr (k := 7) (r := 57) c_62_117 sh_52 rfl rfl rfl).trans ?_
  refine (E_ic (v := (0 : Int32)) c_62_120 (by decide)).trans ?_
  refine (E_al c_62_121 rfl (by decide)).trans ?_
  refine (E_gfr (k := 7) (r := 13) c_62_122 sh_8 rfl rfl rfl).trans ?_
  refine (E_ic (v := (0 : Int32)) c_62_125 (by decide)).trans ?_
  refine (E_ic (v := (8 : Int32)) c_62_126 (by decide)).trans ?_
  refine (E_cpy c_62_128 sh_57 sh_13 (Nat.le_of_ble_eq_true rfl) (by unfold cpOk; decide)).trans ?_
  refine ax_ltE (fun s6 => ?_)
  refine (E_al c_62_131 rfl (by decide)).trans ?_
  refine (E_gfr (k := 8) (r := 58) c_62_132 sh_52 rfl rfl rfl).trans ?_
  refine (E_ic (v := (0 : Int32)) c_62_135 (by decide)).trans ?_
  refine (E_al c_62_136 rfl (by decide)).trans ?_
  refine (E_gfr (k := 8) (r := 14) c_62_137 sh_8 rfl rfl rfl).trans ?_
  refine (E_ic (v := (0 : Int32)) c_62_140 (by decide)).trans ?_
  refine (E_ic (v := (8 : Int32)) c_62_141 (by decide)).trans ?_
  refine (E_cpy c_62_143 sh_58 sh_14 (Nat.le_of_ble_eq_true rfl) (by unfold cpOk; decide)).trans ?_
  refine ax_ltE (fun s7 => ?_)
  refine (E_al c_62_146 rfl (by decide)).trans ?_
  refine (E_gfr (k := 9) (r := 59) c_62_147 sh_52 rfl rfl rfl).trans ?_
  refine (E_ic (v := (0 : Int32)) c_62_150 (by decide)).trans ?_
  refine (E_al c_62_151 rfl (by decide)).trans ?_
  refine (E_gfr (k := 9) (r := 15) c_62_152 sh_8 rfl rfl rfl).trans ?_
  refine (E_ic (v := (0 : Int32)) c_62_155 (by decide)).trans ?_
  refine (E_ic (v := (8 : Int32)) c_62_156 (by decide)).trans ?_
  refine (E_cpy c_62_158 sh_59 sh_15 (Nat.le_of_ble_eq_true rfl) (by unfold cpOk; decide)).trans ?_
  refine ax_ltE (fun s8 => ?_)
  refine (E_al c_62_161 rfl (by decide)).trans ?_
  refine (E_gfr (k := 10) (r := 60) c_62_162 sh_52 rfl rfl rfl).trans ?_
  refine (E_ic (v := (0 : Int32)) c_62_165 (by decide)).trans ?_
  refine (E_al c_62_166 rfl (by decide)).trans ?_
  refine (E_gfr (k := 10) (r := 16) c_62_167 sh_8 rfl rfl rfl).trans ?_
  refine (E_ic (v := (0 : Int32)) c_62_170 (by decide)).trans ?_
  refine (E_ic (v := (8 : Int32)) c_62_171 (by decide)).trans ?_
  refine (E_cpy c_62_173 sh_60 sh_16 (Nat.le_of_ble_eq_true rfl) (by unfold cpOk; decide)).trans ?_
  refine ax_ltE (fun s9 => ?_)
  exact E_rV c_62_176 mi_62
set_option maxHeartbeats 4000000 in
theorem u_63_17 (d : Nat) (σ : ax_S) : ev sO d 63 0 [.ref 17] [] σ = some (none, (sI σ 17 0 (0 : Int32))) := by
  refine (E_al c_63_0 rfl (by decide)).trans ?_
  refine (E_ic (v := (0 : Int32)) c_63_1 (by decide)).trans ?_
  refine (E_pfi (k := 0) c_63_2 sh_17 rfl rfl rfl).trans ?_
  exact E_rV c_63_5 mi_63
set_option maxHeartbeats 4000000 in
theorem u_64_52 (d : Nat) (σ : ax_S) : ev sO d 64 0 [.ref 52] [] σ = some (some (.int (σ.1 52 1)), σ) := by
  refine (E_al c_64_0 rfl (by decide)).trans ?_
  refine (E_gfi (k := 1) c_64_1 sh_52 rfl rfl rfl (by decide)).trans ?_
  exact E_rI c_64_4 mi_64
set_option maxHeartbeats 4000000 in
theorem u_65_52 (d : Nat) (σ : ax_S) : ev sO d 65 0 [.ref 52] [] σ = some (some (.int (σ.1 52 6)), σ) := by
  refine (E_al c_65_0 rfl (by decide)).trans ?_
  refine (E_gfi (k := 6) c_65_1 sh_52 rfl rfl rfl (by decide)).trans ?_
  exact E_rI c_65_4 mi_65
set_option maxHeartbeats 4000000 in
theorem u_205_82 (d : Nat) (σ : ax_S) : ev sO (d + 2) 205 0 [.ref 82] [] σ = (cV sO (d + 1) 206 [.ref 82] (sI (sI (sI (sI σ 82 12 (σ.1 82 10)) 82 10 (0 : Int32)) 82 13 (0 : Int32)) 82 17 (0 : Int32))).bind fun u0 => some (none, u0) := by
  refine (E_al c_205_0 rfl (by decide)).trans ?_
  refine (E_al c_205_1 rfl (by decide)).trans ?_
  refine (E_gfi (k := 10) c_205_2 sh_82 rfl rfl rfl (by decide)).trans ?_
  refine (E_pfi (k := 12) c_205_5 sh_82 rfl rfl rfl).trans ?_
  refine (E_al c_205_8 rfl (by decide)).trans ?_
  refine (E_ic (v := (0 : Int32)) c_205_9 (by decide)).trans ?_
  refine (E_pfi (k := 10) c_205_10 sh_82 rfl rfl rfl).trans ?_
  refine (E_al c_205_13 rfl (by decide)).trans ?_
  refine (E_ic (v := (0 : Int32)) c_205_14 (by decide)).trans ?_
  refine (E_pfi (k := 13) c_205_15 sh_82 rfl rfl rfl).trans ?_
  refine (E_al c_205_18 rfl (by decide)).trans ?_
  refine (E_ic (v := (0 : Int32)) c_205_19 (by decide)).trans ?_
  refine (E_pfi (k := 17) c_205_20 sh_82 rfl rfl rfl).trans ?_
  refine (E_al c_205_23 rfl (by decide)).trans ?_
  refine (E_cVV c_205_24 mi_206 rfl (sO_kl sh_82) (Nat.le_of_ble_eq_true rfl) (Nat.le_of_ble_eq_true rfl)).trans (ax_bnd fun u0 => ?_)
  exact E_rV c_205_27 mi_205
set_option maxHeartbeats 4000000 in
theorem u_210_82 (d : Nat) (σ : ax_S) : ev sO d 210 0 [.ref 82, .null, .null, .null] [] σ = ev sO d 210 7 [.ref 82, .long (0 : Int64), .null, .int (σ.1 82 15)] [] σ := by
  refine (E_lc (v := (0 : Int64)) c_210_0 (by decide)).trans ?_
  refine (E_lss (L' := [.ref 82, .long (0 : Int64), .null, .null]) c_210_1 (Nat.le_of_ble_eq_true rfl) rfl).trans ?_
  refine (E_al c_210_2 rfl (by decide)).trans ?_
  refine (E_gfi (k := 15) c_210_3 sh_82 rfl rfl rfl (by decide)).trans ?_
  refine (E_is (L' := [.ref 82, .long (0 : Int64), .null, .int (σ.1 82 15)]) c_210_6 (Nat.le_of_ble_eq_true rfl) rfl).trans ?_
  rfl
set_option maxHeartbeats 4000000 in
theorem u_210_82p7 (d : Nat) (σ : ax_S) (x1 : Int64) (x3 : Int32) : ev sO d 210 7 [.ref 82, .long x1, .null, .int x3] [] σ = if x3 < (σ.1 82 16) then (if (σ.1 82 14) = (2 : Int32) then (if ((σ.1 82 16) - (σ.1 82 15)) < (8 : Int32) then (gd (0 ≤ x3.toInt ∧ x3.toInt < (500 : Nat)) (ev sO d 210 7 [.ref 82, .long ((x1 <<< ((8 : Int32).toInt64 &&& 63)) ||| ((σ.1 89 x3.toNatClampNeg).toInt64)), .null, .int (x3 + (1 : Int32))] [] σ)) else (if (σ.1 82 17) = 0 then (some (some (.long x1), σ)) else (some (some (.long (0 : Int64)), σ)))) else (if (σ.1 82 17) = 0 then (some (some (.long x1), σ)) else (some (some (.long (0 : Int64)), σ)))) else (if (σ.1 82 17) = 0 then (some (some (.long x1), σ)) else (some (some (.long (0 : Int64)), σ))) := by
  refine (E_il c_210_7 rfl).trans ?_
  refine (E_al c_210_8 rfl (by decide)).trans ?_
  refine (E_gfi (k := 16) c_210_9 sh_82 rfl rfl rfl (by decide)).trans ?_
  refine (E_br_ge (q := 56) c_210_12 rfl).trans (ax_ite ?_ ?_)
  · refine (E_al c_210_15 rfl (by decide)).trans ?_
    refine (E_gfi (k := 14) c_210_16 sh_82 rfl rfl rfl (by decide)).trans ?_
    refine (E_ic (v := (2 : Int32)) c_210_19 (by decide)).trans ?_
    refine (E_br_ne (q := 56) c_210_20 rfl).trans (ax_ite ?_ ?_)
    · refine (E_al c_210_23 rfl (by decide)).trans ?_
      refine (E_gfi (k := 16) c_210_24 sh_82 rfl rfl rfl (by decide)).trans ?_
      refine (E_al c_210_27 rfl (by decide)).trans ?_
      refine (E_gfi (k := 15) c_210_28 sh_82 rfl rfl rfl (by decide)).trans ?_
      refine (E_isub c_210_31).trans ?_
      refine (E_ic (v := (8 : Int32)) c_210_32 (by decide)).trans ?_
      refine (E_br_ge (q := 56) c_210_34 rfl).trans (ax_ite ?_ ?_)
      · refine (E_ll c_210_37 rfl).trans ?_
        refine (E_ic (v := (8 : Int32)) c_210_38 (by decide)).trans ?_
        refine (E_lshl c_210_40).trans ?_
        refine (E_al c_210_41 rfl (by decide)).trans ?_
        refine (E_gfr (k := 9) (r := 89) c_210_42 sh_82 rfl rfl rfl).trans ?_
        refine (E_il c_210_45 rfl).trans ?_
        refine (E_ial c_210_46 sh_89).trans (ax_gd ?_)
        refine (E_i2l c_210_47).trans ?_
        refine (E_lor c_210_48).trans ?_
        refine (E_lss (L' := [.ref 82, .long ((x1 <<< ((8 : Int32).toInt64 &&& 63)) ||| ((σ.1 89 x3.toNatClampNeg).toInt64)), .null, .int x3]) c_210_49 (Nat.le_of_ble_eq_true rfl) rfl).trans ?_
        refine (E_inc (v := (1 : Int32)) (L' := [.ref 82, .long ((x1 <<< ((8 : Int32).toInt64 &&& 63)) ||| ((σ.1 89 x3.toNatClampNeg).toInt64)), .null, .int (x3 + (1 : Int32))]) c_210_50 rfl (by decide) rfl).trans ?_
        refine (E_goto (q := 7) c_210_53 rfl).trans ?_
        rfl
      · refine (E_al c_210_56 rfl (by decide)).trans ?_
        refine (E_gfi (k := 17) c_210_57 sh_82 rfl rfl rfl (by decide)).trans ?_
        refine (E_b0_ne (q := 67) c_210_60 rfl).trans (ax_ite ?_ ?_)
        · refine (E_ll c_210_63 rfl).trans ?_
          refine (E_goto (q := 68) c_210_64 rfl).trans ?_
          exact E_rL c_210_68 mi_210
        · refine (E_lc (v := (0 : Int64)) c_210_67 (by decide)).trans ?_
          exact E_rL c_210_68 mi_210
    · refine (E_al c_210_56 rfl (by decide)).trans ?_
      refine (E_gfi (k := 17) c_210_57 sh_82 rfl rfl rfl (by decide)).trans ?_
      refine (E_b0_ne (q := 67) c_210_60 rfl).trans (ax_ite ?_ ?_)
      · refine (E_ll c_210_63 rfl).trans ?_
        refine (E_goto (q := 68) c_210_64 rfl).trans ?_
        exact E_rL c_210_68 mi_210
      · refine (E_lc (v := (0 : Int64)) c_210_67 (by decide)).trans ?_
        exact E_rL c_210_68 mi_210
  · refine (E_al c_210_56 rfl (by decide)).trans ?_
    refine (E_gfi (k := 17) c_210_57 sh_82 rfl rfl rfl (by decide)).trans ?_
    refine (E_b0_ne (q := 67) c_210_60 rfl).trans (ax_ite ?_ ?_)
    · refine (E_ll c_210_63 rfl).trans ?_
      refine (E_goto (q := 68) c_210_64 rfl).trans ?_
      exact E_rL c_210_68 mi_210
    · refine (E_lc (v := (0 : Int64)) c_210_67 (by decide)).trans ?_
      exact E_rL c_210_68 mi_210
set_option maxHeartbeats 4000000 in
theorem u_211_82 (d : Nat) (σ : ax_S) : ev sO (d + 4) 211 0 [.ref 82, .null, .null, .null, .null, .null] [] σ = if (σ.1 87 0) = (16 : Int32) then ((cV sO (d + 3) 212 [.ref 82, .int (3 : Int32)] σ).bind fun u0 => (cV sO (d + 3) 213 [.ref 82, .int (1 : Int32)] u0).bind fun u1 => (cI sO (d + 3) 214 [.ref 82, .int (0 : Int32), .int (3 : Int32)] u1).bind fun u2 => (cI sO (d + 3) 214 [.ref 82, .int (0 : Int32), .int (3 : Int32)] u2.2).bind fun u3 => (cI sO (d + 3) 214 [.ref 82, .int (1800 : Int32), .int (2000 : Int32)] u3.2).bind fun u4 => (cI sO (d + 3) 214 [.ref 82, .int (1 : Int32), .int (99 : Int32)] u4.2).bind fun u5 => (cV sO (d + 3) 216 [.ref 82] u5.2).bind fun u6 => if (u6.1 82 17) = 0 then (gd (0 ≤ ((2 : Int32) + ((4 : Int32) * (u1.1 87 0))).toInt ∧ ((2 : Int32) + ((4 : Int32) * (u1.1 87 0))).toInt < (102 : Nat)) (gd (0 ≤ (((2 : Int32) + ((4 : Int32) * (u1.1 87 0))) + (1 : Int32)).toInt ∧ (((2 : Int32) + ((4 : Int32) * (u1.1 87 0))) + (1 : Int32)).toInt < (102 : Nat)) (gd (0 ≤ (((2 : Int32) + ((4 : Int32) * (u1.1 87 0))) + (2 : Int32)).toInt ∧ (((2 : Int32) + ((4 : Int32) * (u1.1 87 0))) + (2 : Int32)).toInt < (102 : Nat)) (gd (0 ≤ (((2 : Int32) + ((4 : Int32) * (u1.1 87 0))) + (3 : Int32)).toInt ∧ (((2 : Int32) + ((4 : Int32) * (u1.1 87 0))) + (3 : Int32)).toInt < (102 : Nat)) (some (none, (sI (sI (sI (sI (sI u6 87 ((2 : Int32) + ((4 : Int32) * (u1.1 87 0))).toNatClampNeg u2.1) 87 (((2 : Int32) + ((4 : Int32) * (u1.1 87 0))) + (1 : Int32)).toNatClampNeg u3.1) 87 (((2 : Int32) + ((4 : Int32) * (u1.1 87 0))) + (2 : Int32)).toNatClampNeg u4.1) 87 (((2 : Int32) + ((4 : Int32) * (u1.1 87 0))) + (3 : Int32)).toNatClampNeg u5.1) 87 0 (((sI (sI (sI (sI u6 87 ((2 : Int32) + ((4 : Int32) * (u1.1 87 0))).toNatClampNeg u2.1) 87 (((2 : Int32) + ((4 : Int32) * (u1.1 87 0))) + (1 : Int32)).toNatClampNeg u3.1) 87 (((2 : Int32) + ((4 : Int32) * (u1.1 87 0))) + (2 : Int32)).toNatClampNeg u4.1) 87 (((2 : Int32) + ((4 : Int32) * (u1.1 87 0))) + (3 : Int32)).toNatClampNeg u5.1).1 87 0) + (1 : Int32))))))))) else (some (none, u6))) else ((cV sO (d + 3) 213 [.ref 82, .int (1 : Int32)] σ).bind fun u7 => (cI sO (d + 3) 214 [.ref 82, .int (0 : Int32), .int (3 : Int32)] u7).bind fun u8 => (cI sO (d + 3) 214 [.ref 82, .int (0 : Int32), .int (3 : Int32)] u8.2).bind fun u9 => (cI sO (d + 3) 214 [.ref 82, .int (1800 : Int32), .int (2000 : Int32)] u9.2).bind fun u10 => (cI sO (d + 3) 214 [.ref 82, .int (1 : Int32), .int (99 : Int32)] u10.2).bind fun u11 => (cV sO (d + 3) 216 [.ref 82] u11.2).bind fun u12 => if (u12.1 82 17) = 0 then (gd (0 ≤ ((2 : Int32) + ((4 : Int32) * (u7.1 87 0))).toInt ∧ ((2 : Int32) + ((4 : Int32) * (u7.1 87 0))).toInt < (102 : Nat)) (gd (0 ≤ (((2 : Int32) + ((4 : Int32) * (u7.1 87 0))) + (1 : Int32)).toInt ∧ (((2 : Int32) + ((4 : Int32) * (u7.1 87 0))) + (1 : Int32)).toInt < (102 : Nat)) (gd (0 ≤ (((2 : Int32) + ((4 : Int32) * (u7.1 87 0))) + (2 : Int32)).toInt ∧ (((2 : Int32) + ((4 : Int32) * (u7.1 87 0))) + (2 : Int32)).toInt < (102 : Nat)) (gd (0 ≤ (((2 : Int32) + ((4 : Int32) * (u7.1 87 0))) + (3 : Int32)).toInt ∧ (((2 : Int32) + ((4 : Int32) * (u7.1 87 0))) + (3 : Int32)).toInt < (102 : Nat)) (some (none, (sI (sI (sI (sI (sI u12 87 ((2 : Int32) + ((4 : Int32) * (u7.1 87 0))).toNatClampNeg u8.1) 87 (((2 : Int32) + ((4 : Int32) * (u7.1 87 0))) + (1 : Int32)).toNatClampNeg u9.1) 87 (((2 : Int32) + ((4 : Int32) * (u7.1 87 0))) + (2 : Int32)).toNatClampNeg u10.1) 87 (((2 : Int32) + ((4 : Int32) * (u7.1 87 0))) + (3 : Int32)).toNatClampNeg u11.1) 87 0 (((sI (sI (sI (sI u12 87 ((2 : Int32) + ((4 : Int32) * (u7.1 87 0))).toNatClampNeg u8.1) 87 (((2 : Int32) + ((4 : Int32) * (u7.1 87 0))) + (1 : Int32)).toNatClampNeg u9.1) 87 (((2 : Int32) + ((4 : Int32) * (u7.1 87 0))) + (2 : Int32)).toNatClampNeg u10.1) 87 (((2 : Int32) + ((4 : Int32) * (u7.1 87 0))) + (3 : Int32)).toNatClampNeg u11.1).1 87 0) + (1 : Int32))))))))) else (some (none, u12))) := by
  refine (E_al c_211_0 rfl (by decide)).trans ?_
  refine (E_gfr (k := 6) (r := 87) c_211_1 sh_82 rfl rfl rfl).trans ?_
  refine (E_ic (v := (0 : Int32)) c_211_4 (by decide)).trans ?_
  refine (E_ialk (k := 0) c_211_5 sh_87 (by decide) (by decide)).trans ?_
  refine (E_ic (v := (16 : Int32)) c_211_6 (by decide)).trans ?_
  refine (E_br_ne (q := 16) c_211_8 rfl).trans (ax_ite ?_ ?_)
  · refine (E_al c_211_11 rfl (by decide)).trans ?_
    refine (E_ic (v := (3 : Int32)) c_211_12 (by decide)).trans ?_
    refine (E_cVV c_211_13 mi_212 rfl (sO_kl sh_82) (Nat.le_of_ble_eq_true rfl) (Nat.le_of_ble_eq_true rfl)).trans (ax_bnd fun u0 => ?_)
    refine (E_al c_211_16 rfl (by decide)).trans ?_
    refine (E_ic (v := (1 : Int32)) c_211_17 (by decide)).trans ?_
    refine (E_cVV c_211_18 mi_213 rfl (sO_kl sh_82) (Nat.le_of_ble_eq_true rfl) (Nat.le_of_ble_eq_true rfl)).trans (ax_bnd fun u1 => ?_)
    refine (E_ic (v := (2 : Int32)) c_211_21 (by decide)).trans ?_
    refine (E_ic (v := (4 : Int32)) c_211_22 (by decide)).trans ?_
    refine (E_al c_211_23 rfl (by decide)).trans ?_
    refine (E_gfr (k := 6) (r := 87) c_211_24 sh_82 rfl rfl rfl).trans ?_
    refine (E_ic (v := (0 : Int32)) c_211_27 (by decide)).trans ?_
    refine (E_ialk (k := 0) c_211_28 sh_87 (by decide) (by decide)).trans ?_
    refine (E_imul c_211_29).trans ?_
    refine (E_iadd c_211_30).trans ?_
    refine (E_is (L' := [.ref 82, .int ((2 : Int32) + ((4 : Int32) * (u1.1 87 0))), .null, .null, .null, .null]) c_211_31 (Nat.le_of_ble_eq_true rfl) rfl).trans ?_
    refine (E_al c_211_32 rfl (by decide)).trans ?_
    refine (E_ic (v := (0 : Int32)) c_211_33 (by decide)).trans ?_
    refine (E_ic (v := (3 : Int32)) c_211_34 (by decide)).trans ?_
    refine (E_cIV c_211_35 mi_214 rfl rfl (sO_kl sh_82) (Nat.le_of_ble_eq_true rfl) (Nat.le_of_ble_eq_true rfl)).trans (ax_bnd fun u2 => ?_)
    refine (E_is (L' := [.ref 82, .int ((2 : Int32) + ((4 : Int32) * (u1.1 87 0))), .int u2.1, .null, .null, .null]) c_211_38 (Nat.le_of_ble_eq_true rfl) rfl).trans ?_
    refine (E_al c_211_39 rfl (by decide)).trans ?_
    refine (E_ic (v := (0 : Int32)) c_211_40 (by decide)).trans ?_
    refine (E_ic (v := (3 : Int32)) c_211_41 (by decide)).trans ?_
    refine (E_cIV c_211_42 mi_214 rfl rfl (sO_kl sh_82) (Nat.le_of_ble_eq_true rfl) (Nat.le_of_ble_eq_true rfl)).trans (ax_bnd fun u3 => ?_)
    refine (E_is (L' := [.ref 82, .int ((2 : Int32) + ((4 : Int32) * (u1.1 87 0))), .int u2.1, .int u3.1, .null, .null]) c_211_45 (Nat.le_of_ble_eq_true rfl) rfl).trans ?_
    refine (E_al c_211_46 rfl (by decide)).trans ?_
    refine (E_ic (v := (1800 : Int32)) c_211_47 (by decide)).trans ?_
    refine (E_ic (v := (2000 : Int32)) c_211_50 (by decide)).trans ?_
    refine (E_cIV c_211_53 mi_214 rfl rfl (sO_kl sh_82) (Nat.le_of_ble_eq_true rfl) (Nat.le_of_ble_eq_true rfl)).trans (ax_bnd fun u4 => ?_)
    refine (E_is (L' := [.ref 82, .int ((2 : Int32) + ((4 : Int32) * (u1.1 87 0))), .int u2.1, .int u3.1, .int u4.1, .null]) c_211_56 (Nat.le_of_ble_eq_true rfl) rfl).trans ?_
    refine (E_al c_211_58 rfl (by decide)).trans ?_
    refine (E_ic (v := (1 : Int32)) c_211_59 (by decide)).trans ?_
    refine (E_ic (v := (99 : Int32)) c_211_60 (by decide)).trans ?_
    refine (E_cIV c_211_62 mi_214 rfl rfl (sO_kl sh_82) (Nat.le_of_ble_eq_true rfl) (Nat.le_of_ble_eq_true rfl)).trans (ax_bnd fun u5 => ?_)
    refine (E_is (L' := [.ref 82, .int ((2 : Int32) + ((4 : Int32) * (u1.1 87 0))), .int u2.1, .int u3.1, .int u4.1, .int u5.1]) c_211_65 (Nat.le_of_ble_eq_true rfl) rfl).trans ?_
    refine (E_al c_211_67 rfl (by decide)).trans ?_
    refine (E_cVV c_211_68 mi_216 rfl (sO_kl sh_82) (Nat.le_of_ble_eq_true rfl) (Nat.le_of_ble_eq_true rfl)).trans (ax_bnd fun u6 => ?_)
    refine (E_al c_211_71 rfl (by decide)).trans ?_
    refine (E_gfi (k := 17) c_211_72 sh_82 rfl rfl rfl (by decide)).trans ?_
    refine (E_b0_ne (q := 124) c_211_75 rfl).trans (ax_ite ?_ ?_)
    · refine (E_al c_211_78 rfl (by decide)).trans ?_
      refine (E_gfr (k := 6) (r := 87) c_211_79 sh_82 rfl rfl rfl).trans ?_
      refine (E_il c_211_82 rfl).trans ?_
      refine (E_il c_211_83 rfl).trans ?_
      refine (E_ias (v := u2.1) c_211_84 sh_87 rfl).trans (ax_gd ?_)
      refine (E_al c_211_85 rfl (by decide)).trans ?_
      refine (E_gfr (k := 6) (r := 87) c_211_86 sh_82 rfl rfl rfl).trans ?_
      refine (E_il c_211_89 rfl).trans ?_
      refine (E_ic (v := (1 : Int32)) c_211_90 (by decide)).trans ?_
      refine (E_iadd c_211_91).trans ?_
      refine (E_il c_211_92 rfl).trans ?_
      refine (E_ias (v := u3.1) c_211_93 sh_87 rfl).trans (ax_gd ?_)
      refine (E_al c_211_94 rfl (by decide)).trans ?_
      refine (E_gfr (k := 6) (r := 87) c_211_95 sh_82 rfl rfl rfl).trans ?_
      refine (E_il c_211_98 rfl).trans ?_
      refine (E_ic (v := (2 : Int32)) c_211_99 (by decide)).trans ?_
      refine (E_iadd c_211_100).trans ?_
      refine (E_il c_211_101 rfl).trans ?_
      refine (E_ias (v := u4.1) c_211_103 sh_87 rfl).trans (ax_gd ?_)
      refine (E_al c_211_104 rfl (by decide)).trans ?_
      refine (E_gfr (k := 6) (r := 87) c_211_105 sh_82 rfl rfl rfl).trans ?_
      refine (E_il c_211_108 rfl).trans ?_
      refine (E_ic (v := (3 : Int32)) c_211_109 (by decide)).trans ?_
      refine (E_iadd c_211_110).trans ?_
      refine (E_il c_211_111 rfl).trans ?_
      refine (E_ias (v := u5.1) c_211_113 sh_87 rfl).trans (ax_gd ?_)
      refine (E_al c_211_114 rfl (by decide)).trans ?_
      refine (E_gfr (k := 6) (r := 87) c_211_115 sh_82 rfl rfl rfl).trans ?_
      refine (E_ic (v := (0 : Int32)) c_211_118 (by decide)).trans ?_
      refine (E_dup2 c_211_119 ⟨rfl, rfl⟩).trans ?_
      refine (E_ialk (k := 0) c_211_120 sh_87 (by decide) (by decide)).trans ?_
      refine (E_ic (v := (1 : Int32)) c_211_121 (by decide)).trans ?_
      refine (E_iadd c_211_122).trans ?_
      refine (E_iask (k := 0) (v := (((sI (sI (sI (sI u6 87 ((2 : Int32) + ((4 : Int32) * (u1.1 87 0))).toNatClampNeg u2.1) 87 (((2 : Int32) + ((4 : Int32) * (u1.1 87 0))) + (1 : Int32)).toNatClampNeg u3.1) 87 (((2 : Int32) + ((4 : Int32) * (u1.1 87 0))) + (2 : Int32)).toNatClampNeg u4.1) 87 (((2 : Int32) + ((4 : Int32) * (u1.1 87 0))) + (3 : Int32)).toNatClampNeg u5.1).1 87 0) + (1 : Int32))) c_211_123 sh_87 rfl (by decide) (by decide)).trans ?_
      exact E_rV c_211_124 mi_211
    · exact E_rV c_211_124 mi_211
  · refine (E_al c_211_16 rfl (by decide)).trans ?_
    refine (E_ic (v := (1 : Int32)) c_211_17 (by decide)).trans ?_
    refine (E_cVV c_211_18 mi_213 rfl (sO_kl sh_82) (Nat.le_of_ble_eq_true rfl) (Nat.le_of_ble_eq_true rfl)).trans (ax_bnd fun u7 => ?_)
    refine (E_ic (v := (2 : Int32)) c_211_21 (by decide)).trans ?_
    refine (E_ic (v := (4 : Int32)) c_211_22 (by decide)).trans ?_
    refine (E_al c_211_23 rfl (by decide)).trans ?_
    refine (E_gfr (k := 6) (r := 87) c_211_24 sh_82 rfl rfl rfl).trans ?_
    refine (E_ic (v := (0 : Int32)) c_211_27 (by decide)).trans ?_
    refine (E_ialk (k := 0) c_211_28 sh_87 (by decide) (by decide)).trans ?_
    refine (E_imul c_211_29).trans ?_
    refine (E_iadd c_211_30).trans ?_
    refine (E_is (L' := [.ref 82, .int ((2 : Int32) + ((4 : Int32) * (u7.1 87 0))), .null, .null, .null, .null]) c_211_31 (Nat.le_of_ble_eq_true rfl) rfl).trans ?_
    refine (E_al c_211_32 rfl (by decide)).trans ?_
    refine (E_ic (v := (0 : Int32)) c_211_33 (by decide)).trans ?_
    refine (E_ic (v := (3 : Int32)) c_211_34 (by decide)).trans ?_
    refine (E_cIV c_211_35 mi_214 rfl rfl (sO_kl sh_82) (Nat.le_of_ble_eq_true rfl) (Nat.le_of_ble_eq_true rfl)).trans (ax_bnd fun u8 => ?_)
    refine (E_is (L' := [.ref 82, .int ((2 : Int32) + ((4 : Int32) * (u7.1 87 0))), .int u8.1, .null, .null, .null]) c_211_38 (Nat.le_of_ble_eq_true rfl) rfl).trans ?_
    refine (E_al c_211_39 rfl (by decide)).trans ?_
    refine (E_ic (v := (0 : Int32)) c_211_40 (by decide)).trans ?_
    refine (E_ic (v := (3 : Int32)) c_211_41 (by decide)).trans ?_
    refine (E_cIV c_211_42 mi_214 rfl rfl (sO_kl sh_82) (Nat.le_of_ble_eq_true rfl) (Nat.le_of_ble_eq_true rfl)).trans (ax_bnd fun u9 => ?_)
    refine (E_is (L' := [.ref 82, .int ((2 : Int32) + ((4 : Int32) * (u7.1 87 0))), .int u8.1, .int u9.1, .null, .null]) c_211_45 (Nat.le_of_ble_eq_true rfl) rfl).trans ?_
    refine (E_al c_211_46 rfl (by decide)).trans ?_
    refine (E_ic (v := (1800 : Int32)) c_211_47 (by decide)).trans ?_
    refine (E_ic (v := (2000 : Int32)) c_211_50 (by decide)).trans ?_
    refine (E_cIV c_211_53 mi_214 rfl rfl (sO_kl sh_82) (Nat.le_of_ble_eq_true rfl) (Nat.le_of_ble_eq_true rfl)).trans (ax_bnd fun u10 => ?_)
    refine (E_is (L' := [.ref 82, .int ((2 : Int32) + ((4 : Int32) * (u7.1 87 0))), .int u8.1, .int u9.1, .int u10.1, .null]) c_211_56 (Nat.le_of_ble_eq_true rfl) rfl).trans ?_
    refine (E_al c_211_58 rfl (by decide)).trans ?_
    refine (E_ic (v := (1 : Int32)) c_211_59 (by decide)).trans ?_
    refine (E_ic (v := (99 : Int32)) c_211_60 (by decide)).trans ?_
    refine (E_cIV c_211_62 mi_214 rfl rfl (sO_kl sh_82) (Nat.le_of_ble_eq_true rfl) (Nat.le_of_ble_eq_true rfl)).trans (ax_bnd fun u11 => ?_)
    refine (E_is (L' := [.ref 82, .int ((2 : Int32) + ((4 : Int32) * (u7.1 87 0))), .int u8.1, .int u9.1, .int u10.1, .int u11.1]) c_211_65 (Nat.le_of_ble_eq_true rfl) rfl).trans ?_
    refine (E_al c_211_67 rfl (by decide)).trans ?_
    refine (E_cVV c_211_68 mi_216 rfl (sO_kl sh_82) (Nat.le_of_ble_eq_true rfl) (Nat.le_of_ble_eq_true rfl)).trans (ax_bnd fun u12 => ?_)
    refine (E_al c_211_71 rfl (by decide)).trans ?_
    refine (E_gfi (k := 17) c_211_72 sh_82 rfl rfl rfl (by decide)).trans ?_
    refine (E_b0_ne (q := 124) c_211_75 rfl).trans (ax_ite ?_ ?_)
    · refine (E_al c_211_78 rfl (by decide)).trans ?_
      refine (E_gfr (k := 6) (r := 87) c_211_79 sh_82 rfl rfl rfl).trans ?_
      refine (E_il c_211_82 rfl).trans ?_
      refine (E_il c_211_83 rfl).trans ?_
      refine (E_ias (v := u8.1) c_211_84 sh_87 rfl).trans (ax_gd ?_)
      refine (E_al c_211_85 rfl (by decide)).trans ?_
      refine (E_gfr (k := 6) (r := 87) c_211_86 sh_82 rfl rfl rfl).trans ?_
      refine (E_il c_211_89 rfl).trans ?_
      refine (E_ic (v := (1 : Int32)) c_211_90 (by decide)).trans ?_
      refine (E_iadd c_211_91).trans ?_
      refine (E_il c_211_92 rfl).trans ?_
      refine (E_ias (v := u9.1) c_211_93 sh_87 rfl).trans (ax_gd ?_)
      refine (E_al c_211_94 rfl (by decide)).trans ?_
      refine (E_gfr (k := 6) (r := 87) c_211_95 sh_82 rfl rfl rfl).trans ?_
      refine (E_il c_211_98 rfl).trans ?_
      refine (E_ic (v := (2 : Int32)) c_211_99 (by decide)).trans ?_
      refine (E_iadd c_211_100).trans ?_
      refine (E_il c_211_101 rfl).trans ?_
      refine (E_ias (v := u10.1) c_211_103 sh_87 rfl).trans (ax_gd ?_)
      refine (E_al c_211_104 rfl (by decide)).trans ?_
      refine (E_gfr (k := 6) (r := 87) c_211_105 sh_82 rfl rfl rfl).trans ?_
      refine (E_il c_211_108 rfl).trans ?_
      refine (E_ic (v := (3 : Int32)) c_211_109 (by decide)).trans ?_
      refine (E_iadd c_211_110).trans ?_
      refine (E_il c_211_111 rfl).trans ?_
      refine (E_ias (v := u11.1) c_211_113 sh_87 rfl).trans (ax_gd ?_)
      refine (E_al c_211_114 rfl (by decide)).trans ?_
      refine (E_gfr (k := 6) (r := 87) c_211_115 sh_82 rfl rfl rfl).trans ?_
      refine (E_ic (v := (0 : Int32)) c_211_118 (by decide)).trans ?_
      refine (E_dup2 c_211_119 ⟨rfl, rfl⟩).trans ?_
      refine (E_ialk (k := 0) c_211_120 sh_87 (by decide) (by decide)).trans ?_
      refine (E_ic (v := (1 : Int32)) c_211_121 (by decide)).trans ?_
      refine (E_iadd c_211_122).trans ?_
      refine (E_iask (k := 0) (v := (((sI (sI (sI (sI u12 87 ((2 : Int32) + ((4 : Int32) * (u7.1 87 0))).toNatClampNeg u8.1) 87 (((2 : Int32) + ((4 : Int32) * (u7.1 87 0))) + (1 : Int32)).toNatClampNeg u9.1) 87 (((2 : Int32) + ((4 : Int32) * (u7.1 87 0))) + (2 : Int32)).toNatClampNeg u10.1) 87 (((2 : Int32) + ((4 : Int32) * (u7.1 87 0))) + (3 : Int32)).toNatClampNeg u11.1).1 87 0) + (1 : Int32))) c_211_123 sh_87 rfl (by decide) (by decide)).trans ?_
      exact E_rV c_211_124 mi_211
    · exact E_rV c_211_124 mi_211
set_option maxHeartbeats 4000000 in
theorem u_217_82 (d : Nat) (σ : ax_S) : ev sO (d + 4) 217 0 [.ref 82, .null, .null, .null, .null] [] σ = if (σ.1 87 1) = (8 : Int32) then ((cV sO (d + 3) 212 [.ref 82, .int (3 : Int32)] σ).bind fun u0 => (cV sO (d + 3) 213 [.ref 82, .int (1 : Int32)] u0).bind fun u1 => (cI sO (d + 3) 214 [.ref 82, .int (0 : Int32), .int (7 : Int32)] u1).bind fun u2 => (cI sO (d + 3) 214 [.ref 82, .int (1800 : Int32), .int (2000 : Int32)] u2.2).bind fun u3 => if (u3.2.1 82 17) = 0 then ((cI sO (d + 3) 214 [.ref 82, .int u3.1, .int (2000 : Int32)] u3.2).bind fun u4 => (cV sO (d + 3) 216 [.ref 82] u4.2).bind fun u5 => if (u5.1 82 17) = 0 then (gd (0 ≤ ((66 : Int32) + ((3 : Int32) * (u1.1 87 1))).toInt ∧ ((66 : Int32) + ((3 : Int32) * (u1.1 87 1))).toInt < (102 : Nat)) (gd (0 ≤ (((66 : Int32) + ((3 : Int32) * (u1.1 87 1))) + (1 : Int32)).toInt ∧ (((66 : Int32) + ((3 : Int32) * (u1.1 87 1))) + (1 : Int32)).toInt < (102 : Nat)) (gd (0 ≤ (((66 : Int32) + ((3 : Int32) * (u1.1 87 1))) + (2 : Int32)).toInt ∧ (((66 : Int32) + ((3 : Int32) * (u1.1 87 1))) + (2 : Int32)).toInt < (102 : Nat)) (some (none, (sI (sI (sI (sI u5 87 ((66 : Int32) + ((3 : Int32) * (u1.1 87 1))).toNatClampNeg u2.1) 87 (((66 : Int32) + ((3 : Int32) * (u1.1 87 1))) + (1 : Int32)).toNatClampNeg u3.1) 87 (((66 : Int32) + ((3 : Int32) * (u1.1 87 1))) + (2 : Int32)).toNatClampNeg u4.1) 87 1 (((sI (sI (sI u5 87 ((66 : Int32) + ((3 : Int32) * (u1.1 87 1))).toNatClampNeg u2.1) 87 (((66 : Int32) + ((3 : Int32) * (u1.1 87 1))) + (1 : Int32)).toNatClampNeg u3.1) 87 (((66 : Int32) + ((3 : Int32) * (u1.1 87 1))) + (2 : Int32)).toNatClampNeg u4.1).1 87 1) + (1 : Int32)))))))) else (some (none, u5))) else ((cI sO (d + 3) 214 [.ref 82, .int (0 : Int32), .int (2000 : Int32)] u3.2).bind fun u6 => (cV sO (d + 3) 216 [.ref 82] u6.2).bind fun u7 => if (u7.1 82 17) = 0 then (gd (0 ≤ ((66 : Int32) + ((3 : Int32) * (u1.1 87 1))).toInt ∧ ((66 : Int32) + ((3 : Int32) * (u1.1 87 1))).toInt < (102 : Nat)) (gd (0 ≤ (((66 : Int32) + ((3 : Int32) * (u1.1 87 1))) + (1 : Int32)).toInt ∧ (((66 : Int32) + ((3 : Int32) * (u1.1 87 1))) + (1 : Int32)).toInt < (102 : Nat)) (gd (0 ≤ (((66 : Int32) + ((3 : Int32) * (u1.1 87 1))) + (2 : Int32)).toInt ∧ (((66 : Int32) + ((3 : Int32) * (u1.1 87 1))) + (2 : Int32)).toInt < (102 : Nat)) (some (none, (sI (sI (sI (sI u7 87 ((66 : Int32) + ((3 : Int32) * (u1.1 87 1))).toNatClampNeg u2.1) 87 (((66 : Int32) + ((3 : Int32) * (u1.1 87 1))) + (1 : Int32)).toNatClampNeg u3.1) 87 (((66 : Int32) + ((3 : Int32) * (u1.1 87 1))) + (2 : Int32)).toNatClampNeg u6.1) 87 1 (((sI (sI (sI u7 87 ((66 : Int32) + ((3 : Int32) * (u1.1 87 1))).toNatClampNeg u2.1) 87 (((66 : Int32) + ((3 : Int32) * (u1.1 87 1))) + (1 : Int32)).toNatClampNeg u3.1) 87 (((66 : Int32) + ((3 : Int32) * (u1.1 87 1))) + (2 : Int32)).toNatClampNeg u6.1).1 87 1) + (1 : Int32)))))))) else (some (none, u7)))) else ((cV sO (d + 3) 213 [.ref 82, .int (1 : Int32)] σ).bind fun u8 => (cI sO (d + 3) 214 [.ref 82, .int (0 : Int32), .int (7 : Int32)] u8).bind fun u9 => (cI sO (d + 3) 214 [.ref 82, .int (1800 : Int32), .int (2000 : Int32)] u9.2).bind fun u10 => if (u10.2.1 82 17) = 0 then ((cI sO (d + 3) 214 [.ref 82, .int u10.1, .int (2000 : Int32)] u10.2).bind fun u11 => (cV sO (d + 3) 216 [.ref 82] u11.2).bind fun u12 => if (u12.1 82 17) = 0 then (gd (0 ≤ ((66 : Int32) + ((3 : Int32) * (u8.1 87 1))).toInt ∧ ((66 : Int32) + ((3 : Int32) * (u8.1 87 1))).toInt < (102 : Nat)) (gd (0 ≤ (((66 : Int32) + ((3 : Int32) * (u8.1 87 1))) + (1 : Int32)).toInt ∧ (((66 : Int32) + ((3 : Int32) * (u8.1 87 1))) + (1 : Int32)).toInt < (102 : Nat)) (gd (0 ≤ (((66 : Int32) + ((3 : Int32) * (u8.1 87 1))) + (2 : Int32)).toInt ∧ (((66 : Int32) + ((3 : Int32) * (u8.1 87 1))) + (2 : Int32)).toInt < (102 : Nat)) (some (none, (sI (sI (sI (sI u12 87 ((66 : Int32) + ((3 : Int32) * (u8.1 87 1))).toNatClampNeg u9.1) 87 (((66 : Int32) + ((3 : Int32) * (u8.1 87 1))) + (1 : Int32)).toNatClampNeg u10.1) 87 (((66 : Int32) + ((3 : Int32) * (u8.1 87 1))) + (2 : Int32)).toNatClampNeg u11.1) 87 1 (((sI (sI (sI u12 87 ((66 : Int32) + ((3 : Int32) * (u8.1 87 1))).toNatClampNeg u9.1) 87 (((66 : Int32) + ((3 : Int32) * (u8.1 87 1))) + (1 : Int32)).toNatClampNeg u10.1) 87 (((66 : Int32) + ((3 : Int32) * (u8.1 87 1))) + (2 : Int32)).toNatClampNeg u11.1).1 87 1) + (1 : Int32)))))))) else (some (none, u12))) else ((cI sO (d + 3) 214 [.ref 82, .int (0 : Int32), .int (2000 : Int32)] u10.2).bind fun u13 => (cV sO (d + 3) 216 [.ref 82] u13.2).bind fun u14 => if (u14.1 82 17) = 0 then (gd (0 ≤ ((66 : Int32) + ((3 : Int32) * (u8.1 87 1))).toInt ∧ ((66 : Int32) + ((3 : Int32) * (u8.1 87 1))).toInt < (102 : Nat)) (gd (0 ≤ (((66 : Int32) + ((3 : Int32) * (u8.1 87 1))) + (1 : Int32)).toInt ∧ (((66 : Int32) + ((3 : Int32) * (u8.1 87 1))) + (1 : Int32)).toInt < (102 : Nat)) (gd (0 ≤ (((66 : Int32) + ((3 : Int32) * (u8.1 87 1))) + (2 : Int32)).toInt ∧ (((66 : Int32) + ((3 : Int32) * (u8.1 87 1))) + (2 : Int32)).toInt < (102 : Nat)) (some (none, (sI (sI (sI (sI u14 87 ((66 : Int32) + ((3 : Int32) * (u8.1 87 1))).toNatClampNeg u9.1) 87 (((66 : Int32) + ((3 : Int32) * (u8.1 87 1))) + (1 : Int32)).toNatClampNeg u10.1) 87 (((66 : Int32) + ((3 : Int32) * (u8.1 87 1))) + (2 : Int32)).toNatClampNeg u13.1) 87 1 (((sI (sI (sI u14 87 ((66 : Int32) + ((3 : Int32) * (u8.1 87 1))).toNatClampNeg u9.1) 87 (((66 : Int32) + ((3 : Int32) * (u8.1 87 1))) + (1 : Int32)).toNatClampNeg u10.1) 87 (((66 : Int32) + ((3 : Int32) * (u8.1 87 1))) + (2 : Int32)).toNatClampNeg u13.1).1 87 1) + (1 : Int32)))))))) else (some (none, u14)))) := by
  refine (E_al c_217_0 rfl (by decide)).trans ?_
  refine (E_gfr (k := 6) (r := 87) c_217_1 sh_82 rfl rfl rfl).trans ?_
  refine (E_ic (v := (1 : Int32)) c_217_4 (by decide)).trans ?_
  refine (E_ialk (k := 1) c_217_5 sh_87 (by decide) (by decide)).trans ?_
  refine (E_ic (v := (8 : Int32)) c_217_6 (by decide)).trans ?_
  refine (E_br_ne (q := 16) c_217_8 rfl).trans (ax_ite ?_ ?_)
  · refine (E_al c_217_11 rfl (by decide)).trans ?_
    refine (E_ic (v := (3 : Int32)) c_217_12 (by decide)).trans ?_
    refine (E_cVV c_217_13 mi_212 rfl (sO_kl sh_82) (Nat.le_of_ble_eq_true rfl) (Nat.le_of_ble_eq_true rfl)).trans (ax_bnd fun u0 => ?_)
    refine (E_al c_217_16 rfl (by decide)).trans ?_
    refine (E_ic (v := (1 : Int32)) c_217_17 (by decide)).trans ?_
    refine (E_cVV c_217_18 mi_213 rfl (sO_kl sh_82) (Nat.le_of_ble_eq_true rfl) (Nat.le_of_ble_eq_true rfl)).trans (ax_bnd fun u1 => ?_)
    refine (E_ic (v := (66 : Int32)) c_217_21 (by decide)).trans ?_
    refine (E_ic (v := (3 : Int32)) c_217_23 (by decide)).trans ?_
    refine (E_al c_217_24 rfl (by decide)).trans ?_
    refine (E_gfr (k := 6) (r := 87) c_217_25 sh_82 rfl rfl rfl).trans ?_
    refine (E_ic (v := (1 : Int32)) c_217_28 (by decide)).trans ?_
    refine (E_ialk (k := 1) c_217_29 sh_87 (by decide) (by decide)).trans ?_
    refine (E_imul c_217_30).trans ?_
    refine (E_iadd c_217_31).trans ?_
    refine (E_is (L' := [.ref 82, .int ((66 : Int32) + ((3 : Int32) * (u1.1 87 1))), .null, .null, .null]) c_217_32 (Nat.le_of_ble_eq_true rfl) rfl).trans ?_
    refine (E_al c_217_33 rfl (by decide)).trans ?_
    refine (E_ic (v := (0 : Int32)) c_217_34 (by decide)).trans ?_
    refine (E_ic (v := (7 : Int32)) c_217_35 (by decide)).trans ?_
    refine (E_cIV c_217_37 mi_214 rfl rfl (sO_kl sh_82) (Nat.le_of_ble_eq_true rfl) (Nat.le_of_ble_eq_true rfl)).trans (ax_bnd fun u2 => ?_)
    refine (E_is (L' := [.ref 82, .int ((66 : Int32) + ((3 : Int32) * (u1.1 87 1))), .int u2.1, .null, .null]) c_217_40 (Nat.le_of_ble_eq_true rfl) rfl).trans ?_
    refine (E_al c_217_41 rfl (by decide)).trans ?_
    refine (E_ic (v := (1800 : Int32)) c_217_42 (by decide)).trans ?_
    refine (E_ic (v := (2000 : Int32)) c_217_45 (by decide)).trans ?_
    refine (E_cIV c_217_48 mi_214 rfl rfl (sO_kl sh_82) (Nat.le_of_ble_eq_true rfl) (Nat.le_of_ble_eq_true rfl)).trans (ax_bnd fun u3 => ?_)
    refine (E_is (L' := [.ref 82, .int ((66 : Int32) + ((3 : Int32) * (u1.1 87 1))), .int u2.1, .int u3.1, .null]) c_217_51 (Nat.le_of_ble_eq_true rfl) rfl).trans ?_
    refine (E_al c_217_52 rfl (by decide)).trans ?_
    refine (E_al c_217_53 rfl (by decide)).trans ?_
    refine (E_gfi (k := 17) c_217_54 sh_82 rfl rfl rfl (by decide)).trans ?_
    refine (E_b0_ne (q := 64) c_217_57 rfl).trans (ax_ite ?_ ?_)
    · refine (E_il c_217_60 rfl).trans ?_
      refine (E_goto (q := 65) c_217_61 rfl).trans ?_
      refine (E_ic (v := (2000 : Int32)) c_217_65 (by decide)).trans ?_
      refine (E_cIV c_217_68 mi_214 rfl rfl (sO_kl sh_82) (Nat.le_of_ble_eq_true rfl) (Nat.le_of_ble_eq_true rfl)).trans (ax_bnd fun u4 => ?_)
      refine (E_is (L' := [.ref 82, .int ((66 : Int32) + ((3 : Int32) * (u1.1 87 1))), .int u2.1, .int u3.1, .int u4.1]) c_217_71 (Nat.le_of_ble_eq_true rfl) rfl).trans ?_
      refine (E_al c_217_73 rfl (by decide)).trans ?_
      refine (E_cVV c_217_74 mi_216 rfl (sO_kl sh_82) (Nat.le_of_ble_eq_true rfl) (Nat.le_of_ble_eq_true rfl)).trans (ax_bnd fun u5 => ?_)
      refine (E_al c_217_77 rfl (by decide)).trans ?_
      refine (E_gfi (k := 17) c_217_78 sh_82 rfl rfl rfl (by decide)).trans ?_
      refine (E_b0_ne (q := 120) c_217_81 rfl).trans (ax_ite ?_ ?_)
      · refine (E_al c_217_84 rfl (by decide)).trans ?_
        refine (E_gfr (k := 6) (r := 87) c_217_85 sh_82 rfl rfl rfl).trans ?_
        refine (E_il c_217_88 rfl).trans ?_
        refine (E_il c_217_89 rfl).trans ?_
        refine (E_ias (v := u2.1) c_217_90 sh_87 rfl).trans (ax_gd ?_)
        refine (E_al c_217_91 rfl (by decide)).trans ?_
        refine (E_gfr (k := 6) (r := 87) c_217_92 sh_82 rfl rfl rfl).trans ?_
        refine (E_il c_217_95 rfl).trans ?_
        refine (E_ic (v := (1 : Int32)) c_217_96 (by decide)).trans ?_
        refine (E_iadd c_217_97).trans ?_
        refine (E_il c_217_98 rfl).trans ?_
        refine (E_ias (v := u3.1) c_217_99 sh_87 rfl).trans (ax_gd ?_)
        refine (E_al c_217_100 rfl (by decide)).trans ?_
        refine (E_gfr (k := 6) (r := 87) c_217_101 sh_82 rfl rfl rfl).trans ?_
        refine (E_il c_217_104 rfl).trans ?_
        refine (E_ic (v := (2 : Int32)) c_217_105 (by decide)).trans ?_
        refine (E_iadd c_217_106).trans ?_
        refine (E_il c_217_107 rfl).trans ?_
        refine (E_ias (v := u4.1) c_217_109 sh_87 rfl).trans (ax_gd ?_)
        refine (E_al c_217_110 rfl (by decide)).trans ?_
        refine (E_gfr (k := 6) (r := 87) c_217_111 sh_82 rfl rfl rfl).trans ?_
        refine (E_ic (v := (1 : Int32)) c_217_114 (by decide)).trans ?_
        refine (E_dup2 c_217_115 ⟨rfl, rfl⟩).trans ?_
        refine (E_ialk (k := 1) c_217_116 sh_87 (by decide) (by decide)).trans ?_
        refine (E_ic (v := (1 : Int32)) c_217_117 (by decide)).trans ?_
        refine (E_iadd c_217_118).trans ?_
        refine (E_iask (k := 1) (v := (((sI (sI (sI u5 87 ((66 : Int32) + ((3 : Int32) * (u1.1 87 1))).toNatClampNeg u2.1) 87 (((66 : Int32) + ((3 : Int32) * (u1.1 87 1))) + (1 : Int32)).toNatClampNeg u3.1) 87 (((66 : Int32) + ((3 : Int32) * (u1.1 87 1))) + (2 : Int32)).toNatClampNeg u4.1).1 87 1) + (1 : Int32))) c_217_119 sh_87 rfl (by decide) (by decide)).trans ?_
        exact E_rV c_217_120 mi_217
      · exact E_rV c_217_120 mi_217
    · refine (E_ic (v := (0 : Int32)) c_217_64 (by decide)).trans ?_
      refine (E_ic (v := (2000 : Int32)) c_217_65 (by decide)).trans ?_
      refine (E_cIV c_217_68 mi_214 rfl rfl (sO_kl sh_82) (Nat.le_of_ble_eq_true rfl) (Nat.le_of_ble_eq_true rfl)).trans (ax_bnd fun u6 => ?_)
      refine (E_is (L' := [.ref 82, .int ((66 : Int32) + ((3 : Int32) * (u1.1 87 1))), .int u2.1, .int u3.1, .int u6.1]) c_217_71 (Nat.le_of_ble_eq_true rfl) rfl).trans ?_
      refine (E_al c_217_73 rfl (by decide)).trans ?_
      refine (E_cVV c_217_74 mi_216 rfl (sO_kl sh_82) (Nat.le_of_ble_eq_true rfl) (Nat.le_of_ble_eq_true rfl)).trans (ax_bnd fun u7 => ?_)
      refine (E_al c_217_77 rfl (by decide)).trans ?_
      refine (E_gfi (k := 17) c_217_78 sh_82 rfl rfl rfl (by decide)).trans ?_
      refine (E_b0_ne (q := 120) c_217_81 rfl).trans (ax_ite ?_ ?_)
      · refine (E_al c_217_84 rfl (by decide)).trans ?_
        refine (E_gfr (k := 6) (r := 87) c_217_85 sh_82 rfl rfl rfl).trans ?_
        refine (E_il c_217_88 rfl).trans ?_
        refine (E_il c_217_89 rfl).trans ?_
        refine (E_ias (v := u2.1) c_217_90 sh_87 rfl).trans (ax_gd ?_)
        refine (E_al c_217_91 rfl (by decide)).trans ?_
        refine (E_gfr (k := 6) (r := 87) c_217_92 sh_82 rfl rfl rfl).trans ?_
        refine (E_il c_217_95 rfl).trans ?_
        refine (E_ic (v := (1 : Int32)) c_217_96 (by decide)).trans ?_
        refine (E_iadd c_217_97).trans ?_
        refine (E_il c_217_98 rfl).trans ?_
        refine (E_ias (v := u3.1) c_217_99 sh_87 rfl).trans (ax_gd ?_)
        refine (E_al c_217_100 rfl (by decide)).trans ?_
        refine (E_gfr (k := 6) (r := 87) c_217_101 sh_82 rfl rfl rfl).trans ?_
        refine (E_il c_217_104 rfl).trans ?_
        refine (E_ic (v := (2 : Int32)) c_217_105 (by decide)).trans ?_
        refine (E_iadd c_217_106).trans ?_
        refine (E_il c_217_107 rfl).trans ?_
        refine (E_ias (v := u6.1) c_217_109 sh_87 rfl).trans (ax_gd ?_)
        refine (E_al c_217_110 rfl (by decide)).trans ?_
        refine (E_gfr (k := 6) (r := 87) c_217_111 sh_82 rfl rfl rfl).trans ?_
        refine (E_ic (v := (1 : Int32)) c_217_114 (by decide)).trans ?_
        refine (E_dup2 c_217_115 ⟨rfl, rfl⟩).trans ?_
        refine (E_ialk (k := 1) c_217_116 sh_87 (by decide) (by decide)).trans ?_
        refine (E_ic (v := (1 : Int32)) c_217_117 (by decide)).trans ?_
        refine (E_iadd c_217_118).trans ?_
        refine (E_iask (k := 1) (v := (((sI (sI (sI u7 87 ((66 : Int32) + ((3 : Int32) * (u1.1 87 1))).toNatClampNeg u2.1) 87 (((66 : Int32) + ((3 : Int32) * (u1.1 87 1))) + (1 : Int32)).toNatClampNeg u3.1) 87 (((66 : Int32) + ((3 : Int32) * (u1.1 87 1))) + (2 : Int32)).toNatClampNeg u6.1).1 87 1) + (1 : Int32))) c_217_119 sh_87 rfl (by decide) (by decide)).trans ?_
        exact E_rV c_217_120 mi_217
      · exact E_rV c_217_120 mi_217
  · refine (E_al c_217_16 rfl (by decide)).trans ?_
    refine (E_ic (v := (1 : Int32)) c_217_17 (by decide)).trans ?_
    refine (E_cVV c_217_18 mi_213 rfl (sO_kl sh_82) (Nat.le_of_ble_eq_true rfl) (Nat.le_of_ble_eq_true rfl)).trans (ax_bnd fun u8 => ?_)
    refine (E_ic (v := (66 : Int32)) c_217_21 (by decide)).trans ?_
    refine (E_ic (v := (3 : Int32)) c_217_23 (by decide)).trans ?_
    refine (E_al c_217_24 rfl (by decide)).trans ?_
    refine (E_gfr (k := 6) (r := 87) c_217_25 sh_82 rfl rfl rfl).trans ?_
    refine (E_ic (v := (1 : Int32)) c_217_28 (by decide)).trans ?_
    refine (E_ialk (k := 1) c_217_29 sh_87 (by decide) (by decide)).trans ?_
    refine (E_imul c_217_30).trans ?_
    refine (E_iadd c_217_31).trans ?_
    refine (E_is (L' := [.ref 82, .int ((66 : Int32) + ((3 : Int32) * (u8.1 87 1))), .null, .null, .null]) c_217_32 (Nat.le_of_ble_eq_true rfl) rfl).trans ?_
    refine (E_al c_217_33 rfl (by decide)).trans ?_
    refine (E_ic (v := (0 : Int32)) c_217_34 (by decide)).trans ?_
    refine (E_ic (v := (7 : Int32)) c_217_35 (by decide)).trans ?_
    refine (E_cIV c_217_37 mi_214 rfl rfl (sO_kl sh_82) (Nat.le_of_ble_eq_true rfl) (Nat.le_of_ble_eq_true rfl)).trans (ax_bnd fun u9 => ?_)
    refine (E_is (L' := [.ref 82, .int ((66 : Int32) + ((3 : Int32) * (u8.1 87 1))), .int u9.1, .null, .null]) c_217_40 (Nat.le_of_ble_eq_true rfl) rfl).trans ?_
    refine (E_al c_217_41 rfl (by decide)).trans ?_
    refine (E_ic (v := (1800 : Int32)) c_217_42 (by decide)).trans ?_
    refine (E_ic (v := (2000 : Int32)) c_217_45 (by decide)).trans ?_
    refine (E_cIV c_217_48 mi_214 rfl rfl (sO_kl sh_82) (Nat.le_of_ble_eq_true rfl) (Nat.le_of_ble_eq_true rfl)).trans (ax_bnd fun u10 => ?_)
    refine (E_is (L' := [.ref 82, .int ((66 : Int32) + ((3 : Int32) * (u8.1 87 1))), .int u9.1, .int u10.1, .null]) c_217_51 (Nat.le_of_ble_eq_true rfl) rfl).trans ?_
    refine (E_al c_217_52 rfl (by decide)).trans ?_
    refine (E_al c_217_53 rfl (by decide)).trans ?_
    refine (E_gfi (k := 17) c_217_54 sh_82 rfl rfl rfl (by decide)).trans ?_
    refine (E_b0_ne (q := 64) c_217_57 rfl).trans (ax_ite ?_ ?_)
    · refine (E_il c_217_60 rfl).trans ?_
      refine (E_goto (q := 65) c_217_61 rfl).trans ?_
      refine (E_ic (v := (2000 : Int32)) c_217_65 (by decide)).trans ?_
      refine (E_cIV c_217_68 mi_214 rfl rfl (sO_kl sh_82) (Nat.le_of_ble_eq_true rfl) (Nat.le_of_ble_eq_true rfl)).trans (ax_bnd fun u11 => ?_)
      refine (E_is (L' := [.ref 82, .int ((66 : Int32) + ((3 : Int32) * (u8.1 87 1))), .int u9.1, .int u10.1, .int u11.1]) c_217_71 (Nat.le_of_ble_eq_true rfl) rfl).trans ?_
      refine (E_al c_217_73 rfl (by decide)).trans ?_
      refine (E_cVV c_217_74 mi_216 rfl (sO_kl sh_82) (Nat.le_of_ble_eq_true rfl) (Nat.le_of_ble_eq_true rfl)).trans (ax_bnd fun u12 => ?_)
      refine (E_al c_217_77 rfl (by decide)).trans ?_
      refine (E_gfi (k := 17) c_217_78 sh_82 rfl rfl rfl (by decide)).trans ?_
      refine (E_b0_ne (q := 120) c_217_81 rfl).trans (ax_ite ?_ ?_)
      · refine (E_al c_217_84 rfl (by decide)).trans ?_
        refine (E_gfr (k := 6) (r := 87) c_217_85 sh_82 rfl rfl rfl).trans ?_
        refine (E_il c_217_88 rfl).trans ?_
        refine (E_il c_217_89 rfl).trans ?_
        refine (E_ias (v := u9.1) c_217_90 sh_87 rfl).trans (ax_gd ?_)
        refine (E_al c_217_91 rfl (by decide)).trans ?_
        refine (E_gfr (k := 6) (r := 87) c_217_92 sh_82 rfl rfl rfl).trans ?_
        refine (E_il c_217_95 rfl).trans ?_
        refine (E_ic (v := (1 : Int32)) c_217_96 (by decide)).trans ?_
        refine (E_iadd c_217_97).trans ?_
        refine (E_il c_217_98 rfl).trans ?_
        refine (E_ias (v := u10.1) c_217_99 sh_87 rfl).trans (ax_gd ?_)
        refine (E_al c_217_100 rfl (by decide)).trans ?_
        refine (E_gfr (k := 6) (r := 87) c_217_101 sh_82 rfl rfl rfl).trans ?_
        refine (E_il c_217_104 rfl).trans ?_
        refine (E_ic (v := (2 : Int32)) c_217_105 (by decide)).trans ?_
        refine (E_iadd c_217_106).trans ?_
        refine (E_il c_217_107 rfl).trans ?_
        refine (E_ias (v := u11.1) c_217_109 sh_87 rfl).trans (ax_gd ?_)
        refine (E_al c_217_110 rfl (by decide)).trans ?_
        refine (E_gfr (k := 6) (r := 87) c_217_111 sh_82 rfl rfl rfl).trans ?_
        refine (E_ic (v := (1 : Int32)) c_217_114 (by decide)).trans ?_
        refine (E_dup2 c_217_115 ⟨rfl, rfl⟩).trans ?_
        refine (E_ialk (k := 1) c_217_116 sh_87 (by decide) (by decide)).trans ?_
        refine (E_ic (v := (1 : Int32)) c_217_117 (by decide)).trans ?_
        refine (E_iadd c_217_118).trans ?_
        refine (E_iask (k := 1) (v := (((sI (sI (sI u12 87 ((66 : Int32) + ((3 : Int32) * (u8.1 87 1))).toNatClampNeg u9.1) 87 (((66 : Int32) + ((3 : Int32) * (u8.1 87 1))) + (1 : Int32)).toNatClampNeg u10.1) 87 (((66 : Int32) + ((3 : Int32) * (u8.1 87 1))) + (2 : Int32)).toNatClampNeg u11.1).1 87 1) + (1 : Int32))) c_217_119 sh_87 rfl (by decide) (by decide)).trans ?_
        exact E_rV c_217_120 mi_217
      · exact E_rV c_217_120 mi_217
    · refine (E_ic (v := (0 : Int32)) c_217_64 (by decide)).trans ?_
      refine (E_ic (v := (2000 : Int32)) c_217_65 (by decide)).trans ?_
      refine (E_cIV c_217_68 mi_214 rfl rfl (sO_kl sh_82) (Nat.le_of_ble_eq_true rfl) (Nat.le_of_ble_eq_true rfl)).trans (ax_bnd fun u13 => ?_)
      refine (E_is (L' := [.ref 82, .int ((66 : Int32) + ((3 : Int32) * (u8.1 87 1))), .int u9.1, .int u10.1, .int u13.1]) c_217_71 (Nat.le_of_ble_eq_true rfl) rfl).trans ?_
      refine (E_al c_217_73 rfl (by decide)).trans ?_
      refine (E_cVV c_217_74 mi_216 rfl (sO_kl sh_82) (Nat.le_of_ble_eq_true rfl) (Nat.le_of_ble_eq_true rfl)).trans (ax_bnd fun u14 => ?_)
      refine (E_al c_217_77 rfl (by decide)).trans ?_
      refine (E_gfi (k := 17) c_217_78 sh_82 rfl rfl rfl (by decide)).trans ?_
      refine (E_b0_ne (q := 120) c_217_81 rfl).trans (ax_ite ?_ ?_)
      · refine (E_al c_217_84 rfl (by decide)).trans ?_
        refine (E_gfr (k := 6) (r := 87) c_217_85 sh_82 rfl rfl rfl).trans ?_
        refine (E_il c_217_88 rfl).trans ?_
        refine (E_il c_217_89 rfl).trans ?_
        refine (E_ias (v := u9.1) c_217_90 sh_87 rfl).trans (ax_gd ?_)
        refine (E_al c_217_91 rfl (by decide)).trans ?_
        refine (E_gfr (k := 6) (r := 87) c_217_92 sh_82 rfl rfl rfl).trans ?_
        refine (E_il c_217_95 rfl).trans ?_
        refine (E_ic (v := (1 : Int32)) c_217_96 (by decide)).trans ?_
        refine (E_iadd c_217_97).trans ?_
        refine (E_il c_217_98 rfl).trans ?_
        refine (E_ias (v := u10.1) c_217_99 sh_87 rfl).trans (ax_gd ?_)
        refine (E_al c_217_100 rfl (by decide)).trans ?_
        refine (E_gfr (k := 6) (r := 87) c_217_101 sh_82 rfl rfl rfl).trans ?_
        refine (E_il c_217_104 rfl).trans ?_
        refine (E_ic (v := (2 : Int32)) c_217_105 (by decide)).trans ?_
        refine (E_iadd c_217_106).trans ?_
        refine (E_il c_217_107 rfl).trans ?_
        refine (E_ias (v := u13.1) c_217_109 sh_87 rfl).trans (ax_gd ?_)
        refine (E_al c_217_110 rfl (by decide)).trans ?_
        refine (E_gfr (k := 6) (r := 87) c_217_111 sh_82 rfl rfl rfl).trans ?_
        refine (E_ic (v := (1 : Int32)) c_217_114 (by decide)).trans ?_
        refine (E_dup2 c_217_115 ⟨rfl, rfl⟩).trans ?_
        refine (E_ialk (k := 1) c_217_116 sh_87 (by decide) (by decide)).trans ?_
        refine (E_ic (v := (1 : Int32)) c_217_117 (by decide)).trans ?_
        refine (E_iadd c_217_118).trans ?_
        refine (E_iask (k := 1) (v := (((sI (sI (sI u14 87 ((66 : Int32) + ((3 : Int32) * (u8.1 87 1))).toNatClampNeg u9.1) 87 (((66 : Int32) + ((3 : Int32) * (u8.1 87 1))) + (1 : Int32)).toNatClampNeg u10.1) 87 (((66 : Int32) + ((3 : Int32) * (u8.1 87 1))) + (2 : Int32)).toNatClampNeg u13.1).1 87 1) + (1 : Int32))) c_217_119 sh_87 rfl (by decide) (by decide)).trans ?_
        exact E_rV c_217_120 mi_217
      · exact E_rV c_217_120 mi_217
set_option maxHeartbeats 4000000 in
theorem u_213_82 (d : Nat) (σ : ax_S) (x1 : Int32) : ev sO (d + 2) 213 0 [.ref 82, .int x1] [] σ = if x1 = 0 then ((cV sO (d + 1) 212 [.ref 82, .int (1 : Int32)] σ).bind fun u0 => if (u0.1 82 17) = 0 then ((cV sO (d + 1) 206 [.ref 82] u0).bind fun u1 => some (none, u1)) else (some (none, u0))) else (if (σ.1 82 17) = 0 then ((cV sO (d + 1) 206 [.ref 82] σ).bind fun u2 => some (none, u2)) else (some (none, σ))) := by
  refine (E_il c_213_0 rfl).trans ?_
  refine (E_b0_ne (q := 9) c_213_1 rfl).trans (ax_ite ?_ ?_)
  · refine (E_al c_213_4 rfl (by decide)).trans ?_
    refine (E_ic (v := (1 : Int32)) c_213_5 (by decide)).trans ?_
    refine (E_cVV c_213_6 mi_212 rfl (sO_kl sh_82) (Nat.le_of_ble_eq_true rfl) (Nat.le_of_ble_eq_true rfl)).trans (ax_bnd fun u0 => ?_)
    refine (E_al c_213_9 rfl (by decide)).trans ?_
    refine (E_gfi (k := 17) c_213_10 sh_82 rfl rfl rfl (by decide)).trans ?_
    refine (E_b0_ne (q := 20) c_213_13 rfl).trans (ax_ite ?_ ?_)
    · refine (E_al c_213_16 rfl (by decide)).trans ?_
      refine (E_cVV c_213_17 mi_206 rfl (sO_kl sh_82) (Nat.le_of_ble_eq_true rfl) (Nat.le_of_ble_eq_true rfl)).trans (ax_bnd fun u1 => ?_)
      exact E_rV c_213_20 mi_213
    · exact E_rV c_213_20 mi_213
  · refine (E_al c_213_9 rfl (by decide)).trans ?_
    refine (E_gfi (k := 17) c_213_10 sh_82 rfl rfl rfl (by decide)).trans ?_
    refine (E_b0_ne (q := 20) c_213_13 rfl).trans (ax_ite ?_ ?_)
    · refine (E_al c_213_16 rfl (by decide)).trans ?_
      refine (E_cVV c_213_17 mi_206 rfl (sO_kl sh_82) (Nat.le_of_ble_eq_true rfl) (Nat.le_of_ble_eq_true rfl)).trans (ax_bnd fun u2 => ?_)
      exact E_rV c_213_20 mi_213
    · exact E_rV c_213_20 mi_213
set_option maxHeartbeats 4000000 in
theorem u_214_82 (d : Nat) (σ : ax_S) (x1 : Int32) (x2 : Int32) : ev sO (d + 3) 214 0 [.ref 82, .int x1, .int x2, .null] [] σ = if 0 < (σ.1 82 17) then (some (some (.int (0 : Int32)), σ)) else ((cI sO (d + 2) 215 [.ref 82] σ).bind fun u0 => if (u0.2.1 82 14) = (3 : Int32) then ((cI sO (d + 2) 198 [.long u0.1.toInt64, .long x1.toInt64, .long x2.toInt64] u0.2).bind fun u1 => if u1.1 = 0 then ((cV sO (d + 2) 212 [.ref 82, .int (2 : Int32)] u1.2).bind fun u2 => if (u2.1 82 14) = (3 : Int32) then ((cV sO (d + 2) 213 [.ref 82, .int (1 : Int32)] u2).bind fun u3 => some (some (.int u0.1), u3)) else ((cV sO (d + 2) 213 [.ref 82, .int (0 : Int32)] u2).bind fun u4 => some (some (.int u0.1), u4))) else (if (u1.2.1 82 14) = (3 : Int32) then ((cV sO (d + 2) 213 [.ref 82, .int (1 : Int32)] u1.2).bind fun u5 => some (some (.int u0.1), u5)) else ((cV sO (d + 2) 213 [.ref 82, .int (0 : Int32)] u1.2).bind fun u6 => some (some (.int u0.1), u6)))) else (if (u0.2.1 82 14) = (3 : Int32) then ((cV sO (d + 2) 213 [.ref 82, .int (1 : Int32)] u0.2).bind fun u7 => some (some (.int u0.1), u7)) else ((cV sO (d + 2) 213 [.ref 82, .int (0 : Int32)] u0.2).bind fun u8 => some (some (.int u0.1), u8)))) := by
  refine (E_al c_214_0 rfl (by decide)).trans ?_
  refine (E_gfi (k := 17) c_214_1 sh_82 rfl rfl rfl (by decide)).trans ?_
  refine (E_b0_le (q := 9) c_214_4 rfl).trans (ax_ite ?_ ?_)
  · refine (E_ic (v := (0 : Int32)) c_214_7 (by decide)).trans ?_
    exact E_rI c_214_8 mi_214
  · refine (E_al c_214_9 rfl (by decide)).trans ?_
    refine (E_cIV c_214_10 mi_215 rfl rfl (sO_kl sh_82) (Nat.le_of_ble_eq_true rfl) (Nat.le_of_ble_eq_true rfl)).trans (ax_bnd fun u0 => ?_)
    refine (E_is (L' := [.ref 82, .int x1, .int x2, .int u0.1]) c_214_13 (Nat.le_of_ble_eq_true rfl) rfl).trans ?_
    refine (E_al c_214_14 rfl (by decide)).trans ?_
    refine (E_gfi (k := 14) c_214_15 sh_82 rfl rfl rfl (by decide)).trans ?_
    refine (E_ic (v := (3 : Int32)) c_214_18 (by decide)).trans ?_
    refine (E_br_ne (q := 39) c_214_19 rfl).trans (ax_ite ?_ ?_)
    · refine (E_il c_214_22 rfl).trans ?_
      refine (E_i2l c_214_23).trans ?_
      refine (E_il c_214_24 rfl).trans ?_
      refine (E_i2l c_214_25).trans ?_
      refine (E_il c_214_26 rfl).trans ?_
      refine (E_i2l c_214_27).trans ?_
      refine (E_cIS c_214_28 mi_198 rfl rfl (Nat.le_of_ble_eq_true rfl) (Nat.le_of_ble_eq_true rfl)).trans (ax_bnd fun u1 => ?_)
      refine (E_b0_ne (q := 39) c_214_31 rfl).trans (ax_ite ?_ ?_)
      · refine (E_al c_214_34 rfl (by decide)).trans ?_
        refine (E_ic (v := (2 : Int32)) c_214_35 (by decide)).trans ?_
        refine (E_cVV c_214_36 mi_212 rfl (sO_kl sh_82) (Nat.le_of_ble_eq_true rfl) (Nat.le_of_ble_eq_true rfl)).trans (ax_bnd fun u2 => ?_)
        refine (E_al c_214_39 rfl (by decide)).trans ?_
        refine (E_al c_214_40 rfl (by decide)).trans ?_
        refine (E_gfi (k := 14) c_214_41 sh_82 rfl rfl rfl (by decide)).trans ?_
        refine (E_ic (v := (3 : Int32)) c_214_44 (by decide)).trans ?_
        refine (E_br_ne (q := 52) c_214_45 rfl).trans (ax_ite ?_ ?_)
        · refine (E_ic (v := (1 : Int32)) c_214_48 (by decide)).trans ?_
          refine (E_goto (q := 53) c_214_49 rfl).trans ?_
          refine (E_cVV c_214_53 mi_213 rfl (sO_kl sh_82) (Nat.le_of_ble_eq_true rfl) (Nat.le_of_ble_eq_true rfl)).trans (ax_bnd fun u3 => ?_)
          refine (E_il c_214_56 rfl).trans ?_
          exact E_rI c_214_57 mi_214
        · refine (E_ic (v := (0 : Int32)) c_214_52 (by decide)).trans ?_
          refine (E_cVV c_214_53 mi_213 rfl (sO_kl sh_82) (Nat.le_of_ble_eq_true rfl) (Nat.le_of_ble_eq_true rfl)).trans (ax_bnd fun u4 => ?_)
          refine (E_il c_214_56 rfl).trans ?_
          exact E_rI c_214_57 mi_214
      · refine (E_al c_214_39 rfl (by decide)).trans ?_
        refine (E_al c_214_40 rfl (by decide)).trans ?_
        refine (E_gfi (k := 14) c_214_41 sh_82 rfl rfl rfl (by decide)).trans ?_
        refine (E_ic (v := (3 : Int32)) c_214_44 (by decide)).trans ?_
        refine (E_br_ne (q := 52) c_214_45 rfl).trans (ax_ite ?_ ?_)
        · refine (E_ic (v := (1 : Int32)) c_214_48 (by decide)).trans ?_
          refine (E_goto (q := 53) c_214_49 rfl).trans ?_
          refine (E_cVV c_214_53 mi_213 rfl (sO_kl sh_82) (Nat.le_of_ble_eq_true rfl) (Nat.le_of_ble_eq_true rfl)).trans (ax_bnd fun u5 => ?_)
          refine (E_il c_214_56 rfl).trans ?_
          exact E_rI c_214_57 mi_214
        · refine (E_ic (v := (0 : Int32)) c_214_52 (by decide)).trans ?_
          refine (E_cVV c_214_53 mi_213 rfl (sO_kl sh_82) (Nat.le_of_ble_eq_true rfl) (Nat.le_of_ble_eq_true rfl)).trans (ax_bnd fun u6 => ?_)
          refine (E_il c_214_56 rfl).trans ?_
          exact E_rI c_214_57 mi_214
    · refine (E_al c_214_39 rfl (by decide)).trans ?_
      refine (E_al c_214_40 rfl (by decide)).trans ?_
      refine (E_gfi (k := 14) c_214_41 sh_82 rfl rfl rfl (by decide)).trans ?_
      refine (E_ic (v := (3 : Int32)) c_214_44 (by decide)).trans ?_
      refine (E_br_ne (q := 52) c_214_45 rfl).trans (ax_ite ?_ ?_)
      · refine (E_ic (v := (1 : Int32)) c_214_48 (by decide)).trans ?_
        refine (E_goto (q := 53) c_214_49 rfl).trans ?_
        refine (E_cVV c_214_53 mi_213 rfl (sO_kl sh_82) (Nat.le_of_ble_eq_true rfl) (Nat.le_of_ble_eq_true rfl)).trans (ax_bnd fun u7 => ?_)
        refine (E_il c_214_56 rfl).trans ?_
        exact E_rI c_214_57 mi_214
      · refine (E_ic (v := (0 : Int32)) c_214_52 (by decide)).trans ?_
        refine (E_cVV c_214_53 mi_213 rfl (sO_kl sh_82) (Nat.le_of_ble_eq_true rfl) (Nat.le_of_ble_eq_true rfl)).trans (ax_bnd fun u8 => ?_)
        refine (E_il c_214_56 rfl).trans ?_
        exact E_rI c_214_57 mi_214
set_option maxHeartbeats 4000000 in
theorem u_216_82 (d : Nat) (σ : ax_S) : ev sO (d + 3) 216 0 [.ref 82] [] σ = if (σ.1 82 17) = 0 then (if (σ.1 82 14) = (4 : Int32) then ((cV sO (d + 2) 213 [.ref 82, .int (1 : Int32)] σ).bind fun u0 => some (none, u0)) else ((cV sO (d + 2) 213 [.ref 82, .int (0 : Int32)] σ).bind fun u1 => some (none, u1))) else (some (none, σ)) := by
  refine (E_al c_216_0 rfl (by decide)).trans ?_
  refine (E_gfi (k := 17) c_216_1 sh_82 rfl rfl rfl (by decide)).trans ?_
  refine (E_b0_ne (q := 24) c_216_4 rfl).trans (ax_ite ?_ ?_)
  · refine (E_al c_216_7 rfl (by decide)).trans ?_
    refine (E_al c_216_8 rfl (by decide)).trans ?_
    refine (E_gfi (k := 14) c_216_9 sh_82 rfl rfl rfl (by decide)).trans ?_
    refine (E_ic (v := (4 : Int32)) c_216_12 (by decide)).trans ?_
    refine (E_br_ne (q := 20) c_216_13 rfl).trans (ax_ite ?_ ?_)
    · refine (E_ic (v := (1 : Int32)) c_216_16 (by decide)).trans ?_
      refine (E_goto (q := 21) c_216_17 rfl).trans ?_
      refine (E_cVV c_216_21 mi_213 rfl (sO_kl sh_82) (Nat.le_of_ble_eq_true rfl) (Nat.le_of_ble_eq_true rfl)).trans (ax_bnd fun u0 => ?_)
      exact E_rV c_216_24 mi_216
    · refine (E_ic (v := (0 : Int32)) c_216_20 (by decide)).trans ?_
      refine (E_cVV c_216_21 mi_213 rfl (sO_kl sh_82) (Nat.le_of_ble_eq_true rfl) (Nat.le_of_ble_eq_true rfl)).trans (ax_bnd fun u1 => ?_)
      exact E_rV c_216_24 mi_216
  · exact E_rV c_216_24 mi_216
set_option maxHeartbeats 4000000 in
theorem u_218_82 (d : Nat) (σ : ax_S) : ev sO (d + 1) 218 0 [.ref 82] [] σ = if (σ.1 82 17) = 0 then (if (σ.1 82 14) = (1 : Int32) then (if 0 < (σ.1 82 17) then (some (some (.long ((-9000000000000000100 : Int64) - (((sI σ 82 11 (σ.1 82 17)).1 82 18).toInt64))), (sI σ 82 11 (σ.1 82 17)))) else (some (some (.long (0 : Int64)), σ))) else ((cV sO d 212 [.ref 82, .int (1 : Int32)] σ).bind fun u0 => if 0 < (u0.1 82 17) then (some (some (.long ((-9000000000000000100 : Int64) - (((sI u0 82 11 (u0.1 82 17)).1 82 18).toInt64))), (sI u0 82 11 (u0.1 82 17)))) else (some (some (.long (0 : Int64)), u0)))) else (if 0 < (σ.1 82 17) then (some (some (.long ((-9000000000000000100 : Int64) - (((sI σ 82 11 (σ.1 82 17)).1 82 18).toInt64))), (sI σ 82 11 (σ.1 82 17)))) else (some (some (.long (0 : Int64)), σ))) := by
  refine (E_al c_218_0 rfl (by decide)).trans ?_
  refine (E_gfi (k := 17) c_218_1 sh_82 rfl rfl rfl (by decide)).trans ?_
  refine (E_b0_ne (q := 20) c_218_4 rfl).trans (ax_ite ?_ ?_)
  · refine (E_al c_218_7 rfl (by decide)).trans ?_
    refine (E_gfi (k := 14) c_218_8 sh_82 rfl rfl rfl (by decide)).trans ?_
    refine (E_ic (v := (1 : Int32)) c_218_11 (by decide)).trans ?_
    refine (E_br_eq (q := 20) c_218_12 rfl).trans (ax_ite ?_ ?_)
    · refine (E_al c_218_20 rfl (by decide)).trans ?_
      refine (E_gfi (k := 17) c_218_21 sh_82 rfl rfl rfl (by decide)).trans ?_
      refine (E_b0_le (q := 45) c_218_24 rfl).trans (ax_ite ?_ ?_)
      · refine (E_al c_218_27 rfl (by decide)).trans ?_
        refine (E_al c_218_28 rfl (by decide)).trans ?_
        refine (E_gfi (k := 17) c_218_29 sh_82 rfl rfl rfl (by decide)).trans ?_
        refine (E_pfi (k := 11) c_218_32 sh_82 rfl rfl rfl).trans ?_
        refine (E_l2 (v := (-9000000000000000100 : Int64)) c_218_35 (by decide)).trans ?_
        refine (E_al c_218_38 rfl (by decide)).trans ?_
        refine (E_gfi (k := 18) c_218_39 sh_82 rfl rfl rfl (by decide)).trans ?_
        refine (E_i2l c_218_42).trans ?_
        refine (E_lsub c_218_43).trans ?_
        exact E_rL c_218_44 mi_218
      · refine (E_lc (v := (0 : Int64)) c_218_45 (by decide)).trans ?_
        exact E_rL c_218_46 mi_218
    · refine (E_al c_218_15 rfl (by decide)).trans ?_
      refine (E_ic (v := (1 : Int32)) c_218_16 (by decide)).trans ?_
      refine (E_cVV c_218_17 mi_212 rfl (sO_kl sh_82) (Nat.le_of_ble_eq_true rfl) (Nat.le_of_ble_eq_true rfl)).trans (ax_bnd fun u0 => ?_)
      refine (E_al c_218_20 rfl (by decide)).trans ?_
      refine (E_gfi (k := 17) c_218_21 sh_82 rfl rfl rfl (by decide)).trans ?_
      refine (E_b0_le (q := 45) c_218_24 rfl).trans (ax_ite ?_ ?_)
      · refine (E_al c_218_27 rfl (by decide)).trans ?_
        refine (E_al c_218_28 rfl (by decide)).trans ?_
        refine (E_gfi (k := 17) c_218_29 sh_82 rfl rfl rfl (by decide)).trans ?_
        refine (E_pfi (k := 11) c_218_32 sh_82 rfl rfl rfl).trans ?_
        refine (E_l2 (v := (-9000000000000000100 : Int64)) c_218_35 (by decide)).trans ?_
        refine (E_al c_218_38 rfl (by decide)).trans ?_
        refine (E_gfi (k := 18) c_218_39 sh_82 rfl rfl rfl (by decide)).trans ?_
        refine (E_i2l c_218_42).trans ?_
        refine (E_lsub c_218_43).trans ?_
        exact E_rL c_218_44 mi_218
      · refine (E_lc (v := (0 : Int64)) c_218_45 (by decide)).trans ?_
        exact E_rL c_218_46 mi_218
  · refine (E_al c_218_20 rfl (by decide)).trans ?_
    refine (E_gfi (k := 17) c_218_21 sh_82 rfl rfl rfl (by decide)).trans ?_
    refine (E_b0_le (q := 45) c_218_24 rfl).trans (ax_ite ?_ ?_)
    · refine (E_al c_218_27 rfl (by decide)).trans ?_
      refine (E_al c_218_28 rfl (by decide)).trans ?_
      refine (E_gfi (k := 17) c_218_29 sh_82 rfl rfl rfl (by decide)).trans ?_
      refine (E_pfi (k := 11) c_218_32 sh_82 rfl rfl rfl).trans ?_
      refine (E_l2 (v := (-9000000000000000100 : Int64)) c_218_35 (by decide)).trans ?_
      refine (E_al c_218_38 rfl (by decide)).trans ?_
      refine (E_gfi (k := 18) c_218_39 sh_82 rfl rfl rfl (by decide)).trans ?_
      refine (E_i2l c_218_42).trans ?_
      refine (E_lsub c_218_43).trans ?_
      exact E_rL c_218_44 mi_218
    · refine (E_lc (v := (0 : Int64)) c_218_45 (by decide)).trans ?_
      exact E_rL c_218_46 mi_218
set_option maxHeartbeats 4000000 in
theorem u_67_8 (d : Nat) (σ : ax_S) : ev sO d 67 0 [.ref 8] [] σ = some (some (.int ((σ.1 8 0) &&& 1)), σ) := by
  refine (E_al c_67_0 rfl (by decide)).trans ?_
  refine (E_gfi (k := 0) c_67_1 sh_8 rfl rfl rfl (by decide)).trans ?_
  exact E_rZ (v := ((σ.1 8 0) &&& 1)) c_67_4 mi_67 rfl
set_option maxHeartbeats 4000000 in
theorem u_68_17 (d : Nat) (σ : ax_S) : ev sO d 68 0 [.ref 17] [] σ = if (σ.1 17 0) < (12 : Int32) then (some (some (.int (0 : Int32)), σ)) else (some (some (.int (1 : Int32)), σ)) := by
  refine (E_al c_68_0 rfl (by decide)).trans ?_
  refine (E_gfi (k := 0) c_68_1 sh_17 rfl rfl rfl (by decide)).trans ?_
  refine (E_ic (v := (12 : Int32)) c_68_4 (by decide)).trans ?_
  refine (E_br_lt (q := 13) c_68_6 rfl).trans (ax_ite ?_ ?_)
  · refine (E_ic (v := (0 : Int32)) c_68_13 (by decide)).trans ?_
    exact E_rZ (v := (0 : Int32)) c_68_14 mi_68 (by decide)
  · refine (E_ic (v := (1 : Int32)) c_68_9 (by decide)).trans ?_
    refine (E_goto (q := 14) c_68_10 rfl).trans ?_
    exact E_rZ (v := (1 : Int32)) c_68_14 mi_68 (by decide)
set_option maxHeartbeats 4000000 in
theorem u_69_61_5_8 (d : Nat) (σ : ax_S) : ev sO (d + 8) 69 0 [.ref 61, .ref 5, .ref 8, .null] [] σ = (cV sO (d + 7) 70 [.ref 61, .int (0 : Int32), .int (1800 : Int32)] σ).bind fun u0 => (cV sO (d + 7) 32 [.ref 5] u0).bind fun u1 => (cV sO (d + 7) 48 [.ref 5, .ref 1004] u1).bind fun u2 => (cI sO (d + 7) 50 [.ref 5, .int (0 : Int32), .int (3 : Int32)] u2).bind fun u3 => (cI sO (d + 7) 50 [.ref 5, .int (1800 : Int32), .int (2000 : Int32)] (sI u3.2 61 0 u3.1)).bind fun u4 => (cV sO (d + 7) 53 [.ref 5] (sI u4.2 61 1 u4.1)).bind fun u5 => ev sO (d + 8) 69 48 [.ref 61, .ref 5, .ref 8, .int (0 : Int32)] [] u5 := by
  refine (E_al c_69_0 rfl (by decide)).trans ?_
  refine (E_ic (v := (0 : Int32)) c_69_1 (by decide)).trans ?_
  refine (E_ic (v := (1800 : Int32)) c_69_2 (by decide)).trans ?_
  refine (E_cVV c_69_5 mi_70 rfl (sO_kl sh_61) (Nat.le_of_ble_eq_true rfl) (Nat.le_of_ble_eq_true rfl)).trans (ax_bnd fun u0 => ?_)
  refine (E_al c_69_8 rfl (by decide)).trans ?_
  refine (E_cVV c_69_9 mi_32 rfl (sO_kl sh_5) (Nat.le_of_ble_eq_true rfl) (Nat.le_of_ble_eq_true rfl)).trans (ax_bnd fun u1 => ?_)
  refine (E_al c_69_12 rfl (by decide)).trans ?_
  refine (E_ls (a := 1004) c_69_13 rfl).trans ?_
  refine (E_cVV c_69_15 mi_48 rfl (sO_kl sh_5) (Nat.le_of_ble_eq_true rfl) (Nat.le_of_ble_eq_true rfl)).trans (ax_bnd fun u2 => ?_)
  refine (E_al c_69_18 rfl (by decide)).trans ?_
  refine (E_al c_69_19 rfl (by decide)).trans ?_
  refine (E_ic (v := (0 : Int32)) c_69_20 (by decide)).trans ?_
  refine (E_ic (v := (3 : Int32)) c_69_21 (by decide)).trans ?_
  refine (E_cIV c_69_22 mi_50 rfl rfl (sO_kl sh_5) (Nat.le_of_ble_eq_true rfl) (Nat.le_of_ble_eq_true rfl)).trans (ax_bnd fun u3 => ?_)
  refine (E_pfi (k := 0) c_69_25 sh_61 rfl rfl rfl).trans ?_
  refine (E_al c_69_28 rfl (by decide)).trans ?_
  refine (E_al c_69_29 rfl (by decide)).trans ?_
  refine (E_ic (v := (1800 : Int32)) c_69_30 (by decide)).trans ?_
  refine (E_ic (v := (2000 : Int32)) c_69_33 (by decide)).trans ?_
  refine (E_cIV c_69_36 mi_50 rfl rfl (sO_kl sh_5) (Nat.le_of_ble_eq_true rfl) (Nat.le_of_ble_eq_true rfl)).trans (ax_bnd fun u4 => ?_)
  refine (E_pfi (k := 1) c_69_39 sh_61 rfl rfl rfl).trans ?_
  refine (E_al c_69_42 rfl (by decide)).trans ?_
  refine (E_cVV c_69_43 mi_53 rfl (sO_kl sh_5) (Nat.le_of_ble_eq_true rfl) (Nat.le_of_ble_eq_true rfl)).trans (ax_bnd fun u5 => ?_)
  refine (E_ic (v := (0 : Int32)) c_69_46 (by decide)).trans ?_
  refine (E_is (L' := [.ref 61, .ref 5, .ref 8, .int (0 : Int32)]) c_69_47 (Nat.le_of_ble_eq_true rfl) rfl).trans ?_
  rfl
set_option maxHeartbeats 4000000 in
theorem u_69_61_5_8p48 (d : Nat) (σ : ax_S) (x3 : Int32) : ev sO (d + 8) 69 48 [.ref 61, .ref 5, .ref 8, .int x3] [] σ = if x3 < (500 : Int32) then ((cI sO (d + 7) 59 [.ref 5] σ).bind fun u0 => if u0.1 = 0 then ((cI sO (d + 7) 58 [.ref 5] u0.2).bind fun u1 => if u1.1 = 0 then ((cV sO (d + 7) 71 [.ref 61, .ref 5, .ref 8] u1.2).bind fun u2 => ev sO (d + 8) 69 48 [.ref 61, .ref 5, .ref 8, .int (x3 + (1 : Int32))] [] u2) else ((cV sO (d + 7) 57 [.ref 5] u1.2).bind fun u3 => (cI sO (d + 7) 59 [.ref 5] u3).bind fun u4 => if u4.1 = 0 then (some (some (.int (1 : Int32)), u4.2)) else (some (some (.int (0 : Int32)), u4.2)))) else ((cV sO (d + 7) 57 [.ref 5] u0.2).bind fun u5 => (cI sO (d + 7) 59 [.ref 5] u5).bind fun u6 => if u6.1 = 0 then (some (some (.int (1 : Int32)), u6.2)) else (some (some (.int (0 : Int32)), u6.2)))) else ((cV sO (d + 7) 57 [.ref 5] σ).bind fun u7 => (cI sO (d + 7) 59 [.ref 5] u7).bind fun u8 => if u8.1 = 0 then (some (some (.int (1 : Int32)), u8.2)) else (some (some (.int (0 : Int32)), u8.2))) := by
  refine (E_il c_69_48 rfl).trans ?_
  refine (E_ic (v := (500 : Int32)) c_69_49 (by decide)).trans ?_
  refine (E_br_ge (q := 81) c_69_52 rfl).trans (ax_ite ?_ ?_)
  · refine (E_al c_69_55 rfl (by decide)).trans ?_
    refine (E_cIV c_69_56 mi_59 rfl rfl (sO_kl sh_5) (Nat.le_of_ble_eq_true rfl) (Nat.le_of_ble_eq_true rfl)).trans (ax_bnd fun u0 => ?_)
    refine (E_b0_ne (q := 81) c_69_59 rfl).trans (ax_ite ?_ ?_)
    · refine (E_al c_69_62 rfl (by decide)).trans ?_
      refine (E_cIV c_69_63 mi_58 rfl rfl (sO_kl sh_5) (Nat.le_of_ble_eq_true rfl) (Nat.le_of_ble_eq_true rfl)).trans (ax_bnd fun u1 => ?_)
      refine (E_b0_ne (q := 81) c_69_66 rfl).trans (ax_ite ?_ ?_)
      · refine (E_al c_69_69 rfl (by decide)).trans ?_
        refine (E_al c_69_70 rfl (by decide)).trans ?_
        refine (E_al c_69_71 rfl (by decide)).trans ?_
        refine (E_cVV c_69_72 mi_71 rfl (sO_kl sh_61) (Nat.le_of_ble_eq_true rfl) (Nat.le_of_ble_eq_true rfl)).trans (ax_bnd fun u2 => ?_)
        refine (E_inc (v := (1 : Int32)) (L' := [.ref 61, .ref 5, .ref 8, .int (x3 + (1 : Int32))]) c_69_75 rfl (by decide) rfl).trans ?_
        refine (E_goto (q := 48) c_69_78 rfl).trans ?_
        rfl
      · refine (E_al c_69_81 rfl (by decide)).trans ?_
        refine (E_cVV c_69_82 mi_57 rfl (sO_kl sh_5) (Nat.le_of_ble_eq_true rfl) (Nat.le_of_ble_eq_true rfl)).trans (ax_bnd fun u3 => ?_)
        refine (E_al c_69_85 rfl (by decide)).trans ?_
        refine (E_cIV c_69_86 mi_59 rfl rfl (sO_kl sh_5) (Nat.le_of_ble_eq_true rfl) (Nat.le_of_ble_eq_true rfl)).trans (ax_bnd fun u4 => ?_)
        refine (E_b0_ne (q := 96) c_69_89 rfl).trans (ax_ite ?_ ?_)
        · refine (E_ic (v := (1 : Int32)) c_69_92 (by decide)).trans ?_
          refine (E_goto (q := 97) c_69_93 rfl).trans ?_
          exact E_rZ (v := (1 : Int32)) c_69_97 mi_69 (by decide)
        · refine (E_ic (v := (0 : Int32)) c_69_96 (by decide)).trans ?_
          exact E_rZ (v := (0 : Int32)) c_69_97 mi_69 (by decide)
    · refine (E_al c_69_81 rfl (by decide)).trans ?_
      refine (E_cVV c_69_82 mi_57 rfl (sO_kl sh_5) (Nat.le_of_ble_eq_true rfl) (Nat.le_of_ble_eq_true rfl)).trans (ax_bnd fun u5 => ?_)
      refine (E_al c_69_85 rfl (by decide)).trans ?_
      refine (E_cIV c_69_86 mi_59 rfl rfl (sO_kl sh_5) (Nat.le_of_ble_eq_true rfl) (Nat.le_of_ble_eq_true rfl)).trans (ax_bnd fun u6 => ?_)
      refine (E_b0_ne (q := 96) c_69_89 rfl).trans (ax_ite ?_ ?_)
      · refine (E_ic (v := (1 : Int32)) c_69_92 (by decide)).trans ?_
        refine (E_goto (q := 97) c_69_93 rfl).trans ?_
        exact E_rZ (v := (1 : Int32)) c_69_97 mi_69 (by decide)
      · refine (E_ic (v := (0 : Int32)) c_69_96 (by decide)).trans ?_
        exact E_rZ (v := (0 : Int32)) c_69_97 mi_69 (by decide)
  · refine (E_al c_69_81 rfl (by decide)).trans ?_
    refine (E_cVV c_69_82 mi_57 rfl (sO_kl sh_5) (Nat.le_of_ble_eq_true rfl) (Nat.le_of_ble_eq_true rfl)).trans (ax_bnd fun u7 => ?_)
    refine (E_al c_69_85 rfl (by decide)).trans ?_
    refine (E_cIV c_69_86 mi_59 rfl rfl (sO_kl sh_5) (Nat.le_of_ble_eq_true rfl) (Nat.le_of_ble_eq_true rfl)).trans (ax_bnd fun u8 => ?_)
    refine (E_b0_ne (q := 96) c_69_89 rfl).trans (ax_ite ?_ ?_)
    · refine (E_ic (v := (1 : Int32)) c_69_92 (by decide)).trans ?_
      refine (E_goto (q := 97) c_69_93 rfl).trans ?_
      exact E_rZ (v := (1 : Int32)) c_69_97 mi_69 (by decide)
    · refine (E_ic (v := (0 : Int32)) c_69_96 (by decide)).trans ?_
      exact E_rZ (v := (0 : Int32)) c_69_97 mi_69 (by decide)
set_option maxHeartbeats 4000000 in
theorem u_78_17_61 (d : Nat) (σ : ax_S) (x2 : Int32) : ev sO (d + 2) 78 0 [.ref 17, .ref 61, .int x2, .null, .null] [] σ = (cI sO (d + 1) 68 [.ref 17] σ).bind fun u0 => if u0.1 = 0 then ((cI sO (d + 1) 79 [.ref 61] (sI u0.2 17 0 ((u0.2.1 17 0) + (1 : Int32)))).bind fun u1 => gd (0 ≤ (u0.2.1 17 0).toInt ∧ (u0.2.1 17 0).toInt < (12 : Nat)) ((cI sO (d + 1) 80 [.ref 61] (sI u1.2 18 (u0.2.1 17 0).toNatClampNeg u1.1)).bind fun u2 => gd (0 ≤ (u0.2.1 17 0).toInt ∧ (u0.2.1 17 0).toInt < (12 : Nat)) (gd (0 ≤ (u0.2.1 17 0).toInt ∧ (u0.2.1 17 0).toInt < (12 : Nat)) (ev sO (d + 2) 78 55 [.ref 17, .ref 61, .int x2, .int (u0.2.1 17 0), .int (0 : Int32)] [] (sI (sI u2.2 19 (u0.2.1 17 0).toNatClampNeg u2.1) 20 (u0.2.1 17 0).toNatClampNeg x2))))) else (some (some (.int (-1000000 : Int32)), u0.2)) := by
  refine (E_al c_78_0 rfl (by decide)).trans ?_
  refine (E_cIV c_78_1 mi_68 rfl rfl (sO_kl sh_17) (Nat.le_of_ble_eq_true rfl) (Nat.le_of_ble_eq_true rfl)).trans (ax_bnd fun u0 => ?_)
  refine (E_b0_eq (q := 10) c_78_4 rfl).trans (ax_ite ?_ ?_)
  · refine (E_al c_78_10 rfl (by decide)).trans ?_
    refine (E_gfi (k := 0) c_78_11 sh_17 rfl rfl rfl (by decide)).trans ?_
    refine (E_is (L' := [.ref 17, .ref 61, .int x2, .int (u0.2.1 17 0), .null]) c_78_14 (Nat.le_of_ble_eq_true rfl) rfl).trans ?_
    refine (E_al c_78_15 rfl (by decide)).trans ?_
    refine (E_dup c_78_16 rfl).trans ?_
    refine (E_gfi (k := 0) c_78_17 sh_17 rfl rfl rfl (by decide)).trans ?_
    refine (E_ic (v := (1 : Int32)) c_78_20 (by decide)).trans ?_
    refine (E_iadd c_78_21).trans ?_
    refine (E_pfi (k := 0) c_78_22 sh_17 rfl rfl rfl).trans ?_
    refine (E_al c_78_25 rfl (by decide)).trans ?_
    refine (E_gfr (k := 1) (r := 18) c_78_26 sh_17 rfl rfl rfl).trans ?_
    refine (E_il c_78_29 rfl).trans ?_
    refine (E_al c_78_30 rfl (by decide)).trans ?_
    refine (E_cIV c_78_31 mi_79 rfl rfl (sO_kl sh_61) (Nat.le_of_ble_eq_true rfl) (Nat.le_of_ble_eq_true rfl)).trans (ax_bnd fun u1 => ?_)
    refine (E_ias (v := u1.1) c_78_34 sh_18 rfl).trans (ax_gd ?_)
    refine (E_al c_78_35 rfl (by decide)).trans ?_
    refine (E_gfr (k := 2) (r := 19) c_78_36 sh_17 rfl rfl rfl).trans ?_
    refine (E_il c_78_39 rfl).trans ?_
    refine (E_al c_78_40 rfl (by decide)).trans ?_
    refine (E_cIV c_78_41 mi_80 rfl rfl (sO_kl sh_61) (Nat.le_of_ble_eq_true rfl) (Nat.le_of_ble_eq_true rfl)).trans (ax_bnd fun u2 => ?_)
    refine (E_ias (v := u2.1) c_78_44 sh_19 rfl).trans (ax_gd ?_)
    refine (E_al c_78_45 rfl (by decide)).trans ?_
    refine (E_gfr (k := 3) (r := 20) c_78_46 sh_17 rfl rfl rfl).trans ?_
    refine (E_il c_78_49 rfl).trans ?_
    refine (E_il c_78_50 rfl).trans ?_
    refine (E_ias (v := x2) c_78_51 sh_20 rfl).trans (ax_gd ?_)
    refine (E_ic (v := (0 : Int32)) c_78_52 (by decide)).trans ?_
    refine (E_is (L' := [.ref 17, .ref 61, .int x2, .int (u0.2.1 17 0), .int (0 : Int32)]) c_78_53 (Nat.le_of_ble_eq_true rfl) rfl).trans ?_
    rfl
  · refine (E_ic (v := (-1000000 : Int32)) c_78_7 (by decide)).trans ?_
    exact E_rI c_78_9 mi_78
set_option maxHeartbeats 4000000 in
theorem u_78_17_61p55 (d : Nat) (σ : ax_S) (w2 : Value) (hw2 : w2.category = 1) (x3 : Int32) (x4 : Int32) : ev sO (d + 2) 78 55 [.ref 17, .ref 61, w2, .int x3, .int x4] [] σ = if x4 < (11 : Int32) then ((cI sO (d + 1) 81 [.ref 61, .int x4] σ).bind fun u0 => (cV sO (d + 1) 83 [.ref 17, .int x3, .int x4, .int u0.1] u0.2).bind fun u1 => ev sO (d + 2) 78 55 [.ref 17, .ref 61, w2, .int x3, .int (x4 + (1 : Int32))] [] u1) else (some (some (.int x3), σ)) := by
  refine (E_il c_78_55 rfl).trans ?_
  refine (E_ic (v := (11 : Int32)) c_78_57 (by decide)).trans ?_
  refine (E_br_ge (q := 81) c_78_59 rfl).trans (ax_ite ?_ ?_)
  · refine (E_al c_78_62 rfl (by decide)).trans ?_
    refine (E_il c_78_63 rfl).trans ?_
    refine (E_il c_78_64 rfl).trans ?_
    refine (E_al c_78_66 rfl (by decide)).trans ?_
    refine (E_il c_78_67 rfl).trans ?_
    refine (E_cIV c_78_69 mi_81 rfl rfl (sO_kl sh_61) (Nat.le_of_ble_eq_true rfl) (Nat.le_of_ble_eq_true rfl)).trans (ax_bnd fun u0 => ?_)
    refine (E_cVV c_78_72 mi_83 rfl (sO_kl sh_17) (Nat.le_of_ble_eq_true rfl) (Nat.le_of_ble_eq_true rfl)).trans (ax_bnd fun u1 => ?_)
    refine (E_inc (v := (1 : Int32)) (L' := [.ref 17, .ref 61, w2, .int x3, .int (x4 + (1 : Int32))]) c_78_75 rfl (by decide) rfl).trans ?_
    refine (E_goto (q := 55) c_78_78 rfl).trans ?_
    rfl
  · refine (E_il c_78_81 rfl).trans ?_
    exact E_rI c_78_82 mi_78
set_option maxHeartbeats 4000000 in
theorem u_220_82 (d : Nat) (σ : ax_S) (x1 : Int32) (x2 : Int32) (x3 : Int32) : ev sO d 220 0 [.ref 82, .int x1, .int x2, .int x3, .null] [] σ = ev sO d 220 3 [.ref 82, .int x1, .int x2, .int x3, .int (0 : Int32)] [] σ := by
  refine (E_ic (v := (0 : Int32)) c_220_0 (by decide)).trans ?_
  refine (E_is (L' := [.ref 82, .int x1, .int x2, .int x3, .int (0 : Int32)]) c_220_1 (Nat.le_of_ble_eq_true rfl) rfl).trans ?_
  rfl
set_option maxHeartbeats 4000000 in
theorem u_220_82p3 (d : Nat) (σ : ax_S) (x1 : Int32) (x2 : Int32) (x3 : Int32) (x4 : Int32) : ev sO d 220 3 [.ref 82, .int x1, .int x2, .int x3, .int x4] [] σ = if x4 < (15 : Int32) then (gd (0 ≤ x4.toInt ∧ x4.toInt < (15 : Nat)) (ev sO d 220 3 [.ref 82, .int x1, .int x2, .int x3, .int (x4 + (1 : Int32))] [] (sI σ 90 x4.toNatClampNeg (0 : Int32)))) else (some (none, (sI (sI (sI σ 90 0 x1) 90 1 x2) 90 2 x3))) := by
  refine (E_il c_220_3 rfl).trans ?_
  refine (E_ic (v := (15 : Int32)) c_220_5 (by decide)).trans ?_
  refine (E_br_ge (q := 24) c_220_7 rfl).trans (ax_ite ?_ ?_)
  · refine (E_al c_220_10 rfl (by decide)).trans ?_
    refine (E_gfr (k := 19) (r := 90) c_220_11 sh_82 rfl rfl rfl).trans ?_
    refine (E_il c_220_14 rfl).trans ?_
    refine (E_ic (v := (0 : Int32)) c_220_16 (by decide)).trans ?_
    refine (E_ias (v := (0 : Int32)) c_220_17 sh_90 rfl).trans (ax_gd ?_)
    refine (E_inc (v := (1 : Int32)) (L' := [.ref 82, .int x1, .int x2, .int x3, .int (x4 + (1 : Int32))]) c_220_18 rfl (by decide) rfl).trans ?_
    refine (E_goto (q := 3) c_220_21 rfl).trans ?_
    rfl
  · refine (E_al c_220_24 rfl (by decide)).trans ?_
    refine (E_gfr (k := 19) (r := 90) c_220_25 sh_82 rfl rfl rfl).trans ?_
    refine (E_ic (v := (0 : Int32)) c_220_28 (by decide)).trans ?_
    refine (E_il c_220_29 rfl).trans ?_
    refine (E_iask (k := 0) (v := x1) c_220_30 sh_90 rfl (by decide) (by decide)).trans ?_
    refine (E_al c_220_31 rfl (by decide)).trans ?_
    refine (E_gfr (k := 19) (r := 90) c_220_32 sh_82 rfl rfl rfl).trans ?_
    refine (E_ic (v := (1 : Int32)) c_220_35 (by decide)).trans ?_
    refine (E_il c_220_36 rfl).trans ?_
    refine (E_iask (k := 1) (v := x2) c_220_37 sh_90 rfl (by decide) (by decide)).trans ?_
    refine (E_al c_220_38 rfl (by decide)).trans ?_
    refine (E_gfr (k := 19) (r := 90) c_220_39 sh_82 rfl rfl rfl).trans ?_
    refine (E_ic (v := (2 : Int32)) c_220_42 (by decide)).trans ?_
    refine (E_il c_220_43 rfl).trans ?_
    refine (E_iask (k := 2) (v := x3) c_220_44 sh_90 rfl (by decide) (by decide)).trans ?_
    exact E_rV c_220_45 mi_220
set_option maxHeartbeats 4000000 in
theorem u_226_82 (d : Nat) (σ : ax_S) : ev sO d 226 0 [.ref 82, .null, .null] [] σ = ev sO d 226 9 [.ref 82, .int (σ.1 88 0), .int (0 : Int32)] [] σ := by
  refine (E_al c_226_0 rfl (by decide)).trans ?_
  refine (E_gfr (k := 8) (r := 88) c_226_1 sh_82 rfl rfl rfl).trans ?_
  refine (E_ic (v := (0 : Int32)) c_226_4 (by decide)).trans ?_
  refine (E_ialk (k := 0) c_226_5 sh_88 (by decide) (by decide)).trans ?_
  refine (E_is (L' := [.ref 82, .int (σ.1 88 0), .null]) c_226_6 (Nat.le_of_ble_eq_true rfl) rfl).trans ?_
  refine (E_ic (v := (0 : Int32)) c_226_7 (by decide)).trans ?_
  refine (E_is (L' := [.ref 82, .int (σ.1 88 0), .int (0 : Int32)]) c_226_8 (Nat.le_of_ble_eq_true rfl) rfl).trans ?_
  rfl
set_option maxHeartbeats 4000000 in
theorem u_226_82p9 (d : Nat) (σ : ax_S) (x1 : Int32) (x2 : Int32) : ev sO d 226 9 [.ref 82, .int x1, .int x2] [] σ = if x2 < (15 : Int32) then (gd (0 ≤ x2.toInt ∧ x2.toInt < (15 : Nat)) (gd (0 ≤ (((1 : Int32) + ((15 : Int32) * x1)) + x2).toInt ∧ (((1 : Int32) + ((15 : Int32) * x1)) + x2).toInt < (181 : Nat)) (ev sO d 226 9 [.ref 82, .int x1, .int (x2 + (1 : Int32))] [] (sI σ 88 (((1 : Int32) + ((15 : Int32) * x1)) + x2).toNatClampNeg (σ.1 90 x2.toNatClampNeg))))) else (some (some (.int x1), (sI σ 88 0 ((σ.1 88 0) + (1 : Int32))))) := by
  refine (E_il c_226_9 rfl).trans ?_
  refine (E_ic (v := (15 : Int32)) c_226_10 (by decide)).trans ?_
  refine (E_br_ge (q := 40) c_226_12 rfl).trans (ax_ite ?_ ?_)
  · refine (E_al c_226_15 rfl (by decide)).trans ?_
    refine (E_gfr (k := 8) (r := 88) c_226_16 sh_82 rfl rfl rfl).trans ?_
    refine (E_ic (v := (1 : Int32)) c_226_19 (by decide)).trans ?_
    refine (E_ic (v := (15 : Int32)) c_226_20 (by decide)).trans ?_
    refine (E_il c_226_22 rfl).trans ?_
    refine (E_imul c_226_23).trans ?_
    refine (E_iadd c_226_24).trans ?_
    refine (E_il c_226_25 rfl).trans ?_
    refine (E_iadd c_226_26).trans ?_
    refine (E_al c_226_27 rfl (by decide)).trans ?_
    refine (E_gfr (k := 19) (r := 90) c_226_28 sh_82 rfl rfl rfl).trans ?_
    refine (E_il c_226_31 rfl).trans ?_
    refine (E_ial c_226_32 sh_90).trans (ax_gd ?_)
    refine (E_ias (v := (σ.1 90 x2.toNatClampNeg)) c_226_33 sh_88 rfl).trans (ax_gd ?_)
    refine (E_inc (v := (1 : Int32)) (L' := [.ref 82, .int x1, .int (x2 + (1 : Int32))]) c_226_34 rfl (by decide) rfl).trans ?_
    refine (E_goto (q := 9) c_226_37 rfl).trans ?_
    rfl
  · refine (E_al c_226_40 rfl (by decide)).trans ?_
    refine (E_gfr (k := 8) (r := 88) c_226_41 sh_82 rfl rfl rfl).trans ?_
    refine (E_ic (v := (0 : Int32)) c_226_44 (by decide)).trans ?_
    refine (E_dup2 c_226_45 ⟨rfl, rfl⟩).trans ?_
    refine (E_ialk (k := 0) c_226_46 sh_88 (by decide) (by decide)).trans ?_
    refine (E_ic (v := (1 : Int32)) c_226_47 (by decide)).trans ?_
    refine (E_iadd c_226_48).trans ?_
    refine (E_iask (k := 0) (v := ((σ.1 88 0) + (1 : Int32))) c_226_49 sh_88 rfl (by decide) (by decide)).trans ?_
    refine (E_il c_226_50 rfl).trans ?_
    exact E_rI c_226_51 mi_226
set_option maxHeartbeats 4000000 in
theorem u_221_82 (d : Nat) (σ : ax_S) (x1 : Int32) (x2 : Int32) : ev sO (d + 6) 221 0 [.ref 82, .int x1, .int x2, .null, .null, .null, .null, .null] [] σ = (cL sO (d + 5) 210 [.ref 82] σ).bind fun u0 => if (lg_cmp u0.1 (6382692 : Int64)) = 0 then ((cV sO (d + 5) 222 [.ref 82, .int x1, .int x2] u0.2).bind fun u1 => some (none, u1)) else (if (lg_cmp u0.1 (1751474548 : Int64)) = 0 then (ev sO (d + 6) 221 42 [.ref 82, .int x1, .int x2, .long u0.1, .null, .null, .null, .null] [] u0.2) else (if (lg_cmp u0.1 (1650811252 : Int64)) = 0 then (ev sO (d + 6) 221 42 [.ref 82, .int x1, .int x2, .long u0.1, .null, .null, .null, .null] [] u0.2) else ((cV sO (d + 5) 212 [.ref 82, .int (1 : Int32)] u0.2).bind fun u2 => some (none, u2)))) := by
  refine (E_al c_221_0 rfl (by decide)).trans ?_
  refine (E_cLV c_221_1 mi_210 rfl (sO_kl sh_82) (Nat.le_of_ble_eq_true rfl) (Nat.le_of_ble_eq_true rfl)).trans (ax_bnd fun u0 => ?_)
  refine (E_lss (L' := [.ref 82, .int x1, .int x2, .long u0.1, .null, .null, .null, .null]) c_221_4 (Nat.le_of_ble_eq_true rfl) rfl).trans ?_
  refine (E_ll c_221_5 rfl).trans ?_
  refine (E_l2 (v := (6382692 : Int64)) c_221_6 (by decide)).trans ?_
  refine (E_lcmp c_221_9).trans ?_
  refine (E_b0_ne (q := 20) c_221_10 rfl).trans (ax_ite ?_ ?_)
  · refine (E_al c_221_13 rfl (by decide)).trans ?_
    refine (E_il c_221_14 rfl).trans ?_
    refine (E_il c_221_15 rfl).trans ?_
    refine (E_cVV c_221_16 mi_222 rfl (sO_kl sh_82) (Nat.le_of_ble_eq_true rfl) (Nat.le_of_ble_eq_true rfl)).trans (ax_bnd fun u1 => ?_)
    exact E_rV c_221_19 mi_221
  · refine (E_ll c_221_20 rfl).trans ?_
    refine (E_l2 (v := (1751474548 : Int64)) c_221_21 (by decide)).trans ?_
    refine (E_lcmp c_221_24).trans ?_
    refine (E_b0_eq (q := 42) c_221_25 rfl).trans (ax_ite ?_ ?_)
    · rfl
    · refine (E_ll c_221_28 rfl).trans ?_
      refine (E_l2 (v := (1650811252 : Int64)) c_221_29 (by decide)).trans ?_
      refine (E_lcmp c_221_32).trans ?_
      refine (E_b0_eq (q := 42) c_221_33 rfl).trans (ax_ite ?_ ?_)
      · rfl
      · refine (E_al c_221_36 rfl (by decide)).trans ?_
        refine (E_ic (v := (1 : Int32)) c_221_37 (by decide)).trans ?_
        refine (E_cVV c_221_38 mi_212 rfl (sO_kl sh_82) (Nat.le_of_ble_eq_true rfl) (Nat.le_of_ble_eq_true rfl)).trans (ax_bnd fun u2 => ?_)
        exact E_rV c_221_41 mi_221
set_option maxHeartbeats 4000000 in
theorem u_221_82p42 (d : Nat) (σ : ax_S) (w1 : Value) (hw1 : w1.category = 1) (w2 : Value) (hw2 : w2.category = 1) (x3 : Int64) (w5 : Value) (hw5 : w5.category = 1) (w6 : Value) (hw6 : w6.category = 1) (w7 : Value) (hw7 : w7.category = 1) : ev sO (d + 6) 221 42 [.ref 82, w1, w2, .long x3, .null, w5, w6, w7] [] σ = if (lg_cmp x3 (1751474548 : Int64)) = 0 then (if (((σ.1 82 20) >>> ((8 : Int32) &&& 31)) &&& (1 : Int32)) = (1 : Int32) then ((cV sO (d + 5) 212 [.ref 82, .int (4 : Int32)] σ).bind fun u0 => ev sO (d + 6) 221 77 [.ref 82, w1, w2, .long x3, .null, .int (8 : Int32), w6, w7] [] u0) else (ev sO (d + 6) 221 77 [.ref 82, w1, w2, .long x3, .null, .int (8 : Int32), w6, w7] [] σ)) else (if (((σ.1 82 20) >>> ((10 : Int32) &&& 31)) &&& (1 : Int32)) = (1 : Int32) then ((cV sO (d + 5) 212 [.ref 82, .int (4 : Int32)] σ).bind fun u1 => ev sO (d + 6) 221 77 [.ref 82, w1, w2, .long x3, .null, .int (10 : Int32), w6, w7] [] u1) else (ev sO (d + 6) 221 77 [.ref 82, w1, w2, .long x3, .null, .int (10 : Int32), w6, w7] [] σ)) := by
  refine (E_ll c_221_42 rfl).trans ?_
  refine (E_l2 (v := (1751474548 : Int64)) c_221_43 (by decide)).trans ?_
  refine (E_lcmp c_221_46).trans ?_
  refine (E_b0_ne (q := 55) c_221_47 rfl).trans (ax_ite ?_ ?_)
  · refine (E_ic (v := (8 : Int32)) c_221_50 (by decide)).trans ?_
    refine (E_goto (q := 57) c_221_52 rfl).trans ?_
    refine (E_is (L' := [.ref 82, w1, w2, .long x3, .null, .int (8 : Int32), w6, w7]) c_221_57 (Nat.le_of_ble_eq_true rfl) rfl).trans ?_
    refine (E_al c_221_59 rfl (by decide)).trans ?_
    refine (E_gfi (k := 20) c_221_60 sh_82 rfl rfl rfl (by decide)).trans ?_
    refine (E_il c_221_63 rfl).trans ?_
    refine (E_ishr c_221_65).trans ?_
    refine (E_ic (v := (1 : Int32)) c_221_66 (by decide)).trans ?_
    refine (E_iand c_221_67).trans ?_
    refine (E_ic (v := (1 : Int32)) c_221_68 (by decide)).trans ?_
    refine (E_br_ne (q := 77) c_221_69 rfl).trans (ax_ite ?_ ?_)
    · refine (E_al c_221_72 rfl (by decide)).trans ?_
      refine (E_ic (v := (4 : Int32)) c_221_73 (by decide)).trans ?_
      refine (E_cVV c_221_74 mi_212 rfl (sO_kl sh_82) (Nat.le_of_ble_eq_true rfl) (Nat.le_of_ble_eq_true rfl)).trans (ax_bnd fun u0 => ?_)
      rfl
    · rfl
  · refine (E_ic (v := (10 : Int32)) c_221_55 (by decide)).trans ?_
    refine (E_is (L' := [.ref 82, w1, w2, .long x3, .null, .int (10 : Int32), w6, w7]) c_221_57 (Nat.le_of_ble_eq_true rfl) rfl).trans ?_
    refine (E_al c_221_59 rfl (by decide)).trans ?_
    refine (E_gfi (k := 20) c_221_60 sh_82 rfl rfl rfl (by decide)).trans ?_
    refine (E_il c_221_63 rfl).trans ?_
    refine (E_ishr c_221_65).trans ?_
    refine (E_ic (v := (1 : Int32)) c_221_66 (by decide)).trans ?_
    refine (E_iand c_221_67).trans ?_
    refine (E_ic (v := (1 : Int32)) c_221_68 (by decide)).trans ?_
    refine (E_br_ne (q := 77) c_221_69 rfl).trans (ax_ite ?_ ?_)
    · refine (E_al c_221_72 rfl (by decide)).trans ?_
      refine (E_ic (v := (4 : Int32)) c_221_73 (by decide)).trans ?_
      refine (E_cVV c_221_74 mi_212 rfl (sO_kl sh_82) (Nat.le_of_ble_eq_true rfl) (Nat.le_of_ble_eq_true rfl)).trans (ax_bnd fun u1 => ?_)
      rfl
    · rfl
set_option maxHeartbeats 4000000 in
theorem u_221_82p77 (d : Nat) (σ : ax_S) (w1 : Value) (hw1 : w1.category = 1) (w2 : Value) (hw2 : w2.category = 1) (x3 : Int64) (x5 : Int32) (w6 : Value) (hw6 : w6.category = 1) (w7 : Value) (hw7 : w7.category = 1) : ev sO (d + 6) 221 77 [.ref 82, w1, w2, .long x3, .null, .int x5, w6, w7] [] σ = (cV sO (d + 5) 213 [.ref 82, .int (1 : Int32)] σ).bind fun u0 => if (lg_cmp x3 (1751474548 : Int64)) = 0 then ((cI sO (d + 5) 223 [.ref 82, .int (0 : Int32), .int (9 : Int32)] (sI u0 82 20 ((u0.1 82 20) ||| ((1 : Int32) <<< (x5 &&& 31))))).bind fun u1 => (cI sO (d + 5) 223 [.ref 82, .int (1 : Int32), .int (99 : Int32)] u1.2).bind fun u2 => (cV sO (d + 5) 216 [.ref 82] u2.2).bind fun u3 => if (u3.1 82 17) = 0 then (if (lg_cmp x3 (1751474548 : Int64)) = 0 then ((cV sO (d + 5) 225 [.ref 82, .int (8 : Int32), .int u1.1] u3).bind fun u4 => ev sO (d + 6) 221 152 [.ref 82, w1, w2, .long x3, .null, .int x5, .int u1.1, .int u2.1] [] u4) else (ev sO (d + 6) 221 152 [.ref 82, w1, w2, .long x3, .null, .int x5, .int u1.1, .int u2.1] [] u3)) else (ev sO (d + 6) 221 152 [.ref 82, w1, w2, .long x3, .null, .int x5, .int u1.1, .int u2.1] [] u3)) else ((cI sO (d + 5) 223 [.ref 82, .int (1 : Int32), .int (99 : Int32)] (sI u0 82 20 ((u0.1 82 20) ||| ((1 : Int32) <<< (x5 &&& 31))))).bind fun u5 => (cV sO (d + 5) 216 [.ref 82] u5.2).bind fun u6 => if (u6.1 82 17) = 0 then (if (lg_cmp x3 (1751474548 : Int64)) = 0 then ((cV sO (d + 5) 225 [.ref 82, .int (8 : Int32), .int (0 : Int32)] u6).bind fun u7 => ev sO (d + 6) 221 152 [.ref 82, w1, w2, .long x3, .null, .int x5, .int (0 : Int32), .int u5.1] [] u7) else (ev sO (d + 6) 221 152 [.ref 82, w1, w2, .long x3, .null, .int x5, .int (0 : Int32), .int u5.1] [] u6)) else (ev sO (d + 6) 221 152 [.ref 82, w1, w2, .long x3, .null, .int x5, .int (0 : Int32), .int u5.1] [] u6)) := by
  refine (E_al c_221_77 rfl (by decide)).trans ?_
  refine (E_ic (v := (1 : Int32)) c_221_78 (by decide)).trans ?_
  refine (E_cVV c_221_79 mi_213 rfl (sO_kl sh_82) (Nat.le_of_ble_eq_true rfl) (Nat.le_of_ble_eq_true rfl)).trans (ax_bnd fun u0 => ?_)
  refine (E_al c_221_82 rfl (by decide)).trans ?_
  refine (E_dup c_221_83 rfl).trans ?_
  refine (E_gfi (k := 20) c_221_84 sh_82 rfl rfl rfl (by decide)).trans ?_
  refine (E_ic (v := (1 : Int32)) c_221_87 (by decide)).trans ?_
  refine (E_il c_221_88 rfl).trans ?_
  refine (E_ishl c_221_90).trans ?_
  refine (E_ior c_221_91).trans ?_
  refine (E_pfi (k := 20) c_221_92 sh_82 rfl rfl rfl).trans ?_
  refine (E_ll c_221_95 rfl).trans ?_
  refine (E_l2 (v := (1751474548 : Int64)) c_221_96 (by decide)).trans ?_
  refine (E_lcmp c_221_99).trans ?_
  refine (E_b0_ne (q := 113) c_221_100 rfl).trans (ax_ite ?_ ?_)
  · refine (E_al c_221_103 rfl (by decide)).trans ?_
    refine (E_ic (v := (0 : Int32)) c_221_104 (by decide)).trans ?_
    refine (E_ic (v := (9 : Int32)) c_221_105 (by decide)).trans ?_
    refine (E_cIV c_221_107 mi_223 rfl rfl (sO_kl sh_82) (Nat.le_of_ble_eq_true rfl) (Nat.le_of_ble_eq_true rfl)).trans (ax_bnd fun u1 => ?_)
    refine (E_goto (q := 114) c_221_110 rfl).trans ?_
    refine (E_is (L' := [.ref 82, w1, w2, .long x3, .null, .int x5, .int u1.1, w7]) c_221_114 (Nat.le_of_ble_eq_true rfl) rfl).trans ?_
    refine (E_al c_221_116 rfl (by decide)).trans ?_
    refine (E_ic (v := (1 : Int32)) c_221_117 (by decide)).trans ?_
    refine (E_ic (v := (99 : Int32)) c_221_118 (by decide)).trans ?_
    refine (E_cIV c_221_120 mi_223 rfl rfl (sO_kl sh_82) (Nat.le_of_ble_eq_true rfl) (Nat.le_of_ble_eq_true rfl)).trans (ax_bnd fun u2 => ?_)
    refine (E_is (L' := [.ref 82, w1, w2, .long x3, .null, .int x5, .int u1.1, .int u2.1]) c_221_123 (Nat.le_of_ble_eq_true rfl) rfl).trans ?_
    refine (E_al c_221_125 rfl (by decide)).trans ?_
    refine (E_cVV c_221_126 mi_216 rfl (sO_kl sh_82) (Nat.le_of_ble_eq_true rfl) (Nat.le_of_ble_eq_true rfl)).trans (ax_bnd fun u3 => ?_)
    refine (E_al c_221_129 rfl (by decide)).trans ?_
    refine (E_gfi (k := 17) c_221_130 sh_82 rfl rfl rfl (by decide)).trans ?_
    refine (E_b0_ne (q := 152) c_221_133 rfl).trans (ax_ite ?_ ?_)
    · refine (E_ll c_221_136 rfl).trans ?_
      refine (E_l2 (v := (1751474548 : Int64)) c_221_137 (by decide)).trans ?_
      refine (E_lcmp c_221_140).trans ?_
      refine (E_b0_ne (q := 152) c_221_141 rfl).trans (ax_ite ?_ ?_)
      · refine (E_al c_221_144 rfl (by decide)).trans ?_
        refine (E_ic (v := (8 : Int32)) c_221_145 (by decide)).trans ?_
        refine (E_il c_221_147 rfl).trans ?_
        refine (E_cVV c_221_149 mi_225 rfl (sO_kl sh_82) (Nat.le_of_ble_eq_true rfl) (Nat.le_of_ble_eq_true rfl)).trans (ax_bnd fun u4 => ?_)
        rfl
      · rfl
    · rfl
  · refine (E_ic (v := (0 : Int32)) c_221_113 (by decide)).trans ?_
    refine (E_is (L' := [.ref 82, w1, w2, .long x3, .null, .int x5, .int (0 : Int32), w7]) c_221_114 (Nat.le_of_ble_eq_true rfl) rfl).trans ?_
    refine (E_al c_221_116 rfl (by decide)).trans ?_
    refine (E_ic (v := (1 : Int32)) c_221_117 (by decide)).trans ?_
    refine (E_ic (v := (99 : Int32)) c_221_118 (by decide)).trans ?_
    refine (E_cIV c_221_120 mi_223 rfl rfl (sO_kl sh_82) (Nat.le_of_ble_eq_true rfl) (Nat.le_of_ble_eq_true rfl)).trans (ax_bnd fun u5 => ?_)
    refine (E_is (L' := [.ref 82, w1, w2, .long x3, .null, .int x5, .int (0 : Int32), .int u5.1]) c_221_123 (Nat.le_of_ble_eq_true rfl) rfl).trans ?_
    refine (E_al c_221_125 rfl (by decide)).trans ?_
    refine (E_cVV c_221_126 mi_216 rfl (sO_kl sh_82) (Nat.le_of_ble_eq_true rfl) (Nat.le_of_ble_eq_true rfl)).trans (ax_bnd fun u6 => ?_)
    refine (E_al c_221_129 rfl (by decide)).trans ?_
    refine (E_gfi (k := 17) c_221_130 sh_82 rfl rfl rfl (by decide)).trans ?_
    refine (E_b0_ne (q := 152) c_221_133 rfl).trans (ax_ite ?_ ?_)
    · refine (E_ll c_221_136 rfl).trans ?_
      refine (E_l2 (v := (1751474548 : Int64)) c_221_137 (by decide)).trans ?_
      refine (E_lcmp c_221_140).trans ?_
      refine (E_b0_ne (q := 152) c_221_141 rfl).trans (ax_ite ?_ ?_)
      · refine (E_al c_221_144 rfl (by decide)).trans ?_
        refine (E_ic (v := (8 : Int32)) c_221_145 (by decide)).trans ?_
        refine (E_il c_221_147 rfl).trans ?_
        refine (E_cVV c_221_149 mi_225 rfl (sO_kl sh_82) (Nat.le_of_ble_eq_true rfl) (Nat.le_of_ble_eq_true rfl)).trans (ax_bnd fun u7 => ?_)
        rfl
      · rfl
    · rfl
set_option maxHeartbeats 4000000 in
theorem u_221_82p152 (d : Nat) (σ : ax_S) (w1 : Value) (hw1 : w1.category = 1) (w2 : Value) (hw2 : w2.category = 1) (x3 : Int64) (w5 : Value) (hw5 : w5.category = 1) (w6 : Value) (hw6 : w6.category = 1) (x7 : Int32) : ev sO (d + 6) 221 152 [.ref 82, w1, w2, .long x3, .null, w5, w6, .int x7] [] σ = if (σ.1 82 17) = 0 then (if (lg_cmp x3 (1751474548 : Int64)) = 0 then ((cV sO (d + 5) 225 [.ref 82, .int (9 : Int32), .int x7] σ).bind fun u0 => ev sO (d + 6) 221 180 [.ref 82, w1, w2, .long x3, .null, w5, w6, .int x7] [] u0) else ((cV sO (d + 5) 225 [.ref 82, .int (10 : Int32), .int x7] σ).bind fun u1 => ev sO (d + 6) 221 180 [.ref 82, w1, w2, .long x3, .null, w5, w6, .int x7] [] u1)) else (ev sO (d + 6) 221 180 [.ref 82, w1, w2, .long x3, .null, w5, w6, .int x7] [] σ) := by
  refine (E_al c_221_152 rfl (by decide)).trans ?_
  refine (E_gfi (k := 17) c_221_153 sh_82 rfl rfl rfl (by decide)).trans ?_
  refine (E_b0_ne (q := 180) c_221_156 rfl).trans (ax_ite ?_ ?_)
  · refine (E_al c_221_159 rfl (by decide)).trans ?_
    refine (E_ll c_221_160 rfl).trans ?_
    refine (E_l2 (v := (1751474548 : Int64)) c_221_161 (by decide)).trans ?_
    refine (E_lcmp c_221_164).trans ?_
    refine (E_b0_ne (q := 173) c_221_165 rfl).trans (ax_ite ?_ ?_)
    · refine (E_ic (v := (9 : Int32)) c_221_168 (by decide)).trans ?_
      refine (E_goto (q := 175) c_221_170 rfl).trans ?_
      refine (E_il c_221_175 rfl).trans ?_
      refine (E_cVV c_221_177 mi_225 rfl (sO_kl sh_82) (Nat.le_of_ble_eq_true rfl) (Nat.le_of_ble_eq_true rfl)).trans (ax_bnd fun u0 => ?_)
      rfl
    · refine (E_ic (v := (10 : Int32)) c_221_173 (by decide)).trans ?_
      refine (E_il c_221_175 rfl).trans ?_
      refine (E_cVV c_221_177 mi_225 rfl (sO_kl sh_82) (Nat.le_of_ble_eq_true rfl) (Nat.le_of_ble_eq_true rfl)).trans (ax_bnd fun u1 => ?_)
      rfl
  · rfl
set_option maxHeartbeats 4000000 in
theorem u_221_82p180 (d : Nat) (σ : ax_S) (w0 : Value) (hw0 : w0.category = 1) (w1 : Value) (hw1 : w1.category = 1) (w2 : Value) (hw2 : w2.category = 1) (w3 : Value) (hw3 : w3.category = 1) (w4 : Value) (hw4 : w4.category = 1) (w5 : Value) (hw5 : w5.category = 1) (w6 : Value) (hw6 : w6.category = 1) (w7 : Value) (hw7 : w7.category = 1) : ev sO (d + 6) 221 180 [w0, w1, w2, w3, w4, w5, w6, w7] [] σ = some (none, σ) := by
  exact E_rV c_221_180 mi_221
set_option maxHeartbeats 4000000 in
theorem u_86_5 (d : Nat) (σ : ax_S) : ev sO d 86 0 [.ref 5] [] σ = some (some (.int (σ.1 5 2)), σ) := by
  refine (E_al c_86_0 rfl (by decide)).trans ?_
  refine (E_gfi (k := 2) c_86_1 sh_5 rfl rfl rfl (by decide)).trans ?_
  exact E_rI c_86_4 mi_86
set_option maxHeartbeats 4000000 in
theorem u_88 (d : Nat) (σ : ax_S) (x0 : Int32) : ev sO d 88 0 [.int x0] [] σ = if x0 < 0 then (some (some (.int (0 : Int32)), σ)) else (if x0 < (4 : Int32) then (some (some (.int (1 : Int32)), σ)) else (some (some (.int (0 : Int32)), σ))) := by
  refine (E_il c_88_0 rfl).trans ?_
  refine (E_b0_lt (q := 13) c_88_1 rfl).trans (ax_ite ?_ ?_)
  · refine (E_ic (v := (0 : Int32)) c_88_13 (by decide)).trans ?_
    exact E_rZ (v := (0 : Int32)) c_88_14 mi_88 (by decide)
  · refine (E_il c_88_4 rfl).trans ?_
    refine (E_ic (v := (4 : Int32)) c_88_5 (by decide)).trans ?_
    refine (E_br_ge (q := 13) c_88_6 rfl).trans (ax_ite ?_ ?_)
    · refine (E_ic (v := (1 : Int32)) c_88_9 (by decide)).trans ?_
      refine (E_goto (q := 14) c_88_10 rfl).trans ?_
      exact E_rZ (v := (1 : Int32)) c_88_14 mi_88 (by decide)
    · refine (E_ic (v := (0 : Int32)) c_88_13 (by decide)).trans ?_
      exact E_rZ (v := (0 : Int32)) c_88_14 mi_88 (by decide)
set_option maxHeartbeats 4000000 in
theorem u_89 (d : Nat) (σ : ax_S) (x0 : Int32) : ev sO d 89 0 [.int x0] [] σ = if x0 < (1800 : Int32) then (some (some (.int (0 : Int32)), σ)) else (if (2000 : Int32) < x0 then (some (some (.int (0 : Int32)), σ)) else (some (some (.int (1 : Int32)), σ))) := by
  refine (E_il c_89_0 rfl).trans ?_
  refine (E_ic (v := (1800 : Int32)) c_89_1 (by decide)).trans ?_
  refine (E_br_lt (q := 18) c_89_4 rfl).trans (ax_ite ?_ ?_)
  · refine (E_ic (v := (0 : Int32)) c_89_18 (by decide)).trans ?_
    exact E_rZ (v := (0 : Int32)) c_89_19 mi_89 (by decide)
  · refine (E_il c_89_7 rfl).trans ?_
    refine (E_ic (v := (2000 : Int32)) c_89_8 (by decide)).trans ?_
    refine (E_br_gt (q := 18) c_89_11 rfl).trans (ax_ite ?_ ?_)
    · refine (E_ic (v := (0 : Int32)) c_89_18 (by decide)).trans ?_
      exact E_rZ (v := (0 : Int32)) c_89_19 mi_89 (by decide)
    · refine (E_ic (v := (1 : Int32)) c_89_14 (by decide)).trans ?_
      refine (E_goto (q := 19) c_89_15 rfl).trans ?_
      exact E_rZ (v := (1 : Int32)) c_89_19 mi_89 (by decide)
set_option maxHeartbeats 4000000 in
theorem u_90_17 (d : Nat) (σ : ax_S) (x1 : Int32) (x2 : Int32) : ev sO (d + 2) 90 0 [.ref 17, .int x1, .int x2] [] σ = if x1 = (-1000000 : Int32) then (some (some (.int (1 : Int32)), σ)) else ((cI sO (d + 1) 84 [.ref 17, .int x1] σ).bind fun u0 => if u0.1 = 0 then (some (some (.int (0 : Int32)), u0.2)) else ((cI sO (d + 1) 91 [.ref 17, .int x1] u0.2).bind fun u1 => if x2 < u1.1 then (some (some (.int (0 : Int32)), u1.2)) else (some (some (.int (1 : Int32)), u1.2)))) := by
  refine (E_il c_90_0 rfl).trans ?_
  refine (E_ic (v := (-1000000 : Int32)) c_90_1 (by decide)).trans ?_
  refine (E_br_eq (q := 23) c_90_3 rfl).trans (ax_ite ?_ ?_)
  · refine (E_ic (v := (1 : Int32)) c_90_23 (by decide)).trans ?_
    refine (E_goto (q := 28) c_90_24 rfl).trans ?_
    exact E_rZ (v := (1 : Int32)) c_90_28 mi_90 (by decide)
  · refine (E_al c_90_6 rfl (by decide)).trans ?_
    refine (E_il c_90_7 rfl).trans ?_
    refine (E_cIV c_90_8 mi_84 rfl rfl (sO_kl sh_17) (Nat.le_of_ble_eq_true rfl) (Nat.le_of_ble_eq_true rfl)).trans (ax_bnd fun u0 => ?_)
    refine (E_b0_eq (q := 27) c_90_11 rfl).trans (ax_ite ?_ ?_)
    · refine (E_ic (v := (0 : Int32)) c_90_27 (by decide)).trans ?_
      exact E_rZ (v := (0 : Int32)) c_90_28 mi_90 (by decide)
    · refine (E_al c_90_14 rfl (by decide)).trans ?_
      refine (E_il c_90_15 rfl).trans ?_
      refine (E_cIV c_90_16 mi_91 rfl rfl (sO_kl sh_17) (Nat.le_of_ble_eq_true rfl) (Nat.le_of_ble_eq_true rfl)).trans (ax_bnd fun u1 => ?_)
      refine (E_il c_90_19 rfl).trans ?_
      refine (E_br_gt (q := 27) c_90_20 rfl).trans (ax_ite ?_ ?_)
      · refine (E_ic (v := (0 : Int32)) c_90_27 (by decide)).trans ?_
        exact E_rZ (v := (0 : Int32)) c_90_28 mi_90 (by decide)
      · refine (E_ic (v := (1 : Int32)) c_90_23 (by decide)).trans ?_
        refine (E_goto (q := 28) c_90_24 rfl).trans ?_
        exact E_rZ (v := (1 : Int32)) c_90_28 mi_90 (by decide)
set_option maxHeartbeats 4000000 in
theorem u_70_61 (d : Nat) (σ : ax_S) (x1 : Int32) (x2 : Int32) : ev sO (d + 1) 70 0 [.ref 61, .int x1, .int x2] [] σ = (cV sO d 2 [.ref 62, .int (0 : Int32)] (sI (sI (sI (sI (sI σ 61 0 x1) 61 1 x2) 61 3 (0 : Int32)) 61 4 (0 : Int32)) 61 5 (0 : Int32))).bind fun u0 => some (none, u0) := by
  refine (E_al c_70_0 rfl (by decide)).trans ?_
  refine (E_il c_70_1 rfl).trans ?_
  refine (E_pfi (k := 0) c_70_2 sh_61 rfl rfl rfl).trans ?_
  refine (E_al c_70_5 rfl (by decide)).trans ?_
  refine (E_il c_70_6 rfl).trans ?_
  refine (E_pfi (k := 1) c_70_7 sh_61 rfl rfl rfl).trans ?_
  refine (E_al c_70_10 rfl (by decide)).trans ?_
  refine (E_ic (v := (0 : Int32)) c_70_11 (by decide)).trans ?_
  refine (E_pfi (k := 3) c_70_12 sh_61 rfl rfl rfl).trans ?_
  refine (E_al c_70_15 rfl (by decide)).trans ?_
  refine (E_ic (v := (0 : Int32)) c_70_16 (by decide)).trans ?_
  refine (E_pfz (k := 4) c_70_17 sh_61 rfl rfl rfl (by decide)).trans ?_
  refine (E_al c_70_20 rfl (by decide)).trans ?_
  refine (E_ic (v := (0 : Int32)) c_70_21 (by decide)).trans ?_
  refine (E_pfz (k := 5) c_70_22 sh_61 rfl rfl rfl (by decide)).trans ?_
  refine (E_al c_70_25 rfl (by decide)).trans ?_
  refine (E_gfr (k := 2) (r := 62) c_70_26 sh_61 rfl rfl rfl).trans ?_
  refine (E_ic (v := (0 : Int32)) c_70_29 (by decide)).trans ?_
  refine (E_cVS c_70_30 mi_2 rfl (Nat.le_of_ble_eq_true rfl) (Nat.le_of_ble_eq_true rfl)).trans (ax_bnd fun u0 => ?_)
  exact E_rV c_70_33 mi_70
set_option maxHeartbeats 4000000 in
theorem u_92_61_1 (d : Nat) (σ : ax_S) (x2 : Int32) (x3 : Int32) : ev sO (d + 4) 92 0 [.ref 61, .ref 1, .int x2, .int x3, .null, .null] [] σ = ev sO (d + 4) 92 3 [.ref 61, .ref 1, .int x2, .int x3, .int (0 : Int32), .null] [] σ := by
  refine (E_ic (v := (0 : Int32)) c_92_0 (by decide)).trans ?_
  refine (E_is (L' := [.ref 61, .ref 1, .int x2, .int x3, .int (0 : Int32), .null]) c_92_1 (Nat.le_of_ble_eq_true rfl) rfl).trans ?_
  rfl
set_option maxHeartbeats 4000000 in
theorem u_92_61_1p3 (d : Nat) (σ : ax_S) (x2 : Int32) (x3 : Int32) (x4 : Int32) (w5 : Value) (hw5 : w5.category = 1) : ev sO (d + 4) 92 3 [.ref 61, .ref 1, .int x2, .int x3, .int x4, w5] [] σ = if x4 < (11 : Int32) then ((cI sO (d + 3) 93 [.ref 1, .int x2, .int (x3 + x4)] σ).bind fun u0 => if u0.1 < (-1 : Int32) then (some (some (.int (0 : Int32)), u0.2)) else ((cI sO (d + 3) 94 [.int x4] u0.2).bind fun u1 => if u1.1 < u0.1 then (some (some (.int (0 : Int32)), u1.2)) else (if u0.1 = (-1 : Int32) then (gd (0 ≤ x4.toInt ∧ x4.toInt < (11 : Nat)) (ev sO (d + 4) 92 3 [.ref 61, .ref 1, .int x2, .int x3, .int (x4 + (1 : Int32)), .int u0.1] [] (sI u1.2 62 x4.toNatClampNeg (-1000000 : Int32)))) else (gd (0 ≤ x4.toInt ∧ x4.toInt < (11 : Nat)) (ev sO (d + 4) 92 3 [.ref 61, .ref 1, .int x2, .int x3, .int (x4 + (1 : Int32)), .int u0.1] [] (sI u1.2 62 x4.toNatClampNeg u0.1)))))) else (some (some (.int (1 : Int32)), σ)) := by
  refine (E_il c_92_3 rfl).trans ?_
  refine (E_ic (v := (11 : Int32)) c_92_5 (by decide)).trans ?_
  refine (E_br_ge (q := 65) c_92_7 rfl).trans (ax_ite ?_ ?_)
  · refine (E_al c_92_10 rfl (by decide)).trans ?_
    refine (E_il c_92_11 rfl).trans ?_
    refine (E_il c_92_12 rfl).trans ?_
    refine (E_il c_92_13 rfl).trans ?_
    refine (E_iadd c_92_15).trans ?_
    refine (E_cIV c_92_16 mi_93 rfl rfl (sO_kl sh_1) (Nat.le_of_ble_eq_true rfl) (Nat.le_of_ble_eq_true rfl)).trans (ax_bnd fun u0 => ?_)
    refine (E_is (L' := [.ref 61, .ref 1, .int x2, .int x3, .int x4, .int u0.1]) c_92_19 (Nat.le_of_ble_eq_true rfl) rfl).trans ?_
    refine (E_il c_92_21 rfl).trans ?_
    refine (E_ic (v := (-1 : Int32)) c_92_23 (by decide)).trans ?_
    refine (E_br_lt (q := 37) c_92_24 rfl).trans (ax_ite ?_ ?_)
    · refine (E_ic (v := (0 : Int32)) c_92_37 (by decide)).trans ?_
      exact E_rZ (v := (0 : Int32)) c_92_38 mi_92 (by decide)
    · refine (E_il c_92_27 rfl).trans ?_
      refine (E_il c_92_29 rfl).trans ?_
      refine (E_cIS c_92_31 mi_94 rfl rfl (Nat.le_of_ble_eq_true rfl) (Nat.le_of_ble_eq_true rfl)).trans (ax_bnd fun u1 => ?_)
      refine (E_br_le (q := 39) c_92_34 rfl).trans (ax_ite ?_ ?_)
      · refine (E_ic (v := (0 : Int32)) c_92_37 (by decide)).trans ?_
        exact E_rZ (v := (0 : Int32)) c_92_38 mi_92 (by decide)
      · refine (E_al c_92_39 rfl (by decide)).trans ?_
        refine (E_gfr (k := 2) (r := 62) c_92_40 sh_61 rfl rfl rfl).trans ?_
        refine (E_il c_92_43 rfl).trans ?_
        refine (E_il c_92_45 rfl).trans ?_
        refine (E_ic (v := (-1 : Int32)) c_92_47 (by decide)).trans ?_
        refine (E_br_ne (q := 56) c_92_48 rfl).trans (ax_ite ?_ ?_)
        · refine (E_ic (v := (-1000000 : Int32)) c_92_51 (by decide)).trans ?_
          refine (E_goto (q := 58) c_92_53 rfl).trans ?_
          refine (E_ias (v := (-1000000 : Int32)) c_92_58 sh_62 rfl).trans (ax_gd ?_)
          refine (E_inc (v := (1 : Int32)) (L' := [.ref 61, .ref 1, .int x2, .int x3, .int (x4 + (1 : Int32)), .int u0.1]) c_92_59 rfl (by decide) rfl).trans ?_
          refine (E_goto (q := 3) c_92_62 rfl).trans ?_
          rfl
        · refine (E_il c_92_56 rfl).trans ?_
          refine (E_ias (v := u0.1) c_92_58 sh_62 rfl).trans (ax_gd ?_)
          refine (E_inc (v := (1 : Int32)) (L' := [.ref 61, .ref 1, .int x2, .int x3, .int (x4 + (1 : Int32)), .int u0.1]) c_92_59 rfl (by decide) rfl).trans ?_
          refine (E_goto (q := 3) c_92_62 rfl).trans ?_
          rfl
  · refine (E_ic (v := (1 : Int32)) c_92_65 (by decide)).trans ?_
    exact E_rZ (v := (1 : Int32)) c_92_66 mi_92 (by decide)
set_option maxHeartbeats 4000000 in
theorem u_229 (d : Nat) (σ : ax_S) (x0 : Int32) : ev sO (d + 1) 229 0 [.int x0] [] σ = (cI sO d 198 [.long x0.toInt64, .long (0 : Int64), .long (3 : Int64)] σ).bind fun u0 => some (some (.int (u0.1 &&& 1)), u0.2) := by
  refine (E_il c_229_0 rfl).trans ?_
  refine (E_i2l c_229_1).trans ?_
  refine (E_lc (v := (0 : Int64)) c_229_2 (by decide)).trans ?_
  refine (E_l2 (v := (3 : Int64)) c_229_3 (by decide)).trans ?_
  refine (E_cIS c_229_6 mi_198 rfl rfl (Nat.le_of_ble_eq_true rfl) (Nat.le_of_ble_eq_true rfl)).trans (ax_bnd fun u0 => ?_)
  exact E_rZ (v := (u0.1 &&& 1)) c_229_9 mi_229 rfl
set_option maxHeartbeats 4000000 in
theorem u_230 (d : Nat) (σ : ax_S) (x0 : Int32) : ev sO (d + 1) 230 0 [.int x0] [] σ = (cI sO d 198 [.long x0.toInt64, .long (1800 : Int64), .long (2000 : Int64)] σ).bind fun u0 => some (some (.int (u0.1 &&& 1)), u0.2) := by
  refine (E_il c_230_0 rfl).trans ?_
  refine (E_i2l c_230_1).trans ?_
  refine (E_l2 (v := (1800 : Int64)) c_230_2 (by decide)).trans ?_
  refine (E_l2 (v := (2000 : Int64)) c_230_5 (by decide)).trans ?_
  refine (E_cIS c_230_8 mi_198 rfl rfl (Nat.le_of_ble_eq_true rfl) (Nat.le_of_ble_eq_true rfl)).trans (ax_bnd fun u0 => ?_)
  exact E_rZ (v := (u0.1 &&& 1)) c_230_11 mi_230 rfl
set_option maxHeartbeats 4000000 in
theorem u_231_82 (d : Nat) (σ : ax_S) (x1 : Int32) : ev sO (d + 1) 231 0 [.ref 82, .int x1] [] σ = (cI sO d 198 [.long x1.toInt64, .long (0 : Int64), .long (((σ.1 88 0) - (1 : Int32)).toInt64)] σ).bind fun u0 => some (some (.int (u0.1 &&& 1)), u0.2) := by
  refine (E_il c_231_0 rfl).trans ?_
  refine (E_i2l c_231_1).trans ?_
  refine (E_lc (v := (0 : Int64)) c_231_2 (by decide)).trans ?_
  refine (E_al c_231_3 rfl (by decide)).trans ?_
  refine (E_gfr (k := 8) (r := 88) c_231_4 sh_82 rfl rfl rfl).trans ?_
  refine (E_ic (v := (0 : Int32)) c_231_7 (by decide)).trans ?_
  refine (E_ialk (k := 0) c_231_8 sh_88 (by decide) (by decide)).trans ?_
  refine (E_ic (v := (1 : Int32)) c_231_9 (by decide)).trans ?_
  refine (E_isub c_231_10).trans ?_
  refine (E_i2l c_231_11).trans ?_
  refine (E_cIS c_231_12 mi_198 rfl rfl (Nat.le_of_ble_eq_true rfl) (Nat.le_of_ble_eq_true rfl)).trans (ax_bnd fun u0 => ?_)
  exact E_rZ (v := (u0.1 &&& 1)) c_231_15 mi_231 rfl
set_option maxHeartbeats 4000000 in
theorem u_232_82 (d : Nat) (σ : ax_S) (x1 : Int32) (x2 : Int32) : ev sO d 232 0 [.ref 82, .int x1, .int x2] [] σ = gd (0 ≤ (((15 : Int32) * x1) + x2).toInt ∧ (((15 : Int32) * x1) + x2).toInt < (181 : Nat)) (some (some (.int (σ.1 88 (((15 : Int32) * x1) + x2).toNatClampNeg)), σ)) := by
  refine (E_al c_232_0 rfl (by decide)).trans ?_
  refine (E_gfr (k := 8) (r := 88) c_232_1 sh_82 rfl rfl rfl).trans ?_
  refine (E_ic (v := (15 : Int32)) c_232_4 (by decide)).trans ?_
  refine (E_il c_232_6 rfl).trans ?_
  refine (E_imul c_232_7).trans ?_
  refine (E_il c_232_8 rfl).trans ?_
  refine (E_iadd c_232_9).trans ?_
  refine (E_ial c_232_10 sh_88).trans (ax_gd ?_)
  exact E_rI c_232_11 mi_232
set_option maxHeartbeats 4000000 in
theorem u_225_82 (d : Nat) (σ : ax_S) (x1 : Int32) (x2 : Int32) : ev sO d 225 0 [.ref 82, .int x1, .int x2] [] σ = if x2 < 0 then (gd (0 ≤ ((4 : Int32) + x1).toInt ∧ ((4 : Int32) + x1).toInt < (15 : Nat)) (if x2 < 0 then (some (none, (sI (sI σ 90 ((4 : Int32) + x1).toNatClampNeg (0 : Int32)) 90 3 (((sI σ 90 ((4 : Int32) + x1).toNatClampNeg (0 : Int32)).1 90 3) ||| ((1 : Int32) <<< (x1 &&& 31)))))) else (some (none, (sI (sI σ 90 ((4 : Int32) + x1).toNatClampNeg (0 : Int32)) 90 3 (((sI σ 90 ((4 : Int32) + x1).toNatClampNeg (0 : Int32)).1 90 3) ||| (0 : Int32))))))) else (gd (0 ≤ ((4 : Int32) + x1).toInt ∧ ((4 : Int32) + x1).toInt < (15 : Nat)) (if x2 < 0 then (some (none, (sI (sI σ 90 ((4 : Int32) + x1).toNatClampNeg x2) 90 3 (((sI σ 90 ((4 : Int32) + x1).toNatClampNeg x2).1 90 3) ||| ((1 : Int32) <<< (x1 &&& 31)))))) else (some (none, (sI (sI σ 90 ((4 : Int32) + x1).toNatClampNeg x2) 90 3 (((sI σ 90 ((4 : Int32) + x1).toNatClampNeg x2).1 90 3) ||| (0 : Int32))))))) := by
  refine (E_al c_225_0 rfl (by decide)).trans ?_
  refine (E_gfr (k := 19) (r := 90) c_225_1 sh_82 rfl rfl rfl).trans ?_
  refine (E_ic (v := (4 : Int32)) c_225_4 (by decide)).trans ?_
  refine (E_il c_225_5 rfl).trans ?_
  refine (E_iadd c_225_6).trans ?_
  refine (E_il c_225_7 rfl).trans ?_
  refine (E_b0_ge (q := 15) c_225_8 rfl).trans (ax_ite ?_ ?_)
  · refine (E_ic (v := (0 : Int32)) c_225_11 (by decide)).trans ?_
    refine (E_goto (q := 16) c_225_12 rfl).trans ?_
    refine (E_ias (v := (0 : Int32)) c_225_16 sh_90 rfl).trans (ax_gd ?_)
    refine (E_al c_225_17 rfl (by decide)).trans ?_
    refine (E_gfr (k := 19) (r := 90) c_225_18 sh_82 rfl rfl rfl).trans ?_
    refine (E_ic (v := (3 : Int32)) c_225_21 (by decide)).trans ?_
    refine (E_dup2 c_225_22 ⟨rfl, rfl⟩).trans ?_
    refine (E_ialk (k := 3) c_225_23 sh_90 (by decide) (by decide)).trans ?_
    refine (E_il c_225_24 rfl).trans ?_
    refine (E_b0_ge (q := 34) c_225_25 rfl).trans (ax_ite ?_ ?_)
    · refine (E_ic (v := (1 : Int32)) c_225_28 (by decide)).trans ?_
      refine (E_il c_225_29 rfl).trans ?_
      refine (E_ishl c_225_30).trans ?_
      refine (E_goto (q := 35) c_225_31 rfl).trans ?_
      refine (E_ior c_225_35).trans ?_
      refine (E_iask (k := 3) (v := (((sI σ 90 ((4 : Int32) + x1).toNatClampNeg (0 : Int32)).1 90 3) ||| ((1 : Int32) <<< (x1 &&& 31)))) c_225_36 sh_90 rfl (by decide) (by decide)).trans ?_
      exact E_rV c_225_37 mi_225
    · refine (E_ic (v := (0 : Int32)) c_225_34 (by decide)).trans ?_
      refine (E_ior c_225_35).trans ?_
      refine (E_iask (k := 3) (v := (((sI σ 90 ((4 : Int32) + x1).toNatClampNeg (0 : Int32)).1 90 3) ||| (0 : Int32))) c_225_36 sh_90 rfl (by decide) (by decide)).trans ?_
      exact E_rV c_225_37 mi_225
  · refine (E_il c_225_15 rfl).trans ?_
    refine (E_ias (v := x2) c_225_16 sh_90 rfl).trans (ax_gd ?_)
    refine (E_al c_225_17 rfl (by decide)).trans ?_
    refine (E_gfr (k := 19) (r := 90) c_225_18 sh_82 rfl rfl rfl).trans ?_
    refine (E_ic (v := (3 : Int32)) c_225_21 (by decide)).trans ?_
    refine (E_dup2 c_225_22 ⟨rfl, rfl⟩).trans ?_
    refine (E_ialk (k := 3) c_225_23 sh_90 (by decide) (by decide)).trans ?_
    refine (E_il c_225_24 rfl).trans ?_
    refine (E_b0_ge (q := 34) c_225_25 rfl).trans (ax_ite ?_ ?_)
    · refine (E_ic (v := (1 : Int32)) c_225_28 (by decide)).trans ?_
      refine (E_il c_225_29 rfl).trans ?_
      refine (E_ishl c_225_30).trans ?_
      refine (E_goto (q := 35) c_225_31 rfl).trans ?_
      refine (E_ior c_225_35).trans ?_
      refine (E_iask (k := 3) (v := (((sI σ 90 ((4 : Int32) + x1).toNatClampNeg x2).1 90 3) ||| ((1 : Int32) <<< (x1 &&& 31)))) c_225_36 sh_90 rfl (by decide) (by decide)).trans ?_
      exact E_rV c_225_37 mi_225
    · refine (E_ic (v := (0 : Int32)) c_225_34 (by decide)).trans ?_
      refine (E_ior c_225_35).trans ?_
      refine (E_iask (k := 3) (v := (((sI σ 90 ((4 : Int32) + x1).toNatClampNeg x2).1 90 3) ||| (0 : Int32))) c_225_36 sh_90 rfl (by decide) (by decide)).trans ?_
      exact E_rV c_225_37 mi_225
set_option maxHeartbeats 4000000 in
theorem u_84_17 (d : Nat) (σ : ax_S) (x1 : Int32) : ev sO d 84 0 [.ref 17, .int x1] [] σ = if x1 < 0 then (some (some (.int (0 : Int32)), σ)) else (if x1 < (σ.1 17 0) then (if x1 < (12 : Int32) then (some (some (.int (1 : Int32)), σ)) else (some (some (.int (0 : Int32)), σ))) else (some (some (.int (0 : Int32)), σ))) := by
  refine (E_il c_84_0 rfl).trans ?_
  refine (E_b0_lt (q := 22) c_84_1 rfl).trans (ax_ite ?_ ?_)
  · refine (E_ic (v := (0 : Int32)) c_84_22 (by decide)).trans ?_
    exact E_rZ (v := (0 : Int32)) c_84_23 mi_84 (by decide)
  · refine (E_il c_84_4 rfl).trans ?_
    refine (E_al c_84_5 rfl (by decide)).trans ?_
    refine (E_gfi (k := 0) c_84_6 sh_17 rfl rfl rfl (by decide)).trans ?_
    refine (E_br_ge (q := 22) c_84_9 rfl).trans (ax_ite ?_ ?_)
    · refine (E_il c_84_12 rfl).trans ?_
      refine (E_ic (v := (12 : Int32)) c_84_13 (by decide)).trans ?_
      refine (E_br_ge (q := 22) c_84_15 rfl).trans (ax_ite ?_ ?_)
      · refine (E_ic (v := (1 : Int32)) c_84_18 (by decide)).trans ?_
        refine (E_goto (q := 23) c_84_19 rfl).trans ?_
        exact E_rZ (v := (1 : Int32)) c_84_23 mi_84 (by decide)
      · refine (E_ic (v := (0 : Int32)) c_84_22 (by decide)).trans ?_
        exact E_rZ (v := (0 : Int32)) c_84_23 mi_84 (by decide)
    · refine (E_ic (v := (0 : Int32)) c_84_22 (by decide)).trans ?_
      exact E_rZ (v := (0 : Int32)) c_84_23 mi_84 (by decide)
set_option maxHeartbeats 4000000 in
theorem u_91_17 (d : Nat) (σ : ax_S) (x1 : Int32) : ev sO (d + 1) 91 0 [.ref 17, .int x1] [] σ = (cI sO d 84 [.ref 17, .int x1] σ).bind fun u0 => if u0.1 = 0 then (some (some (.int (-1000000 : Int32)), u0.2)) else (gd (0 ≤ x1.toInt ∧ x1.toInt < (12 : Nat)) (some (some (.int (u0.2.1 19 x1.toNatClampNeg)), u0.2))) := by
  refine (E_al c_91_0 rfl (by decide)).trans ?_
  refine (E_il c_91_1 rfl).trans ?_
  refine (E_cIV c_91_2 mi_84 rfl rfl (sO_kl sh_17) (Nat.le_of_ble_eq_true rfl) (Nat.le_of_ble_eq_true rfl)).trans (ax_bnd fun u0 => ?_)
  refine (E_b0_eq (q := 17) c_91_5 rfl).trans (ax_ite ?_ ?_)
  · refine (E_ic (v := (-1000000 : Int32)) c_91_17 (by decide)).trans ?_
    exact E_rI c_91_19 mi_91
  · refine (E_al c_91_8 rfl (by decide)).trans ?_
    refine (E_gfr (k := 2) (r := 19) c_91_9 sh_17 rfl rfl rfl).trans ?_
    refine (E_il c_91_12 rfl).trans ?_
    refine (E_ial c_91_13 sh_19).trans (ax_gd ?_)
    refine (E_goto (q := 19) c_91_14 rfl).trans ?_
    exact E_rI c_91_19 mi_91
set_option maxHeartbeats 4000000 in
theorem u_74 (d : Nat) (σ : ax_S) (x0 : Int32) : ev sO d 74 0 [.int x0] [] σ = if x0 < 0 then (some (some (.int (0 : Int32)), σ)) else (if x0 < (8 : Int32) then (some (some (.int (1 : Int32)), σ)) else (some (some (.int (0 : Int32)), σ))) := by
  refine (E_il c_74_0 rfl).trans ?_
  refine (E_b0_lt (q := 14) c_74_1 rfl).trans (ax_ite ?_ ?_)
  · refine (E_ic (v := (0 : Int32)) c_74_14 (by decide)).trans ?_
    exact E_rZ (v := (0 : Int32)) c_74_15 mi_74 (by decide)
  · refine (E_il c_74_4 rfl).trans ?_
    refine (E_ic (v := (8 : Int32)) c_74_5 (by decide)).trans ?_
    refine (E_br_ge (q := 14) c_74_7 rfl).trans (ax_ite ?_ ?_)
    · refine (E_ic (v := (1 : Int32)) c_74_10 (by decide)).trans ?_
      refine (E_goto (q := 15) c_74_11 rfl).trans ?_
      exact E_rZ (v := (1 : Int32)) c_74_15 mi_74 (by decide)
    · refine (E_ic (v := (0 : Int32)) c_74_14 (by decide)).trans ?_
      exact E_rZ (v := (0 : Int32)) c_74_15 mi_74 (by decide)
set_option maxHeartbeats 4000000 in
theorem u_96_61_17 (d : Nat) (σ : ax_S) (x2 : Int32) : ev sO (d + 2) 96 0 [.ref 61, .ref 17, .int x2, .null] [] σ = ev sO (d + 2) 96 2 [.ref 61, .ref 17, .int x2, .int (0 : Int32)] [] σ := by
  refine (E_ic (v := (0 : Int32)) c_96_0 (by decide)).trans ?_
  refine (E_is (L' := [.ref 61, .ref 17, .int x2, .int (0 : Int32)]) c_96_1 (Nat.le_of_ble_eq_true rfl) rfl).trans ?_
  rfl
set_option maxHeartbeats 4000000 in
theorem u_96_61_17p2 (d : Nat) (σ : ax_S) (x2 : Int32) (x3 : Int32) : ev sO (d + 2) 96 2 [.ref 61, .ref 17, .int x2, .int x3] [] σ = if x3 < (11 : Int32) then ((cI sO (d + 1) 97 [.ref 17, .int x2, .int x3] σ).bind fun u0 => gd (0 ≤ x3.toInt ∧ x3.toInt < (11 : Nat)) (ev sO (d + 2) 96 2 [.ref 61, .ref 17, .int x2, .int (x3 + (1 : Int32))] [] (sI u0.2 62 x3.toNatClampNeg u0.1))) else (some (none, σ)) := by
  refine (E_il c_96_2 rfl).trans ?_
  refine (E_ic (v := (11 : Int32)) c_96_3 (by decide)).trans ?_
  refine (E_br_ge (q := 26) c_96_5 rfl).trans (ax_ite ?_ ?_)
  · refine (E_al c_96_8 rfl (by decide)).trans ?_
    refine (E_gfr (k := 2) (r := 62) c_96_9 sh_61 rfl rfl rfl).trans ?_
    refine (E_il c_96_12 rfl).trans ?_
    refine (E_al c_96_13 rfl (by decide)).trans ?_
    refine (E_il c_96_14 rfl).trans ?_
    refine (E_il c_96_15 rfl).trans ?_
    refine (E_cIV c_96_16 mi_97 rfl rfl (sO_kl sh_17) (Nat.le_of_ble_eq_true rfl) (Nat.le_of_ble_eq_true rfl)).trans (ax_bnd fun u0 => ?_)
    refine (E_ias (v := u0.1) c_96_19 sh_62 rfl).trans (ax_gd ?_)
    refine (E_inc (v := (1 : Int32)) (L' := [.ref 61, .ref 17, .int x2, .int (x3 + (1 : Int32))]) c_96_20 rfl (by decide) rfl).trans ?_
    refine (E_goto (q := 2) c_96_23 rfl).trans ?_
    rfl
  · exact E_rV c_96_26 mi_96
