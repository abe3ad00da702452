set_option maxHeartbeats 4000000 in
theorem u_119_63 (d : Nat) (σ : ax_S) (x1 : Int32) : ev sO (d + 1) 119 0 [.ref 63, .int x1, .null] [] σ = (cI sO d 120 [.int x1] σ).bind fun u0 => if u0.1 < (u0.2.1 63 3) then (if u0.1 = ((sI (sI (sI u0.2 63 3 u0.1) 63 2 x1) 63 4 (0 : Int32)).1 63 3) then (some (none, (sI (sI (sI (sI u0.2 63 3 u0.1) 63 2 x1) 63 4 (0 : Int32)) 63 4 (((sI (sI (sI u0.2 63 3 u0.1) 63 2 x1) 63 4 (0 : Int32)).1 63 4) + (1 : Int32))))) else (some (none, (sI (sI (sI u0.2 63 3 u0.1) 63 2 x1) 63 4 (0 : Int32))))) else (if u0.1 = (u0.2.1 63 3) then (some (none, (sI u0.2 63 4 ((u0.2.1 63 4) + (1 : Int32))))) else (some (none, u0.2))) := by
  refine (E_il c_119_0 rfl).trans ?_
  refine (E_cIS c_119_1 mi_120 rfl rfl (Nat.le_of_ble_eq_true rfl) (Nat.le_of_ble_eq_true rfl)).trans (ax_bnd fun u0 => ?_)
  refine (E_is (L' := [.ref 63, .int x1, .int u0.1]) c_119_4 (Nat.le_of_ble_eq_true rfl) rfl).trans ?_
  refine (E_il c_119_5 rfl).trans ?_
  refine (E_al c_119_6 rfl (by decide)).trans ?_
  refine (E_gfi (k := 3) c_119_7 sh_63 rfl rfl rfl (by decide)).trans ?_
  refine (E_br_ge (q := 28) c_119_10 rfl).trans (ax_ite ?_ ?_)
  · refine (E_al c_119_13 rfl (by decide)).trans ?_
    refine (E_il c_119_14 rfl).trans ?_
    refine (E_pfi (k := 3) c_119_15 sh_63 rfl rfl rfl).trans ?_
    refine (E_al c_119_18 rfl (by decide)).trans ?_
    refine (E_il c_119_19 rfl).trans ?_
    refine (E_pfi (k := 2) c_119_20 sh_63 rfl rfl rfl).trans ?_
    refine (E_al c_119_23 rfl (by decide)).trans ?_
    refine (E_ic (v := (0 : Int32)) c_119_24 (by decide)).trans ?_
    refine (E_pfi (k := 4) c_119_25 sh_63 rfl rfl rfl).trans ?_
    refine (E_il c_119_28 rfl).trans ?_
    refine (E_al c_119_29 rfl (by decide)).trans ?_
    refine (E_gfi (k := 3) c_119_30 sh_63 rfl rfl rfl (by decide)).trans ?_
    refine (E_br_ne (q := 46) c_119_33 rfl).trans (ax_ite ?_ ?_)
    · refine (E_al c_119_36 rfl (by decide)).trans ?_
      refine (E_dup c_119_37 rfl).trans ?_
      refine (E_gfi (k := 4) c_119_38 sh_63 rfl rfl rfl (by decide)).trans ?_
      refine (E_ic (v := (1 : Int32)) c_119_41 (by decide)).trans ?_
      refine (E_iadd c_119_42).trans ?_
      refine (E_pfi (k := 4) c_119_43 sh_63 rfl rfl rfl).trans ?_
      exact E_rV c_119_46 mi_119
    · exact E_rV c_119_46 mi_119
  · refine (E_il c_119_28 rfl).trans ?_
    refine (E_al c_119_29 rfl (by decide)).trans ?_
    refine (E_gfi (k := 3) c_119_30 sh_63 rfl rfl rfl (by decide)).trans ?_
    refine (E_br_ne (q := 46) c_119_33 rfl).trans (ax_ite ?_ ?_)
    · refine (E_al c_119_36 rfl (by decide)).trans ?_
      refine (E_dup c_119_37 rfl).trans ?_
      refine (E_gfi (k := 4) c_119_38 sh_63 rfl rfl rfl (by decide)).trans ?_
      refine (E_ic (v := (1 : Int32)) c_119_41 (by decide)).trans ?_
      refine (E_iadd c_119_42).trans ?_
      refine (E_pfi (k := 4) c_119_43 sh_63 rfl rfl rfl).trans ?_
      exact E_rV c_119_46 mi_119
    · exact E_rV c_119_46 mi_119
set_option maxHeartbeats 4000000 in
theorem u_129_17 (d : Nat) (σ : ax_S) (x1 : Int32) (x2 : Int32) : ev sO (d + 4) 129 0 [.ref 17, .int x1, .int x2, .null, .null] [] σ = ev sO (d + 4) 129 5 [.ref 17, .int x1, .int x2, .int (0 : Int32), .int (0 : Int32)] [] σ := by
  refine (E_ic (v := (0 : Int32)) c_129_0 (by decide)).trans ?_
  refine (E_is (L' := [.ref 17, .int x1, .int x2, .int (0 : Int32), .null]) c_129_1 (Nat.le_of_ble_eq_true rfl) rfl).trans ?_
  refine (E_ic (v := (0 : Int32)) c_129_2 (by decide)).trans ?_
  refine (E_is (L' := [.ref 17, .int x1, .int x2, .int (0 : Int32), .int (0 : Int32)]) c_129_3 (Nat.le_of_ble_eq_true rfl) rfl).trans ?_
  rfl
set_option maxHeartbeats 4000000 in
theorem u_129_17p5 (d : Nat) (σ : ax_S) (x1 : Int32) (x2 : Int32) (x3 : Int32) (x4 : Int32) : ev sO (d + 4) 129 5 [.ref 17, .int x1, .int x2, .int x3, .int x4] [] σ = if x4 < (σ.1 17 0) then ((cI sO (d + 3) 127 [.ref 17, .int x4, .int x1] σ).bind fun u0 => if u0.1 = 0 then (ev sO (d + 4) 129 5 [.ref 17, .int x1, .int x2, .int x3, .int (x4 + (1 : Int32))] [] u0.2) else ((cI sO (d + 3) 108 [.ref 17, .int x4, .int x1] u0.2).bind fun u1 => if u1.1 = x2 then (ev sO (d + 4) 129 5 [.ref 17, .int x1, .int x2, .int (x3 + (1 : Int32)), .int (x4 + (1 : Int32))] [] u1.2) else (ev sO (d + 4) 129 5 [.ref 17, .int x1, .int x2, .int x3, .int (x4 + (1 : Int32))] [] u1.2))) else (some (some (.int x3), σ)) := by
  refine (E_il c_129_5 rfl).trans ?_
  refine (E_al c_129_7 rfl (by decide)).trans ?_
  refine (E_gfi (k := 0) c_129_8 sh_17 rfl rfl rfl (by decide)).trans ?_
  refine (E_br_ge (q := 44) c_129_11 rfl).trans (ax_ite ?_ ?_)
  · refine (E_al c_129_14 rfl (by decide)).trans ?_
    refine (E_il c_129_15 rfl).trans ?_
    refine (E_il c_129_17 rfl).trans ?_
    refine (E_cIV c_129_18 mi_127 rfl rfl (sO_kl sh_17) (Nat.le_of_ble_eq_true rfl) (Nat.le_of_ble_eq_true rfl)).trans (ax_bnd fun u0 => ?_)
    refine (E_b0_eq (q := 38) c_129_21 rfl).trans (ax_ite ?_ ?_)
    · refine (E_inc (v := (1 : Int32)) (L' := [.ref 17, .int x1, .int x2, .int x3, .int (x4 + (1 : Int32))]) c_129_38 rfl (by decide) rfl).trans ?_
      refine (E_goto (q := 5) c_129_41 rfl).trans ?_
      rfl
    · refine (E_al c_129_24 rfl (by decide)).trans ?_
      refine (E_il c_129_25 rfl).trans ?_
      refine (E_il c_129_27 rfl).trans ?_
      refine (E_cIV c_129_28 mi_108 rfl rfl (sO_kl sh_17) (Nat.le_of_ble_eq_true rfl) (Nat.le_of_ble_eq_true rfl)).trans (ax_bnd fun u1 => ?_)
      refine (E_il c_129_31 rfl).trans ?_
      refine (E_br_ne (q := 38) c_129_32 rfl).trans (ax_ite ?_ ?_)
      · refine (E_inc (v := (1 : Int32)) (L' := [.ref 17, .int x1, .int x2, .int (x3 + (1 : Int32)), .int x4]) c_129_35 rfl (by decide) rfl).trans ?_
        refine (E_inc (v := (1 : Int32)) (L' := [.ref 17, .int x1, .int x2, .int (x3 + (1 : Int32)), .int (x4 + (1 : Int32))]) c_129_38 rfl (by decide) rfl).trans ?_
        refine (E_goto (q := 5) c_129_41 rfl).trans ?_
        rfl
      · refine (E_inc (v := (1 : Int32)) (L' := [.ref 17, .int x1, .int x2, .int x3, .int (x4 + (1 : Int32))]) c_129_38 rfl (by decide) rfl).trans ?_
        refine (E_goto (q := 5) c_129_41 rfl).trans ?_
        rfl
  · refine (E_il c_129_44 rfl).trans ?_
    exact E_rI c_129_45 mi_129
set_option maxHeartbeats 4000000 in
theorem u_127_17 (d : Nat) (σ : ax_S) (x1 : Int32) (x2 : Int32) : ev sO (d + 2) 127 0 [.ref 17, .int x1, .int x2, .null, .null] [] σ = (cI sO (d + 1) 91 [.ref 17, .int x1] σ).bind fun u0 => (cI sO (d + 1) 91 [.ref 17, .int x2] u0.2).bind fun u1 => if u0.1 < u1.1 then (some (some (.int (1 : Int32)), u1.2)) else (if u0.1 = u1.1 then (if x1 < x2 then (some (some (.int (1 : Int32)), u1.2)) else (some (some (.int (0 : Int32)), u1.2))) else (some (some (.int (0 : Int32)), u1.2))) := by
  refine (E_al c_127_0 rfl (by decide)).trans ?_
  refine (E_il c_127_1 rfl).trans ?_
  refine (E_cIV c_127_2 mi_91 rfl rfl (sO_kl sh_17) (Nat.le_of_ble_eq_true rfl) (Nat.le_of_ble_eq_true rfl)).trans (ax_bnd fun u0 => ?_)
  refine (E_is (L' := [.ref 17, .int x1, .int x2, .int u0.1, .null]) c_127_5 (Nat.le_of_ble_eq_true rfl) rfl).trans ?_
  refine (E_al c_127_6 rfl (by decide)).trans ?_
  refine (E_il c_127_7 rfl).trans ?_
  refine (E_cIV c_127_8 mi_91 rfl rfl (sO_kl sh_17) (Nat.le_of_ble_eq_true rfl) (Nat.le_of_ble_eq_true rfl)).trans (ax_bnd fun u1 => ?_)
  refine (E_is (L' := [.ref 17, .int x1, .int x2, .int u0.1, .int u1.1]) c_127_11 (Nat.le_of_ble_eq_true rfl) rfl).trans ?_
  refine (E_il c_127_13 rfl).trans ?_
  refine (E_il c_127_14 rfl).trans ?_
  refine (E_br_lt (q := 30) c_127_16 rfl).trans (ax_ite ?_ ?_)
  · refine (E_ic (v := (1 : Int32)) c_127_30 (by decide)).trans ?_
    refine (E_goto (q := 35) c_127_31 rfl).trans ?_
    exact E_rZ (v := (1 : Int32)) c_127_35 mi_127 (by decide)
  · refine (E_il c_127_19 rfl).trans ?_
    refine (E_il c_127_20 rfl).trans ?_
    refine (E_br_ne (q := 34) c_127_22 rfl).trans (ax_ite ?_ ?_)
    · refine (E_il c_127_25 rfl).trans ?_
      refine (E_il c_127_26 rfl).trans ?_
      refine (E_br_ge (q := 34) c_127_27 rfl).trans (ax_ite ?_ ?_)
      · refine (E_ic (v := (1 : Int32)) c_127_30 (by decide)).trans ?_
        refine (E_goto (q := 35) c_127_31 rfl).trans ?_
        exact E_rZ (v := (1 : Int32)) c_127_35 mi_127 (by decide)
      · refine (E_ic (v := (0 : Int32)) c_127_34 (by decide)).trans ?_
        exact E_rZ (v := (0 : Int32)) c_127_35 mi_127 (by decide)
    · refine (E_ic (v := (0 : Int32)) c_127_34 (by decide)).trans ?_
      exact E_rZ (v := (0 : Int32)) c_127_35 mi_127 (by decide)
set_option maxHeartbeats 4000000 in
theorem u_133_17 (d : Nat) (σ : ax_S) (x1 : Int32) (x2 : Int32) (x3 : Int32) : ev sO (d + 2) 133 0 [.ref 17, .int x1, .int x2, .int x3, .null, .null, .null] [] σ = ev sO (d + 2) 133 6 [.ref 17, .int x1, .int x2, .int x3, .int (1 : Int32), .int (0 : Int32), .null] [] σ := by
  refine (E_ic (v := (1 : Int32)) c_133_0 (by decide)).trans ?_
  refine (E_is (L' := [.ref 17, .int x1, .int x2, .int x3, .int (1 : Int32), .null, .null]) c_133_1 (Nat.le_of_ble_eq_true rfl) rfl).trans ?_
  refine (E_ic (v := (0 : Int32)) c_133_3 (by decide)).trans ?_
  refine (E_is (L' := [.ref 17, .int x1, .int x2, .int x3, .int (1 : Int32), .int (0 : Int32), .null]) c_133_4 (Nat.le_of_ble_eq_true rfl) rfl).trans ?_
  rfl
set_option maxHeartbeats 4000000 in
theorem u_133_17p6 (d : Nat) (σ : ax_S) (x1 : Int32) (x2 : Int32) (x3 : Int32) (x4 : Int32) (x5 : Int32) (w6 : Value) (hw6 : w6.category = 1) : ev sO (d + 2) 133 6 [.ref 17, .int x1, .int x2, .int x3, .int x4, .int x5, w6] [] σ = if x5 < (11 : Int32) then ((cI sO (d + 1) 97 [.ref 17, .int x1, .int x5] σ).bind fun u0 => if u0.1 = (-1000000 : Int32) then (ev sO (d + 2) 133 6 [.ref 17, .int x1, .int x2, .int x3, .int x4, .int (x5 + (1 : Int32)), .int u0.1] [] u0.2) else ((cI sO (d + 1) 97 [.ref 17, .int x2, .int x5] u0.2).bind fun u1 => if u1.1 = u0.1 then (ev sO (d + 2) 133 6 [.ref 17, .int x1, .int x2, .int x3, .int x4, .int (x5 + (1 : Int32)), .int u0.1] [] u1.2) else ((cI sO (d + 1) 97 [.ref 17, .int x3, .int x5] u1.2).bind fun u2 => if u2.1 = u0.1 then (ev sO (d + 2) 133 6 [.ref 17, .int x1, .int x2, .int x3, .int x4, .int (x5 + (1 : Int32)), .int u0.1] [] u2.2) else (ev sO (d + 2) 133 6 [.ref 17, .int x1, .int x2, .int x3, .int (x4 + (1 : Int32)), .int (x5 + (1 : Int32)), .int u0.1] [] u2.2)))) else (some (some (.int x4), σ)) := by
  refine (E_il c_133_6 rfl).trans ?_
  refine (E_ic (v := (11 : Int32)) c_133_8 (by decide)).trans ?_
  refine (E_br_ge (q := 62) c_133_10 rfl).trans (ax_ite ?_ ?_)
  · refine (E_al c_133_13 rfl (by decide)).trans ?_
    refine (E_il c_133_14 rfl).trans ?_
    refine (E_il c_133_15 rfl).trans ?_
    refine (E_cIV c_133_17 mi_97 rfl rfl (sO_kl sh_17) (Nat.le_of_ble_eq_true rfl) (Nat.le_of_ble_eq_true rfl)).trans (ax_bnd fun u0 => ?_)
    refine (E_is (L' := [.ref 17, .int x1, .int x2, .int x3, .int x4, .int x5, .int u0.1]) c_133_20 (Nat.le_of_ble_eq_true rfl) rfl).trans ?_
    refine (E_il c_133_22 rfl).trans ?_
    refine (E_ic (v := (-1000000 : Int32)) c_133_24 (by decide)).trans ?_
    refine (E_br_eq (q := 56) c_133_26 rfl).trans (ax_ite ?_ ?_)
    · refine (E_inc (v := (1 : Int32)) (L' := [.ref 17, .int x1, .int x2, .int x3, .int x4, .int (x5 + (1 : Int32)), .int u0.1]) c_133_56 rfl (by decide) rfl).trans ?_
      refine (E_goto (q := 6) c_133_59 rfl).trans ?_
      rfl
    · refine (E_al c_133_29 rfl (by decide)).trans ?_
      refine (E_il c_133_30 rfl).trans ?_
      refine (E_il c_133_31 rfl).trans ?_
      refine (E_cIV c_133_33 mi_97 rfl rfl (sO_kl sh_17) (Nat.le_of_ble_eq_true rfl) (Nat.le_of_ble_eq_true rfl)).trans (ax_bnd fun u1 => ?_)
      refine (E_il c_133_36 rfl).trans ?_
      refine (E_br_eq (q := 56) c_133_38 rfl).trans (ax_ite ?_ ?_)
      · refine (E_inc (v := (1 : Int32)) (L' := [.ref 17, .int x1, .int x2, .int x3, .int x4, .int (x5 + (1 : Int32)), .int u0.1]) c_133_56 rfl (by decide) rfl).trans ?_
        refine (E_goto (q := 6) c_133_59 rfl).trans ?_
        rfl
      · refine (E_al c_133_41 rfl (by decide)).trans ?_
        refine (E_il c_133_42 rfl).trans ?_
        refine (E_il c_133_43 rfl).trans ?_
        refine (E_cIV c_133_45 mi_97 rfl rfl (sO_kl sh_17) (Nat.le_of_ble_eq_true rfl) (Nat.le_of_ble_eq_true rfl)).trans (ax_bnd fun u2 => ?_)
        refine (E_il c_133_48 rfl).trans ?_
        refine (E_br_eq (q := 56) c_133_50 rfl).trans (ax_ite ?_ ?_)
        · refine (E_inc (v := (1 : Int32)) (L' := [.ref 17, .int x1, .int x2, .int x3, .int x4, .int (x5 + (1 : Int32)), .int u0.1]) c_133_56 rfl (by decide) rfl).trans ?_
          refine (E_goto (q := 6) c_133_59 rfl).trans ?_
          rfl
        · refine (E_inc (v := (1 : Int32)) (L' := [.ref 17, .int x1, .int x2, .int x3, .int (x4 + (1 : Int32)), .int x5, .int u0.1]) c_133_53 rfl (by decide) rfl).trans ?_
          refine (E_inc (v := (1 : Int32)) (L' := [.ref 17, .int x1, .int x2, .int x3, .int (x4 + (1 : Int32)), .int (x5 + (1 : Int32)), .int u0.1]) c_133_56 rfl (by decide) rfl).trans ?_
          refine (E_goto (q := 6) c_133_59 rfl).trans ?_
          rfl
  · refine (E_il c_133_62 rfl).trans ?_
    exact E_rI c_133_64 mi_133
set_option maxHeartbeats 4000000 in
theorem u_137_67_17 (d : Nat) (σ : ax_S) (x2 : Int32) : ev sO (d + 2) 137 0 [.ref 67, .ref 17, .int x2, .null, .null] [] σ = ev sO (d + 2) 137 7 [.ref 67, .ref 17, .int x2, .int (0 : Int32), .null] [] (sI σ 67 0 (0 : Int32)) := by
  refine (E_al c_137_0 rfl (by decide)).trans ?_
  refine (E_ic (v := (0 : Int32)) c_137_1 (by decide)).trans ?_
  refine (E_pfi (k := 0) c_137_2 sh_67 rfl rfl rfl).trans ?_
  refine (E_ic (v := (0 : Int32)) c_137_5 (by decide)).trans ?_
  refine (E_is (L' := [.ref 67, .ref 17, .int x2, .int (0 : Int32), .null]) c_137_6 (Nat.le_of_ble_eq_true rfl) rfl).trans ?_
  rfl
set_option maxHeartbeats 4000000 in
theorem u_137_67_17p7 (d : Nat) (σ : ax_S) (x2 : Int32) (x3 : Int32) (w4 : Value) (hw4 : w4.category = 1) : ev sO (d + 2) 137 7 [.ref 67, .ref 17, .int x2, .int x3, w4] [] σ = (cI sO (d + 1) 124 [.ref 17] σ).bind fun u0 => if x3 < u0.1 then (if (u0.2.1 67 0) < (6 : Int32) then (if ((x2 >>> (x3 &&& 31)) &&& (1 : Int32)) = 0 then (ev sO (d + 2) 137 7 [.ref 67, .ref 17, .int x2, .int (x3 + (1 : Int32)), w4] [] u0.2) else (gd (0 ≤ (u0.2.1 67 0).toInt ∧ (u0.2.1 67 0).toInt < (6 : Nat)) (ev sO (d + 2) 137 7 [.ref 67, .ref 17, .int x2, .int (x3 + (1 : Int32)), w4] [] (sI (sI u0.2 68 (u0.2.1 67 0).toNatClampNeg x3) 67 0 (((sI u0.2 68 (u0.2.1 67 0).toNatClampNeg x3).1 67 0) + (1 : Int32)))))) else (ev sO (d + 2) 137 60 [.ref 67, .ref 17, .int x2, .int (0 : Int32), w4] [] u0.2)) else (ev sO (d + 2) 137 60 [.ref 67, .ref 17, .int x2, .int (0 : Int32), w4] [] u0.2) := by
  refine (E_il c_137_7 rfl).trans ?_
  refine (E_al c_137_8 rfl (by decide)).trans ?_
  refine (E_cIV c_137_9 mi_124 rfl rfl (sO_kl sh_17) (Nat.le_of_ble_eq_true rfl) (Nat.le_of_ble_eq_true rfl)).trans (ax_bnd fun u0 => ?_)
  refine (E_br_ge (q := 58) c_137_12 rfl).trans (ax_ite ?_ ?_)
  · refine (E_al c_137_15 rfl (by decide)).trans ?_
    refine (E_gfi (k := 0) c_137_16 sh_67 rfl rfl rfl (by decide)).trans ?_
    refine (E_ic (v := (6 : Int32)) c_137_19 (by decide)).trans ?_
    refine (E_br_ge (q := 58) c_137_21 rfl).trans (ax_ite ?_ ?_)
    · refine (E_il c_137_24 rfl).trans ?_
      refine (E_il c_137_25 rfl).trans ?_
      refine (E_ishr c_137_26).trans ?_
      refine (E_ic (v := (1 : Int32)) c_137_27 (by decide)).trans ?_
      refine (E_iand c_137_28).trans ?_
      refine (E_b0_eq (q := 52) c_137_29 rfl).trans (ax_ite ?_ ?_)
      · refine (E_inc (v := (1 : Int32)) (L' := [.ref 67, .ref 17, .int x2, .int (x3 + (1 : Int32)), w4]) c_137_52 rfl (by decide) rfl).trans ?_
        refine (E_goto (q := 7) c_137_55 rfl).trans ?_
        rfl
      · refine (E_al c_137_32 rfl (by decide)).trans ?_
        refine (E_gfr (k := 1) (r := 68) c_137_33 sh_67 rfl rfl rfl).trans ?_
        refine (E_al c_137_36 rfl (by decide)).trans ?_
        refine (E_gfi (k := 0) c_137_37 sh_67 rfl rfl rfl (by decide)).trans ?_
        refine (E_il c_137_40 rfl).trans ?_
        refine (E_ias (v := x3) c_137_41 sh_68 rfl).trans (ax_gd ?_)
        refine (E_al c_137_42 rfl (by decide)).trans ?_
        refine (E_dup c_137_43 rfl).trans ?_
        refine (E_gfi (k := 0) c_137_44 sh_67 rfl rfl rfl (by decide)).trans ?_
        refine (E_ic (v := (1 : Int32)) c_137_47 (by decide)).trans ?_
        refine (E_iadd c_137_48).trans ?_
        refine (E_pfi (k := 0) c_137_49 sh_67 rfl rfl rfl).trans ?_
        refine (E_inc (v := (1 : Int32)) (L' := [.ref 67, .ref 17, .int x2, .int (x3 + (1 : Int32)), w4]) c_137_52 rfl (by decide) rfl).trans ?_
        refine (E_goto (q := 7) c_137_55 rfl).trans ?_
        rfl
    · refine (E_ic (v := (0 : Int32)) c_137_58 (by decide)).trans ?_
      refine (E_is (L' := [.ref 67, .ref 17, .int x2, .int (0 : Int32), w4]) c_137_59 (Nat.le_of_ble_eq_true rfl) rfl).trans ?_
      rfl
  · refine (E_ic (v := (0 : Int32)) c_137_58 (by decide)).trans ?_
    refine (E_is (L' := [.ref 67, .ref 17, .int x2, .int (0 : Int32), w4]) c_137_59 (Nat.le_of_ble_eq_true rfl) rfl).trans ?_
    rfl
set_option maxHeartbeats 4000000 in
theorem u_137_67_17p60 (d : Nat) (σ : ax_S) (w2 : Value) (hw2 : w2.category = 1) (x3 : Int32) (w4 : Value) (hw4 : w4.category = 1) : ev sO (d + 2) 137 60 [.ref 67, .ref 17, w2, .int x3, w4] [] σ = if x3 < (11 : Int32) then (gd (0 ≤ x3.toInt ∧ x3.toInt < (11 : Nat)) (ev sO (d + 2) 137 76 [.ref 67, .ref 17, w2, .int x3, .int (0 : Int32)] [] (sI σ 70 x3.toNatClampNeg (0 : Int32)))) else (some (none, σ)) := by
  refine (E_il c_137_60 rfl).trans ?_
  refine (E_ic (v := (11 : Int32)) c_137_61 (by decide)).trans ?_
  refine (E_br_ge (q := 161) c_137_63 rfl).trans (ax_ite ?_ ?_)
  · refine (E_al c_137_66 rfl (by decide)).trans ?_
    refine (E_gfr (k := 3) (r := 70) c_137_67 sh_67 rfl rfl rfl).trans ?_
    refine (E_il c_137_70 rfl).trans ?_
    refine (E_ic (v := (0 : Int32)) c_137_71 (by decide)).trans ?_
    refine (E_ias (v := (0 : Int32)) c_137_72 sh_70 rfl).trans (ax_gd ?_)
    refine (E_ic (v := (0 : Int32)) c_137_73 (by decide)).trans ?_
    refine (E_is (L' := [.ref 67, .ref 17, w2, .int x3, .int (0 : Int32)]) c_137_74 (Nat.le_of_ble_eq_true rfl) rfl).trans ?_
    rfl
  · exact E_rV c_137_161 mi_137
set_option maxHeartbeats 4000000 in
theorem u_137_67_17p76 (d : Nat) (σ : ax_S) (w2 : Value) (hw2 : w2.category = 1) (x3 : Int32) (x4 : Int32) : ev sO (d + 2) 137 76 [.ref 67, .ref 17, w2, .int x3, .int x4] [] σ = if x4 < (σ.1 67 0) then (gd (0 ≤ x4.toInt ∧ x4.toInt < (6 : Nat)) ((cI sO (d + 1) 97 [.ref 17, .int (σ.1 68 x4.toNatClampNeg), .int x3] σ).bind fun u0 => (cV sO (d + 1) 138 [.ref 67, .int x3, .int u0.1] u0.2).bind fun u1 => ev sO (d + 2) 137 76 [.ref 67, .ref 17, w2, .int x3, .int (x4 + (1 : Int32))] [] u1)) else (ev sO (d + 2) 137 111 [.ref 67, .ref 17, w2, .int x3, .int (0 : Int32)] [] σ) := by
  refine (E_il c_137_76 rfl).trans ?_
  refine (E_al c_137_78 rfl (by decide)).trans ?_
  refine (E_gfi (k := 0) c_137_79 sh_67 rfl rfl rfl (by decide)).trans ?_
  refine (E_br_ge (q := 108) c_137_82 rfl).trans (ax_ite ?_ ?_)
  · refine (E_al c_137_85 rfl (by decide)).trans ?_
    refine (E_il c_137_86 rfl).trans ?_
    refine (E_al c_137_87 rfl (by decide)).trans ?_
    refine (E_al c_137_88 rfl (by decide)).trans ?_
    refine (E_gfr (k := 1) (r := 68) c_137_89 sh_67 rfl rfl rfl).trans ?_
    refine (E_il c_137_92 rfl).trans ?_
    refine (E_ial c_137_94 sh_68).trans (ax_gd ?_)
    refine (E_il c_137_95 rfl).trans ?_
    refine (E_cIV c_137_96 mi_97 rfl rfl (sO_kl sh_17) (Nat.le_of_ble_eq_true rfl) (Nat.le_of_ble_eq_true rfl)).trans (ax_bnd fun u0 => ?_)
    refine (E_cVV c_137_99 mi_138 rfl (sO_kl sh_67) (Nat.le_of_ble_eq_true rfl) (Nat.le_of_ble_eq_true rfl)).trans (ax_bnd fun u1 => ?_)
    refine (E_inc (v := (1 : Int32)) (L' := [.ref 67, .ref 17, w2, .int x3, .int (x4 + (1 : Int32))]) c_137_102 rfl (by decide) rfl).trans ?_
    refine (E_goto (q := 76) c_137_105 rfl).trans ?_
    rfl
  · refine (E_ic (v := (0 : Int32)) c_137_108 (by decide)).trans ?_
    refine (E_is (L' := [.ref 67, .ref 17, w2, .int x3, .int (0 : Int32)]) c_137_109 (Nat.le_of_ble_eq_true rfl) rfl).trans ?_
    rfl
set_option maxHeartbeats 4000000 in
theorem u_137_67_17p111 (d : Nat) (σ : ax_S) (w2 : Value) (hw2 : w2.category = 1) (x3 : Int32) (x4 : Int32) : ev sO (d + 2) 137 111 [.ref 67, .ref 17, w2, .int x3, .int x4] [] σ = if x4 < (σ.1 67 0) then (gd (0 ≤ x4.toInt ∧ x4.toInt < (6 : Nat)) ((cI sO (d + 1) 97 [.ref 17, .int (σ.1 68 x4.toNatClampNeg), .int x3] σ).bind fun u0 => (cI sO (d + 1) 139 [.ref 67, .int x3, .int u0.1] u0.2).bind fun u1 => gd (0 ≤ ((x3 * (6 : Int32)) + x4).toInt ∧ ((x3 * (6 : Int32)) + x4).toInt < (66 : Nat)) (ev sO (d + 2) 137 111 [.ref 67, .ref 17, w2, .int x3, .int (x4 + (1 : Int32))] [] (sI u1.2 71 ((x3 * (6 : Int32)) + x4).toNatClampNeg u1.1)))) else (ev sO (d + 2) 137 60 [.ref 67, .ref 17, w2, .int (x3 + (1 : Int32)), .int x4] [] σ) := by
  refine (E_il c_137_111 rfl).trans ?_
  refine (E_al c_137_113 rfl (by decide)).trans ?_
  refine (E_gfi (k := 0) c_137_114 sh_67 rfl rfl rfl (by decide)).trans ?_
  refine (E_br_ge (q := 155) c_137_117 rfl).trans (ax_ite ?_ ?_)
  · refine (E_al c_137_120 rfl (by decide)).trans ?_
    refine (E_gfr (k := 4) (r := 71) c_137_121 sh_67 rfl rfl rfl).trans ?_
    refine (E_il c_137_124 rfl).trans ?_
    refine (E_ic (v := (6 : Int32)) c_137_125 (by decide)).trans ?_
    refine (E_imul c_137_127).trans ?_
    refine (E_il c_137_128 rfl).trans ?_
    refine (E_iadd c_137_130).trans ?_
    refine (E_al c_137_131 rfl (by decide)).trans ?_
    refine (E_il c_137_132 rfl).trans ?_
    refine (E_al c_137_133 rfl (by decide)).trans ?_
    refine (E_al c_137_134 rfl (by decide)).trans ?_
    refine (E_gfr (k := 1) (r := 68) c_137_135 sh_67 rfl rfl rfl).trans ?_
    refine (E_il c_137_138 rfl).trans ?_
    refine (E_ial c_137_140 sh_68).trans (ax_gd ?_)
    refine (E_il c_137_141 rfl).trans ?_
    refine (E_cIV c_137_142 mi_97 rfl rfl (sO_kl sh_17) (Nat.le_of_ble_eq_true rfl) (Nat.le_of_ble_eq_true rfl)).trans (ax_bnd fun u0 => ?_)
    refine (E_cIV c_137_145 mi_139 rfl rfl (sO_kl sh_67) (Nat.le_of_ble_eq_true rfl) (Nat.le_of_ble_eq_true rfl)).trans (ax_bnd fun u1 => ?_)
    refine (E_ias (v := u1.1) c_137_148 sh_71 rfl).trans (ax_gd ?_)
    refine (E_inc (v := (1 : Int32)) (L' := [.ref 67, .ref 17, w2, .int x3, .int (x4 + (1 : Int32))]) c_137_149 rfl (by decide) rfl).trans ?_
    refine (E_goto (q := 111) c_137_152 rfl).trans ?_
    rfl
  · refine (E_inc (v := (1 : Int32)) (L' := [.ref 67, .ref 17, w2, .int (x3 + (1 : Int32)), .int x4]) c_137_155 rfl (by decide) (by simp [ax_st1, ax_drp, hw2])).trans ?_
    refine (E_goto (q := 60) c_137_158 rfl).trans ?_
    rfl
set_option maxHeartbeats 4000000 in
theorem u_140_66 (d : Nat) (σ : ax_S) : ev sO (d + 2) 140 0 [.ref 66, .null, .null, .null, .null, .null] [] σ = (cI sO (d + 1) 141 [.ref 67] σ).bind fun u0 => if (σ.1 66 1) = u0.1 then ((cI sO (d + 1) 141 [.ref 67] u0.2).bind fun u1 => ev sO (d + 2) 140 33 [.ref 66, .int (0 : Int32), .int (0 : Int32), .null, .null, .null] [] (sI u1.2 66 1 u1.1)) else ((cI sO (d + 1) 141 [.ref 67] u0.2).bind fun u2 => ev sO (d + 2) 140 33 [.ref 66, .int (1 : Int32), .int (0 : Int32), .null, .null, .null] [] (sI u2.2 66 1 u2.1)) := by
  refine (E_al c_140_0 rfl (by decide)).trans ?_
  refine (E_gfi (k := 1) c_140_1 sh_66 rfl rfl rfl (by decide)).trans ?_
  refine (E_al c_140_4 rfl (by decide)).trans ?_
  refine (E_gfr (k := 0) (r := 67) c_140_5 sh_66 rfl rfl rfl).trans ?_
  refine (E_cIV c_140_8 mi_141 rfl rfl (sO_kl sh_67) (Nat.le_of_ble_eq_true rfl) (Nat.le_of_ble_eq_true rfl)).trans (ax_bnd fun u0 => ?_)
  refine (E_br_eq (q := 18) c_140_11 rfl).trans (ax_ite ?_ ?_)
  · refine (E_ic (v := (0 : Int32)) c_140_18 (by decide)).trans ?_
    refine (E_is (L' := [.ref 66, .int (0 : Int32), .null, .null, .null, .null]) c_140_19 (Nat.le_of_ble_eq_true rfl) rfl).trans ?_
    refine (E_al c_140_20 rfl (by decide)).trans ?_
    refine (E_al c_140_21 rfl (by decide)).trans ?_
    refine (E_gfr (k := 0) (r := 67) c_140_22 sh_66 rfl rfl rfl).trans ?_
    refine (E_cIV c_140_25 mi_141 rfl rfl (sO_kl sh_67) (Nat.le_of_ble_eq_true rfl) (Nat.le_of_ble_eq_true rfl)).trans (ax_bnd fun u1 => ?_)
    refine (E_pfi (k := 1) c_140_28 sh_66 rfl rfl rfl).trans ?_
    refine (E_ic (v := (0 : Int32)) c_140_31 (by decide)).trans ?_
    refine (E_is (L' := [.ref 66, .int (0 : Int32), .int (0 : Int32), .null, .null, .null]) c_140_32 (Nat.le_of_ble_eq_true rfl) rfl).trans ?_
    rfl
  · refine (E_ic (v := (1 : Int32)) c_140_14 (by decide)).trans ?_
    refine (E_goto (q := 19) c_140_15 rfl).trans ?_
    refine (E_is (L' := [.ref 66, .int (1 : Int32), .null, .null, .null, .null]) c_140_19 (Nat.le_of_ble_eq_true rfl) rfl).trans ?_
    refine (E_al c_140_20 rfl (by decide)).trans ?_
    refine (E_al c_140_21 rfl (by decide)).trans ?_
    refine (E_gfr (k := 0) (r := 67) c_140_22 sh_66 rfl rfl rfl).trans ?_
    refine (E_cIV c_140_25 mi_141 rfl rfl (sO_kl sh_67) (Nat.le_of_ble_eq_true rfl) (Nat.le_of_ble_eq_true rfl)).trans (ax_bnd fun u2 => ?_)
    refine (E_pfi (k := 1) c_140_28 sh_66 rfl rfl rfl).trans ?_
    refine (E_ic (v := (0 : Int32)) c_140_31 (by decide)).trans ?_
    refine (E_is (L' := [.ref 66, .int (1 : Int32), .int (0 : Int32), .null, .null, .null]) c_140_32 (Nat.le_of_ble_eq_true rfl) rfl).trans ?_
    rfl
set_option maxHeartbeats 4000000 in
theorem u_140_66p33 (d : Nat) (σ : ax_S) (x1 : Int32) (x2 : Int32) (w3 : Value) (hw3 : w3.category = 1) (w4 : Value) (hw4 : w4.category = 1) (w5 : Value) (hw5 : w5.category = 1) : ev sO (d + 2) 140 33 [.ref 66, .int x1, .int x2, w3, w4, w5] [] σ = if x2 < (σ.1 66 1) then (if x2 < (6 : Int32) then ((cI sO (d + 1) 142 [.int x2] σ).bind fun u0 => gd (0 ≤ u0.1.toInt ∧ u0.1.toInt < (11 : Nat)) (ev sO (d + 2) 140 64 [.ref 66, .int x1, .int x2, .int u0.1, .int (0 : Int32), w5] [] (sI u0.2 76 u0.1.toNatClampNeg ((1 : Int32) <<< (x2 &&& 31))))) else (some (some (.int (x1 &&& 1)), σ))) else (some (some (.int (x1 &&& 1)), σ)) := by
  refine (E_il c_140_33 rfl).trans ?_
  refine (E_al c_140_34 rfl (by decide)).trans ?_
  refine (E_gfi (k := 1) c_140_35 sh_66 rfl rfl rfl (by decide)).trans ?_
  refine (E_br_ge (q := 136) c_140_38 rfl).trans (ax_ite ?_ ?_)
  · refine (E_il c_140_41 rfl).trans ?_
    refine (E_ic (v := (6 : Int32)) c_140_42 (by decide)).trans ?_
    refine (E_br_ge (q := 136) c_140_44 rfl).trans (ax_ite ?_ ?_)
    · refine (E_il c_140_47 rfl).trans ?_
      refine (E_cIS c_140_48 mi_142 rfl rfl (Nat.le_of_ble_eq_true rfl) (Nat.le_of_ble_eq_true rfl)).trans (ax_bnd fun u0 => ?_)
      refine (E_is (L' := [.ref 66, .int x1, .int x2, .int u0.1, w4, w5]) c_140_51 (Nat.le_of_ble_eq_true rfl) rfl).trans ?_
      refine (E_al c_140_52 rfl (by decide)).trans ?_
      refine (E_gfr (k := 6) (r := 76) c_140_53 sh_66 rfl rfl rfl).trans ?_
      refine (E_il c_140_56 rfl).trans ?_
      refine (E_ic (v := (1 : Int32)) c_140_57 (by decide)).trans ?_
      refine (E_il c_140_58 rfl).trans ?_
      refine (E_ishl c_140_59).trans ?_
      refine (E_ias (v := ((1 : Int32) <<< (x2 &&& 31))) c_140_60 sh_76 rfl).trans (ax_gd ?_)
      refine (E_ic (v := (0 : Int32)) c_140_61 (by decide)).trans ?_
      refine (E_is (L' := [.ref 66, .int x1, .int x2, .int u0.1, .int (0 : Int32), w5]) c_140_62 (Nat.le_of_ble_eq_true rfl) rfl).trans ?_
      rfl
    · refine (E_il c_140_136 rfl).trans ?_
      exact E_rZ (v := (x1 &&& 1)) c_140_137 mi_140 rfl
  · refine (E_il c_140_136 rfl).trans ?_
    exact E_rZ (v := (x1 &&& 1)) c_140_137 mi_140 rfl
set_option maxHeartbeats 4000000 in
theorem u_140_66p64 (d : Nat) (σ : ax_S) (x1 : Int32) (x2 : Int32) (x3 : Int32) (x4 : Int32) (w5 : Value) (hw5 : w5.category = 1) : ev sO (d + 2) 140 64 [.ref 66, .int x1, .int x2, .int x3, .int x4, w5] [] σ = if x4 < (11 : Int32) then ((cI sO (d + 1) 143 [.ref 67, .int x4, .int x2] σ).bind fun u0 => if x1 = 0 then (gd (0 ≤ ((x4 * (11 : Int32)) + x3).toInt ∧ ((x4 * (11 : Int32)) + x3).toInt < (121 : Nat)) (if (u0.2.1 72 ((x4 * (11 : Int32)) + x3).toNatClampNeg) = u0.1 then (gd (0 ≤ ((x4 * (11 : Int32)) + x3).toInt ∧ ((x4 * (11 : Int32)) + x3).toInt < (121 : Nat)) (ev sO (d + 2) 140 64 [.ref 66, .int (0 : Int32), .int x2, .int x3, .int (x4 + (1 : Int32)), .int u0.1] [] (sI u0.2 72 ((x4 * (11 : Int32)) + x3).toNatClampNeg u0.1))) else (gd (0 ≤ ((x4 * (11 : Int32)) + x3).toInt ∧ ((x4 * (11 : Int32)) + x3).toInt < (121 : Nat)) (ev sO (d + 2) 140 64 [.ref 66, .int (1 : Int32), .int x2, .int x3, .int (x4 + (1 : Int32)), .int u0.1] [] (sI u0.2 72 ((x4 * (11 : Int32)) + x3).toNatClampNeg u0.1))))) else (gd (0 ≤ ((x4 * (11 : Int32)) + x3).toInt ∧ ((x4 * (11 : Int32)) + x3).toInt < (121 : Nat)) (ev sO (d + 2) 140 64 [.ref 66, .int (1 : Int32), .int x2, .int x3, .int (x4 + (1 : Int32)), .int u0.1] [] (sI u0.2 72 ((x4 * (11 : Int32)) + x3).toNatClampNeg u0.1)))) else (ev sO (d + 2) 140 33 [.ref 66, .int x1, .int (x2 + (1 : Int32)), .int x3, .int x4, w5] [] σ) := by
  refine (E_il c_140_64 rfl).trans ?_
  refine (E_ic (v := (11 : Int32)) c_140_66 (by decide)).trans ?_
  refine (E_br_ge (q := 130) c_140_68 rfl).trans (ax_ite ?_ ?_)
  · refine (E_al c_140_71 rfl (by decide)).trans ?_
    refine (E_gfr (k := 0) (r := 67) c_140_72 sh_66 rfl rfl rfl).trans ?_
    refine (E_il c_140_75 rfl).trans ?_
    refine (E_il c_140_77 rfl).trans ?_
    refine (E_cIV c_140_78 mi_143 rfl rfl (sO_kl sh_67) (Nat.le_of_ble_eq_true rfl) (Nat.le_of_ble_eq_true rfl)).trans (ax_bnd fun u0 => ?_)
    refine (E_is (L' := [.ref 66, .int x1, .int x2, .int x3, .int x4, .int u0.1]) c_140_81 (Nat.le_of_ble_eq_true rfl) rfl).trans ?_
    refine (E_il c_140_83 rfl).trans ?_
    refine (E_b0_ne (q := 104) c_140_84 rfl).trans (ax_ite ?_ ?_)
    · refine (E_al c_140_87 rfl (by decide)).trans ?_
      refine (E_gfr (k := 2) (r := 72) c_140_88 sh_66 rfl rfl rfl).trans ?_
      refine (E_il c_140_91 rfl).trans ?_
      refine (E_ic (v := (11 : Int32)) c_140_93 (by decide)).trans ?_
      refine (E_imul c_140_95).trans ?_
      refine (E_il c_140_96 rfl).trans ?_
      refine (E_iadd c_140_97).trans ?_
      refine (E_ial c_140_98 sh_72).trans (ax_gd ?_)
      refine (E_il c_140_99 rfl).trans ?_
      refine (E_br_eq (q := 108) c_140_101 rfl).trans (ax_ite ?_ ?_)
      · refine (E_ic (v := (0 : Int32)) c_140_108 (by decide)).trans ?_
        refine (E_is (L' := [.ref 66, .int (0 : Int32), .int x2, .int x3, .int x4, .int u0.1]) c_140_109 (Nat.le_of_ble_eq_true rfl) rfl).trans ?_
        refine (E_al c_140_110 rfl (by decide)).trans ?_
        refine (E_gfr (k := 2) (r := 72) c_140_111 sh_66 rfl rfl rfl).trans ?_
        refine (E_il c_140_114 rfl).trans ?_
        refine (E_ic (v := (11 : Int32)) c_140_116 (by decide)).trans ?_
        refine (E_imul c_140_118).trans ?_
        refine (E_il c_140_119 rfl).trans ?_
        refine (E_iadd c_140_120).trans ?_
        refine (E_il c_140_121 rfl).trans ?_
        refine (E_ias (v := u0.1) c_140_123 sh_72 rfl).trans (ax_gd ?_)
        refine (E_inc (v := (1 : Int32)) (L' := [.ref 66, .int (0 : Int32), .int x2, .int x3, .int (x4 + (1 : Int32)), .int u0.1]) c_140_124 rfl (by decide) rfl).trans ?_
        refine (E_goto (q := 64) c_140_127 rfl).trans ?_
        rfl
      · refine (E_ic (v := (1 : Int32)) c_140_104 (by decide)).trans ?_
        refine (E_goto (q := 109) c_140_105 rfl).trans ?_
        refine (E_is (L' := [.ref 66, .int (1 : Int32), .int x2, .int x3, .int x4, .int u0.1]) c_140_109 (Nat.le_of_ble_eq_true rfl) rfl).trans ?_
        refine (E_al c_140_110 rfl (by decide)).trans ?_
        refine (E_gfr (k := 2) (r := 72) c_140_111 sh_66 rfl rfl rfl).trans ?_
        refine (E_il c_140_114 rfl).trans ?_
        refine (E_ic (v := (11 : Int32)) c_140_116 (by decide)).trans ?_
        refine (E_imul c_140_118).trans ?_
        refine (E_il c_140_119 rfl).trans ?_
        refine (E_iadd c_140_120).trans ?_
        refine (E_il c_140_121 rfl).trans ?_
        refine (E_ias (v := u0.1) c_140_123 sh_72 rfl).trans (ax_gd ?_)
        refine (E_inc (v := (1 : Int32)) (L' := [.ref 66, .int (1 : Int32), .int x2, .int x3, .int (x4 + (1 : Int32)), .int u0.1]) c_140_124 rfl (by decide) rfl).trans ?_
        refine (E_goto (q := 64) c_140_127 rfl).trans ?_
        rfl
    · refine (E_ic (v := (1 : Int32)) c_140_104 (by decide)).trans ?_
      refine (E_goto (q := 109) c_140_105 rfl).trans ?_
      refine (E_is (L' := [.ref 66, .int (1 : Int32), .int x2, .int x3, .int x4, .int u0.1]) c_140_109 (Nat.le_of_ble_eq_true rfl) rfl).trans ?_
      refine (E_al c_140_110 rfl (by decide)).trans ?_
      refine (E_gfr (k := 2) (r := 72) c_140_111 sh_66 rfl rfl rfl).trans ?_
      refine (E_il c_140_114 rfl).trans ?_
      refine (E_ic (v := (11 : Int32)) c_140_116 (by decide)).trans ?_
      refine (E_imul c_140_118).trans ?_
      refine (E_il c_140_119 rfl).trans ?_
      refine (E_iadd c_140_120).trans ?_
      refine (E_il c_140_121 rfl).trans ?_
      refine (E_ias (v := u0.1) c_140_123 sh_72 rfl).trans (ax_gd ?_)
      refine (E_inc (v := (1 : Int32)) (L' := [.ref 66, .int (1 : Int32), .int x2, .int x3, .int (x4 + (1 : Int32)), .int u0.1]) c_140_124 rfl (by decide) rfl).trans ?_
      refine (E_goto (q := 64) c_140_127 rfl).trans ?_
      rfl
  · refine (E_inc (v := (1 : Int32)) (L' := [.ref 66, .int x1, .int (x2 + (1 : Int32)), .int x3, .int x4, w5]) c_140_130 rfl (by decide) rfl).trans ?_
    refine (E_goto (q := 33) c_140_133 rfl).trans ?_
    rfl
set_option maxHeartbeats 4000000 in
theorem u_144_66 (d : Nat) (σ : ax_S) : ev sO (d + 2) 144 0 [.ref 66, .null, .null, .null, .null] [] σ = ev sO (d + 2) 144 7 [.ref 66, .int (0 : Int32), .null, .null, .null] [] (sI σ 66 10 (0 : Int32)) := by
  refine (E_al c_144_0 rfl (by decide)).trans ?_
  refine (E_ic (v := (0 : Int32)) c_144_1 (by decide)).trans ?_
  refine (E_pfi (k := 10) c_144_2 sh_66 rfl rfl rfl).trans ?_
  refine (E_ic (v := (0 : Int32)) c_144_5 (by decide)).trans ?_
  refine (E_is (L' := [.ref 66, .int (0 : Int32), .null, .null, .null]) c_144_6 (Nat.le_of_ble_eq_true rfl) rfl).trans ?_
  rfl
set_option maxHeartbeats 4000000 in
theorem u_144_66p7 (d : Nat) (σ : ax_S) (x1 : Int32) (w2 : Value) (hw2 : w2.category = 1) (w3 : Value) (hw3 : w3.category = 1) (w4 : Value) (hw4 : w4.category = 1) : ev sO (d + 2) 144 7 [.ref 66, .int x1, w2, w3, w4] [] σ = if x1 < (11 : Int32) then (ev sO (d + 2) 144 20 [.ref 66, .int x1, .int (-1 : Int32), .int (0 : Int32), .int (0 : Int32)] [] σ) else (some (none, σ)) := by
  refine (E_il c_144_7 rfl).trans ?_
  refine (E_ic (v := (11 : Int32)) c_144_8 (by decide)).trans ?_
  refine (E_br_ge (q := 102) c_144_10 rfl).trans (ax_ite ?_ ?_)
  · refine (E_ic (v := (-1 : Int32)) c_144_13 (by decide)).trans ?_
    refine (E_is (L' := [.ref 66, .int x1, .int (-1 : Int32), w3, w4]) c_144_14 (Nat.le_of_ble_eq_true rfl) rfl).trans ?_
    refine (E_ic (v := (0 : Int32)) c_144_15 (by decide)).trans ?_
    refine (E_is (L' := [.ref 66, .int x1, .int (-1 : Int32), .int (0 : Int32), w4]) c_144_16 (Nat.le_of_ble_eq_true rfl) rfl).trans ?_
    refine (E_ic (v := (0 : Int32)) c_144_17 (by decide)).trans ?_
    refine (E_is (L' := [.ref 66, .int x1, .int (-1 : Int32), .int (0 : Int32), .int (0 : Int32)]) c_144_18 (Nat.le_of_ble_eq_true rfl) rfl).trans ?_
    rfl
  · exact E_rV c_144_102 mi_144
set_option maxHeartbeats 4000000 in
theorem u_144_66p20 (d : Nat) (σ : ax_S) (x1 : Int32) (x2 : Int32) (x3 : Int32) (x4 : Int32) : ev sO (d + 2) 144 20 [.ref 66, .int x1, .int x2, .int x3, .int x4] [] σ = if x4 < (σ.1 66 1) then ((cI sO (d + 1) 143 [.ref 67, .int x1, .int x4] σ).bind fun u0 => (cI sO (d + 1) 143 [.ref 67, .int x1, .int x4] u0.2).bind fun u1 => ev sO (d + 2) 144 20 [.ref 66, .int x1, .int (x2 &&& u0.1), .int (x3 ||| u1.1), .int (x4 + (1 : Int32))] [] u1.2) else (gd (0 ≤ x1.toInt ∧ x1.toInt < (11 : Nat)) (if x2 = 0 then (if x3 = 0 then (ev sO (d + 2) 144 7 [.ref 66, .int (x1 + (1 : Int32)), .int x2, .int x3, .int x4] [] (sI σ 79 x1.toNatClampNeg x2)) else (gd (0 ≤ ((sI σ 79 x1.toNatClampNeg x2).1 66 10).toInt ∧ ((sI σ 79 x1.toNatClampNeg x2).1 66 10).toInt < (11 : Nat)) (ax_lt (sI (sI (sI σ 79 x1.toNatClampNeg x2) 78 ((sI σ 79 x1.toNatClampNeg x2).1 66 10).toNatClampNeg x1) 66 10 (((sI (sI σ 79 x1.toNatClampNeg x2) 78 ((sI σ 79 x1.toNatClampNeg x2).1 66 10).toNatClampNeg x1).1 66 10) + (1 : Int32))) fun s2 => ev sO (d + 2) 144 7 [.ref 66, .int (x1 + (1 : Int32)), .int x2, .int x3, .int x4] [] s2))) else (ev sO (d + 2) 144 7 [.ref 66, .int (x1 + (1 : Int32)), .int x2, .int x3, .int x4] [] (sI σ 79 x1.toNatClampNeg x2)))) := by
  refine (E_il c_144_20 rfl).trans ?_
  refine (E_al c_144_22 rfl (by decide)).trans ?_
  refine (E_gfi (k := 1) c_144_23 sh_66 rfl rfl rfl (by decide)).trans ?_
  refine (E_br_ge (q := 61) c_144_26 rfl).trans (ax_ite ?_ ?_)
  · refine (E_il c_144_29 rfl).trans ?_
    refine (E_al c_144_30 rfl (by decide)).trans ?_
    refine (E_gfr (k := 0) (r := 67) c_144_31 sh_66 rfl rfl rfl).trans ?_
    refine (E_il c_144_34 rfl).trans ?_
    refine (E_il c_144_35 rfl).trans ?_
    refine (E_cIV c_144_37 mi_143 rfl rfl (sO_kl sh_67) (Nat.le_of_ble_eq_true rfl) (Nat.le_of_ble_eq_true rfl)).trans (ax_bnd fun u0 => ?_)
    refine (E_iand c_144_40).trans ?_
    refine (E_is (L' := [.ref 66, .int x1, .int (x2 &&& u0.1), .int x3, .int x4]) c_144_41 (Nat.le_of_ble_eq_true rfl) rfl).trans ?_
    refine (E_il c_144_42 rfl).trans ?_
    refine (E_al c_144_43 rfl (by decide)).trans ?_
    refine (E_gfr (k := 0) (r := 67) c_144_44 sh_66 rfl rfl rfl).trans ?_
    refine (E_il c_144_47 rfl).trans ?_
    refine (E_il c_144_48 rfl).trans ?_
    refine (E_cIV c_144_50 mi_143 rfl rfl (sO_kl sh_67) (Nat.le_of_ble_eq_true rfl) (Nat.le_of_ble_eq_true rfl)).trans (ax_bnd fun u1 => ?_)
    refine (E_ior c_144_53).trans ?_
    refine (E_is (L' := [.ref 66, .int x1, .int (x2 &&& u0.1), .int (x3 ||| u1.1), .int x4]) c_144_54 (Nat.le_of_ble_eq_true rfl) rfl).trans ?_
    refine (E_inc (v := (1 : Int32)) (L' := [.ref 66, .int x1, .int (x2 &&& u0.1), .int (x3 ||| u1.1), .int (x4 + (1 : Int32))]) c_144_55 rfl (by decide) rfl).trans ?_
    refine (E_goto (q := 20) c_144_58 rfl).trans ?_
    rfl
  · refine (E_al c_144_61 rfl (by decide)).trans ?_
    refine (E_gfr (k := 16) (r := 79) c_144_62 sh_66 rfl rfl rfl).trans ?_
    refine (E_il c_144_65 rfl).trans ?_
    refine (E_il c_144_66 rfl).trans ?_
    refine (E_ias (v := x2) c_144_67 sh_79 rfl).trans (ax_gd ?_)
    refine (E_il c_144_68 rfl).trans ?_
    refine (E_b0_ne (q := 96) c_144_69 rfl).trans (ax_ite ?_ ?_)
    · refine (E_il c_144_72 rfl).trans ?_
      refine (E_b0_eq (q := 96) c_144_73 rfl).trans (ax_ite ?_ ?_)
      · refine (E_inc (v := (1 : Int32)) (L' := [.ref 66, .int (x1 + (1 : Int32)), .int x2, .int x3, .int x4]) c_144_96 rfl (by decide) rfl).trans ?_
        refine (E_goto (q := 7) c_144_99 rfl).trans ?_
        rfl
      · refine (E_al c_144_76 rfl (by decide)).trans ?_
        refine (E_gfr (k := 9) (r := 78) c_144_77 sh_66 rfl rfl rfl).trans ?_
        refine (E_al c_144_80 rfl (by decide)).trans ?_
        refine (E_gfi (k := 10) c_144_81 sh_66 rfl rfl rfl (by decide)).trans ?_
        refine (E_il c_144_84 rfl).trans ?_
        refine (E_ias (v := x1) c_144_85 sh_78 rfl).trans (ax_gd ?_)
        refine (E_al c_144_86 rfl (by decide)).trans ?_
        refine (E_dup c_144_87 rfl).trans ?_
        refine (E_gfi (k := 10) c_144_88 sh_66 rfl rfl rfl (by decide)).trans ?_
        refine (E_ic (v := (1 : Int32)) c_144_91 (by decide)).trans ?_
        refine (E_iadd c_144_92).trans ?_
        refine (E_pfi (k := 10) c_144_93 sh_66 rfl rfl rfl).trans ?_
        refine ax_ltE (fun s2 => ?_)
        refine (E_inc (v := (1 : Int32)) (L' := [.ref 66, .int (x1 + (1 : Int32)), .int x2, .int x3, .int x4]) c_144_96 rfl (by decide) rfl).trans ?_
        refine (E_goto (q := 7) c_144_99 rfl).trans ?_
        rfl
    · refine (E_inc (v := (1 : Int32)) (L' := [.ref 66, .int (x1 + (1 : Int32)), .int x2, .int x3, .int x4]) c_144_96 rfl (by decide) rfl).trans ?_
      refine (E_goto (q := 7) c_144_99 rfl).trans ?_
      rfl
set_option maxHeartbeats 4000000 in
theorem u_145_66 (d : Nat) (σ : ax_S) (x1 : Int32) : ev sO (d + 2) 145 0 [.ref 66, .int x1, .null, .null, .null] [] σ = ev sO (d + 2) 145 17 [.ref 66, .int x1, .int x1, .int (1 : Int32), .null] [] (sI (sI σ 73 0 (-1000000 : Int32)) 66 8 (0 : Int32)) := by
  refine (E_il c_145_0 rfl).trans ?_
  refine (E_is (L' := [.ref 66, .int x1, .int x1, .null, .null]) c_145_1 (Nat.le_of_ble_eq_true rfl) rfl).trans ?_
  refine (E_al c_145_2 rfl (by decide)).trans ?_
  refine (E_gfr (k := 3) (r := 73) c_145_3 sh_66 rfl rfl rfl).trans ?_
  refine (E_ic (v := (0 : Int32)) c_145_6 (by decide)).trans ?_
  refine (E_ic (v := (-1000000 : Int32)) c_145_7 (by decide)).trans ?_
  refine (E_iask (k := 0) (v := (-1000000 : Int32)) c_145_9 sh_73 rfl (by decide) (by decide)).trans ?_
  refine (E_al c_145_10 rfl (by decide)).trans ?_
  refine (E_ic (v := (0 : Int32)) c_145_11 (by decide)).trans ?_
  refine (E_pfi (k := 8) c_145_12 sh_66 rfl rfl rfl).trans ?_
  refine (E_ic (v := (1 : Int32)) c_145_15 (by decide)).trans ?_
  refine (E_is (L' := [.ref 66, .int x1, .int x1, .int (1 : Int32), .null]) c_145_16 (Nat.le_of_ble_eq_true rfl) rfl).trans ?_
  rfl
set_option maxHeartbeats 4000000 in
theorem u_145_66p17 (d : Nat) (σ : ax_S) (w1 : Value) (hw1 : w1.category = 1) (x2 : Int32) (x3 : Int32) (w4 : Value) (hw4 : w4.category = 1) : ev sO (d + 2) 145 17 [.ref 66, w1, .int x2, .int x3, w4] [] σ = if x3 < (σ.1 66 1) then (if x3 < (6 : Int32) then (gd (¬ (((2 : Int32) * x3) - (1 : Int32)) = 0) ((cV sO (d + 1) 146 [.ref 66, .int x3, .int (x2 - x2 / (((2 : Int32) * x3) - (1 : Int32)) * (((2 : Int32) * x3) - (1 : Int32)))] σ).bind fun u0 => gd (¬ (((2 : Int32) * x3) - (1 : Int32)) = 0) (ev sO (d + 2) 145 17 [.ref 66, w1, .int (x2 / (((2 : Int32) * x3) - (1 : Int32))), .int (x3 + (1 : Int32)), .int (((2 : Int32) * x3) - (1 : Int32))] [] u0))) else (some (none, σ))) else (some (none, σ)) := by
  refine (E_il c_145_17 rfl).trans ?_
  refine (E_al c_145_18 rfl (by decide)).trans ?_
  refine (E_gfi (k := 1) c_145_19 sh_66 rfl rfl rfl (by decide)).trans ?_
  refine (E_br_ge (q := 58) c_145_22 rfl).trans (ax_ite ?_ ?_)
  · refine (E_il c_145_25 rfl).trans ?_
    refine (E_ic (v := (6 : Int32)) c_145_26 (by decide)).trans ?_
    refine (E_br_ge (q := 58) c_145_28 rfl).trans (ax_ite ?_ ?_)
    · refine (E_ic (v := (2 : Int32)) c_145_31 (by decide)).trans ?_
      refine (E_il c_145_32 rfl).trans ?_
      refine (E_imul c_145_33).trans ?_
      refine (E_ic (v := (1 : Int32)) c_145_34 (by decide)).trans ?_
      refine (E_isub c_145_35).trans ?_
      refine (E_is (L' := [.ref 66, w1, .int x2, .int x3, .int (((2 : Int32) * x3) - (1 : Int32))]) c_145_36 (Nat.le_of_ble_eq_true rfl) rfl).trans ?_
      refine (E_al c_145_38 rfl (by decide)).trans ?_
      refine (E_il c_145_39 rfl).trans ?_
      refine (E_il c_145_40 rfl).trans ?_
      refine (E_il c_145_41 rfl).trans ?_
      refine (E_iremg c_145_43).trans (ax_gd ?_)
      refine (E_cVV c_145_44 mi_146 rfl (sO_kl sh_66) (Nat.le_of_ble_eq_true rfl) (Nat.le_of_ble_eq_true rfl)).trans (ax_bnd fun u0 => ?_)
      refine (E_il c_145_47 rfl).trans ?_
      refine (E_il c_145_48 rfl).trans ?_
      refine (E_idivg c_145_50).trans (ax_gd ?_)
      refine (E_is (L' := [.ref 66, w1, .int (x2 / (((2 : Int32) * x3) - (1 : Int32))), .int x3, .int (((2 : Int32) * x3) - (1 : Int32))]) c_145_51 (Nat.le_of_ble_eq_true rfl) (by simp [ax_st1, ax_st2, ax_drp, hw1])).trans ?_
      refine (E_inc (v := (1 : Int32)) (L' := [.ref 66, w1, .int (x2 / (((2 : Int32) * x3) - (1 : Int32))), .int (x3 + (1 : Int32)), .int (((2 : Int32) * x3) - (1 : Int32))]) c_145_52 rfl (by decide) rfl).trans ?_
      refine (E_goto (q := 17) c_145_55 rfl).trans ?_
      rfl
    · exact E_rV c_145_58 mi_145
  · exact E_rV c_145_58 mi_145
set_option maxHeartbeats 4000000 in
theorem u_147_66 (d : Nat) (σ : ax_S) : ev sO d 147 0 [.ref 66, .null, .null, .null, .null, .null, .null] [] σ = ev sO d 147 7 [.ref 66, .int (0 : Int32), .null, .null, .null, .null, .null] [] (sI σ 66 11 (0 : Int32)) := by
  refine (E_al c_147_0 rfl (by decide)).trans ?_
  refine (E_ic (v := (0 : Int32)) c_147_1 (by decide)).trans ?_
  refine (E_pfi (k := 11) c_147_2 sh_66 rfl rfl rfl).trans ?_
  refine (E_ic (v := (0 : Int32)) c_147_5 (by decide)).trans ?_
  refine (E_is (L' := [.ref 66, .int (0 : Int32), .null, .null, .null, .null, .null]) c_147_6 (Nat.le_of_ble_eq_true rfl) rfl).trans ?_
  rfl
set_option maxHeartbeats 4000000 in
theorem u_147_66p7 (d : Nat) (σ : ax_S) (x1 : Int32) (w2 : Value) (hw2 : w2.category = 1) (w3 : Value) (hw3 : w3.category = 1) (w4 : Value) (hw4 : w4.category = 1) (w5 : Value) (hw5 : w5.category = 1) (w6 : Value) (hw6 : w6.category = 1) : ev sO d 147 7 [.ref 66, .int x1, w2, w3, w4, w5, w6] [] σ = if x1 < (σ.1 66 10) then (if (σ.1 66 12) < (σ.1 66 11) then (some (none, σ)) else (gd (0 ≤ x1.toInt ∧ x1.toInt < (11 : Nat)) (ev sO d 147 38 [.ref 66, .int x1, .int ((σ.1 78 x1.toNatClampNeg) * (11 : Int32)), .int (0 : Int32), w4, w5, w6] [] σ))) else (some (none, σ)) := by
  refine (E_il c_147_7 rfl).trans ?_
  refine (E_al c_147_8 rfl (by decide)).trans ?_
  refine (E_gfi (k := 10) c_147_9 sh_66 rfl rfl rfl (by decide)).trans ?_
  refine (E_br_ge (q := 147) c_147_12 rfl).trans (ax_ite ?_ ?_)
  · refine (E_al c_147_15 rfl (by decide)).trans ?_
    refine (E_gfi (k := 11) c_147_16 sh_66 rfl rfl rfl (by decide)).trans ?_
    refine (E_al c_147_19 rfl (by decide)).trans ?_
    refine (E_gfi (k := 12) c_147_20 sh_66 rfl rfl rfl (by decide)).trans ?_
    refine (E_br_gt (q := 147) c_147_23 rfl).trans (ax_ite ?_ ?_)
    · exact E_rV c_147_147 mi_147
    · refine (E_al c_147_26 rfl (by decide)).trans ?_
      refine (E_gfr (k := 9) (r := 78) c_147_27 sh_66 rfl rfl rfl).trans ?_
      refine (E_il c_147_30 rfl).trans ?_
      refine (E_ial c_147_31 sh_78).trans (ax_gd ?_)
      refine (E_ic (v := (11 : Int32)) c_147_32 (by decide)).trans ?_
      refine (E_imul c_147_34).trans ?_
      refine (E_is (L' := [.ref 66, .int x1, .int ((σ.1 78 x1.toNatClampNeg) * (11 : Int32)), w3, w4, w5, w6]) c_147_35 (Nat.le_of_ble_eq_true rfl) rfl).trans ?_
      refine (E_ic (v := (0 : Int32)) c_147_36 (by decide)).trans ?_
      refine (E_is (L' := [.ref 66, .int x1, .int ((σ.1 78 x1.toNatClampNeg) * (11 : Int32)), .int (0 : Int32), w4, w5, w6]) c_147_37 (Nat.le_of_ble_eq_true rfl) rfl).trans ?_
      rfl
  · exact E_rV c_147_147 mi_147
set_option maxHeartbeats 4000000 in
theorem u_147_66p38 (d : Nat) (σ : ax_S) (x1 : Int32) (x2 : Int32) (x3 : Int32) (w4 : Value) (hw4 : w4.category = 1) (w5 : Value) (hw5 : w5.category = 1) (w6 : Value) (hw6 : w6.category = 1) : ev sO d 147 38 [.ref 66, .int x1, .int x2, .int x3, w4, w5, w6] [] σ = if x3 < (σ.1 66 8) then (gd (0 ≤ x3.toInt ∧ x3.toInt < (6 : Nat)) (gd (0 ≤ (σ.1 77 x3.toNatClampNeg).toInt ∧ (σ.1 77 x3.toNatClampNeg).toInt < (11 : Nat)) (gd (0 ≤ (x2 + (σ.1 74 (σ.1 77 x3.toNatClampNeg).toNatClampNeg)).toInt ∧ (x2 + (σ.1 74 (σ.1 77 x3.toNatClampNeg).toNatClampNeg)).toInt < (121 : Nat)) (gd (0 ≤ (σ.1 77 x3.toNatClampNeg).toInt ∧ (σ.1 77 x3.toNatClampNeg).toInt < (11 : Nat)) (gd (0 ≤ (x2 + (σ.1 75 (σ.1 77 x3.toNatClampNeg).toNatClampNeg)).toInt ∧ (x2 + (σ.1 75 (σ.1 77 x3.toNatClampNeg).toNatClampNeg)).toInt < (121 : Nat)) (if ((σ.1 72 (x2 + (σ.1 74 (σ.1 77 x3.toNatClampNeg).toNatClampNeg)).toNatClampNeg) &&& (σ.1 72 (x2 + (σ.1 75 (σ.1 77 x3.toNatClampNeg).toNatClampNeg)).toNatClampNeg)) = 0 then (gd (0 ≤ (x2 + (σ.1 77 x3.toNatClampNeg)).toInt ∧ (x2 + (σ.1 77 x3.toNatClampNeg)).toInt < (121 : Nat)) (ax_lt (sI (sI σ 72 (x2 + (σ.1 77 x3.toNatClampNeg)).toNatClampNeg ((σ.1 72 (x2 + (σ.1 74 (σ.1 77 x3.toNatClampNeg).toNatClampNeg)).toNatClampNeg) ||| (σ.1 72 (x2 + (σ.1 75 (σ.1 77 x3.toNatClampNeg).toNatClampNeg)).toNatClampNeg))) 66 11 (((sI σ 72 (x2 + (σ.1 77 x3.toNatClampNeg)).toNatClampNeg ((σ.1 72 (x2 + (σ.1 74 (σ.1 77 x3.toNatClampNeg).toNatClampNeg)).toNatClampNeg) ||| (σ.1 72 (x2 + (σ.1 75 (σ.1 77 x3.toNatClampNeg).toNatClampNeg)).toNatClampNeg))).1 66 11) + (1 : Int32))) fun s0 => ev sO d 147 38 [.ref 66, .int x1, .int x2, .int (x3 + (1 : Int32)), .int (σ.1 77 x3.toNatClampNeg), .int (σ.1 72 (x2 + (σ.1 74 (σ.1 77 x3.toNatClampNeg).toNatClampNeg)).toNatClampNeg), .int (σ.1 72 (x2 + (σ.1 75 (σ.1 77 x3.toNatClampNeg).toNatClampNeg)).toNatClampNeg)] [] s0)) else (gd (0 ≤ (x2 + (σ.1 77 x3.toNatClampNeg)).toInt ∧ (x2 + (σ.1 77 x3.toNatClampNeg)).toInt < (121 : Nat)) (ev sO d 147 38 [.ref 66, .int x1, .int x2, .int (x3 + (1 : Int32)), .int (σ.1 77 x3.toNatClampNeg), .int (σ.1 72 (x2 + (σ.1 74 (σ.1 77 x3.toNatClampNeg).toNatClampNeg)).toNatClampNeg), .int (σ.1 72 (x2 + (σ.1 75 (σ.1 77 x3.toNatClampNeg).toNatClampNeg)).toNatClampNeg)] [] (sI σ 72 (x2 + (σ.1 77 x3.toNatClampNeg)).toNatClampNeg ((σ.1 72 (x2 + (σ.1 74 (σ.1 77 x3.toNatClampNeg).toNatClampNeg)).toNatClampNeg) &&& (σ.1 72 (x2 + (σ.1 75 (σ.1 77 x3.toNatClampNeg).toNatClampNeg)).toNatClampNeg))))))))))) else (ev sO d 147 7 [.ref 66, .int (x1 + (1 : Int32)), .int x2, .int x3, w4, w5, w6] [] σ) := by
  refine (E_il c_147_38 rfl).trans ?_
  refine (E_al c_147_39 rfl (by decide)).trans ?_
  refine (E_gfi (k := 8) c_147_40 sh_66 rfl rfl rfl (by decide)).trans ?_
  refine (E_br_ge (q := 141) c_147_43 rfl).trans (ax_ite ?_ ?_)
  · refine (E_al c_147_46 rfl (by decide)).trans ?_
    refine (E_gfr (k := 7) (r := 77) c_147_47 sh_66 rfl rfl rfl).trans ?_
    refine (E_il c_147_50 rfl).trans ?_
    refine (E_ial c_147_51 sh_77).trans (ax_gd ?_)
    refine (E_is (L' := [.ref 66, .int x1, .int x2, .int x3, .int (σ.1 77 x3.toNatClampNeg), w5, w6]) c_147_52 (Nat.le_of_ble_eq_true rfl) rfl).trans ?_
    refine (E_al c_147_54 rfl (by decide)).trans ?_
    refine (E_gfr (k := 2) (r := 72) c_147_55 sh_66 rfl rfl rfl).trans ?_
    refine (E_il c_147_58 rfl).trans ?_
    refine (E_al c_147_59 rfl (by decide)).trans ?_
    refine (E_gfr (k := 4) (r := 74) c_147_60 sh_66 rfl rfl rfl).trans ?_
    refine (E_il c_147_63 rfl).trans ?_
    refine (E_ial c_147_65 sh_74).trans (ax_gd ?_)
    refine (E_iadd c_147_66).trans ?_
    refine (E_ial c_147_67 sh_72).trans (ax_gd ?_)
    refine (E_is (L' := [.ref 66, .int x1, .int x2, .int x3, .int (σ.1 77 x3.toNatClampNeg), .int (σ.1 72 (x2 + (σ.1 74 (σ.1 77 x3.toNatClampNeg).toNatClampNeg)).toNatClampNeg), w6]) c_147_68 (Nat.le_of_ble_eq_true rfl) rfl).trans ?_
    refine (E_al c_147_70 rfl (by decide)).trans ?_
    refine (E_gfr (k := 2) (r := 72) c_147_71 sh_66 rfl rfl rfl).trans ?_
    refine (E_il c_147_74 rfl).trans ?_
    refine (E_al c_147_75 rfl (by decide)).trans ?_
    refine (E_gfr (k := 5) (r := 75) c_147_76 sh_66 rfl rfl rfl).trans ?_
    refine (E_il c_147_79 rfl).trans ?_
    refine (E_ial c_147_81 sh_75).trans (ax_gd ?_)
    refine (E_iadd c_147_82).trans ?_
    refine (E_ial c_147_83 sh_72).trans (ax_gd ?_)
    refine (E_is (L' := [.ref 66, .int x1, .int x2, .int x3, .int (σ.1 77 x3.toNatClampNeg), .int (σ.1 72 (x2 + (σ.1 74 (σ.1 77 x3.toNatClampNeg).toNatClampNeg)).toNatClampNeg), .int (σ.1 72 (x2 + (σ.1 75 (σ.1 77 x3.toNatClampNeg).toNatClampNeg)).toNatClampNeg)]) c_147_84 (Nat.le_of_ble_eq_true rfl) rfl).trans ?_
    refine (E_il c_147_86 rfl).trans ?_
    refine (E_il c_147_88 rfl).trans ?_
    refine (E_iand c_147_90).trans ?_
    refine (E_b0_eq (q := 111) c_147_91 rfl).trans (ax_ite ?_ ?_)
    · refine (E_al c_147_111 rfl (by decide)).trans ?_
      refine (E_gfr (k := 2) (r := 72) c_147_112 sh_66 rfl rfl rfl).trans ?_
      refine (E_il c_147_115 rfl).trans ?_
      refine (E_il c_147_116 rfl).trans ?_
      refine (E_iadd c_147_118).trans ?_
      refine (E_il c_147_119 rfl).trans ?_
      refine (E_il c_147_121 rfl).trans ?_
      refine (E_ior c_147_123).trans ?_
      refine (E_ias (v := ((σ.1 72 (x2 + (σ.1 74 (σ.1 77 x3.toNatClampNeg).toNatClampNeg)).toNatClampNeg) ||| (σ.1 72 (x2 + (σ.1 75 (σ.1 77 x3.toNatClampNeg).toNatClampNeg)).toNatClampNeg))) c_147_124 sh_72 rfl).trans (ax_gd ?_)
      refine (E_al c_147_125 rfl (by decide)).trans ?_
      refine (E_dup c_147_126 rfl).trans ?_
      refine (E_gfi (k := 11) c_147_127 sh_66 rfl rfl rfl (by decide)).trans ?_
      refine (E_ic (v := (1 : Int32)) c_147_130 (by decide)).trans ?_
      refine (E_iadd c_147_131).trans ?_
      refine (E_pfi (k := 11) c_147_132 sh_66 rfl rfl rfl).trans ?_
      refine ax_ltE (fun s0 => ?_)
      refine (E_inc (v := (1 : Int32)) (L' := [.ref 66, .int x1, .int x2, .int (x3 + (1 : Int32)), .int (σ.1 77 x3.toNatClampNeg), .int (σ.1 72 (x2 + (σ.1 74 (σ.1 77 x3.toNatClampNeg).toNatClampNeg)).toNatClampNeg), .int (σ.1 72 (x2 + (σ.1 75 (σ.1 77 x3.toNatClampNeg).toNatClampNeg)).toNatClampNeg)]) c_147_135 rfl (by decide) rfl).trans ?_
      refine (E_goto (q := 38) c_147_138 rfl).trans ?_
      rfl
    · refine (E_al c_147_94 rfl (by decide)).trans ?_
      refine (E_gfr (k := 2) (r := 72) c_147_95 sh_66 rfl rfl rfl).trans ?_
      refine (E_il c_147_98 rfl).trans ?_
      refine (E_il c_147_99 rfl).trans ?_
      refine (E_iadd c_147_101).trans ?_
      refine (E_il c_147_102 rfl).trans ?_
      refine (E_il c_147_104 rfl).trans ?_
      refine (E_iand c_147_106).trans ?_
      refine (E_ias (v := ((σ.1 72 (x2 + (σ.1 74 (σ.1 77 x3.toNatClampNeg).toNatClampNeg)).toNatClampNeg) &&& (σ.1 72 (x2 + (σ.1 75 (σ.1 77 x3.toNatClampNeg).toNatClampNeg)).toNatClampNeg))) c_147_107 sh_72 rfl).trans (ax_gd ?_)
      refine (E_goto (q := 135) c_147_108 rfl).trans ?_
      refine (E_inc (v := (1 : Int32)) (L' := [.ref 66, .int x1, .int x2, .int (x3 + (1 : Int32)), .int (σ.1 77 x3.toNatClampNeg), .int (σ.1 72 (x2 + (σ.1 74 (σ.1 77 x3.toNatClampNeg).toNatClampNeg)).toNatClampNeg), .int (σ.1 72 (x2 + (σ.1 75 (σ.1 77 x3.toNatClampNeg).toNatClampNeg)).toNatClampNeg)]) c_147_135 rfl (by decide) rfl).trans ?_
      refine (E_goto (q := 38) c_147_138 rfl).trans ?_
      rfl
  · refine (E_inc (v := (1 : Int32)) (L' := [.ref 66, .int (x1 + (1 : Int32)), .int x2, .int x3, w4, w5, w6]) c_147_141 rfl (by decide) rfl).trans ?_
    refine (E_goto (q := 7) c_147_144 rfl).trans ?_
    rfl
set_option maxHeartbeats 4000000 in
theorem u_148_66 (d : Nat) (σ : ax_S) : ev sO (d + 1) 148 0 [.ref 66, .null, .null, .null, .null] [] σ = if (σ.1 66 12) < (σ.1 66 11) then (some (none, σ)) else (if (σ.1 66 8) < (1 : Int32) then (some (none, σ)) else (if (σ.1 66 11) < (σ.1 66 12) then (ax_lt (sI (sJ (sI (sI σ 66 12 (σ.1 66 11)) 66 13 (0 : Int32)) (-1 : Int64)) 66 13 (((sJ (sI (sI σ 66 12 (σ.1 66 11)) 66 13 (0 : Int32)) (-1 : Int64)).1 66 13) + (1 : Int32))) fun s0 => (cL sO d 149 [.ref 66] s0).bind fun u1 => ev sO (d + 1) 148 86 [.ref 66, .int (1 : Int32), .int (0 : Int32), .null, .null] [] (sJ u1.2 (s0.2 &&& u1.1))) else ((cL sO d 149 [.ref 66] (sI σ 66 13 ((σ.1 66 13) + (1 : Int32)))).bind fun u2 => ev sO (d + 1) 148 86 [.ref 66, .int (0 : Int32), .int (0 : Int32), .null, .null] [] (sJ u2.2 (((sI σ 66 13 ((σ.1 66 13) + (1 : Int32))).2) &&& u2.1))))) := by
  refine (E_al c_148_0 rfl (by decide)).trans ?_
  refine (E_gfi (k := 11) c_148_1 sh_66 rfl rfl rfl (by decide)).trans ?_
  refine (E_al c_148_4 rfl (by decide)).trans ?_
  refine (E_gfi (k := 12) c_148_5 sh_66 rfl rfl rfl (by decide)).trans ?_
  refine (E_br_gt (q := 19) c_148_8 rfl).trans (ax_ite ?_ ?_)
  · exact E_rV c_148_19 mi_148
  · refine (E_al c_148_11 rfl (by decide)).trans ?_
    refine (E_gfi (k := 8) c_148_12 sh_66 rfl rfl rfl (by decide)).trans ?_
    refine (E_ic (v := (1 : Int32)) c_148_15 (by decide)).trans ?_
    refine (E_br_ge (q := 20) c_148_16 rfl).trans (ax_ite ?_ ?_)
    · exact E_rV c_148_19 mi_148
    · refine (E_al c_148_20 rfl (by decide)).trans ?_
      refine (E_gfi (k := 11) c_148_21 sh_66 rfl rfl rfl (by decide)).trans ?_
      refine (E_al c_148_24 rfl (by decide)).trans ?_
      refine (E_gfi (k := 12) c_148_25 sh_66 rfl rfl rfl (by decide)).trans ?_
      refine (E_br_ge (q := 35) c_148_28 rfl).trans (ax_ite ?_ ?_)
      · refine (E_ic (v := (1 : Int32)) c_148_31 (by decide)).trans ?_
        refine (E_goto (q := 36) c_148_32 rfl).trans ?_
        refine (E_is (L' := [.ref 66, .int (1 : Int32), .null, .null, .null]) c_148_36 (Nat.le_of_ble_eq_true rfl) rfl).trans ?_
        refine (E_il c_148_37 rfl).trans ?_
        refine (E_b0_eq (q := 61) c_148_38 rfl).trans ?_
        refine (if_neg (by decide)).trans ?_
        refine (E_al c_148_41 rfl (by decide)).trans ?_
        refine (E_al c_148_42 rfl (by decide)).trans ?_
        refine (E_gfi (k := 11) c_148_43 sh_66 rfl rfl rfl (by decide)).trans ?_
        refine (E_pfi (k := 12) c_148_46 sh_66 rfl rfl rfl).trans ?_
        refine (E_al c_148_49 rfl (by decide)).trans ?_
        refine (E_ic (v := (0 : Int32)) c_148_50 (by decide)).trans ?_
        refine (E_pfi (k := 13) c_148_51 sh_66 rfl rfl rfl).trans ?_
        refine (E_al c_148_54 rfl (by decide)).trans ?_
        refine (E_l2 (v := (-1 : Int64)) c_148_55 (by decide)).trans ?_
        refine (E_pfl (k := 15) c_148_58 sh_66 rfl rfl rfl).trans ?_
        refine (E_al c_148_61 rfl (by decide)).trans ?_
        refine (E_dup c_148_62 rfl).trans ?_
        refine (E_gfi (k := 13) c_148_63 sh_66 rfl rfl rfl (by decide)).trans ?_
        refine (E_ic (v := (1 : Int32)) c_148_66 (by decide)).trans ?_
        refine (E_iadd c_148_67).trans ?_
        refine (E_pfi (k := 13) c_148_68 sh_66 rfl rfl rfl).trans ?_
        refine ax_ltE (fun s0 => ?_)
        refine (E_al c_148_71 rfl (by decide)).trans ?_
        refine (E_dup c_148_72 rfl).trans ?_
        refine (E_gfl (k := 15) c_148_73 sh_66 rfl rfl rfl).trans ?_
        refine (E_al c_148_76 rfl (by decide)).trans ?_
        refine (E_cLV c_148_77 mi_149 rfl (sO_kl sh_66) (Nat.le_of_ble_eq_true rfl) (Nat.le_of_ble_eq_true rfl)).trans (ax_bnd fun u1 => ?_)
        refine (E_land c_148_80).trans ?_
        refine (E_pfl (k := 15) c_148_81 sh_66 rfl rfl rfl).trans ?_
        refine (E_ic (v := (0 : Int32)) c_148_84 (by decide)).trans ?_
        refine (E_is (L' := [.ref 66, .int (1 : Int32), .int (0 : Int32), .null, .null]) c_148_85 (Nat.le_of_ble_eq_true rfl) rfl).trans ?_
        rfl
      · refine (E_ic (v := (0 : Int32)) c_148_35 (by decide)).trans ?_
        refine (E_is (L' := [.ref 66, .int (0 : Int32), .null, .null, .null]) c_148_36 (Nat.le_of_ble_eq_true rfl) rfl).trans ?_
        refine (E_il c_148_37 rfl).trans ?_
        refine (E_b0_eq (q := 61) c_148_38 rfl).trans ?_
        refine (if_pos (by decide)).trans ?_
        refine (E_al c_148_61 rfl (by decide)).trans ?_
        refine (E_dup c_148_62 rfl).trans ?_
        refine (E_gfi (k := 13) c_148_63 sh_66 rfl rfl rfl (by decide)).trans ?_
        refine (E_ic (v := (1 : Int32)) c_148_66 (by decide)).trans ?_
        refine (E_iadd c_148_67).trans ?_
        refine (E_pfi (k := 13) c_148_68 sh_66 rfl rfl rfl).trans ?_
        refine (E_al c_148_71 rfl (by decide)).trans ?_
        refine (E_dup c_148_72 rfl).trans ?_
        refine (E_gfl (k := 15) c_148_73 sh_66 rfl rfl rfl).trans ?_
        refine (E_al c_148_76 rfl (by decide)).trans ?_
        refine (E_cLV c_148_77 mi_149 rfl (sO_kl sh_66) (Nat.le_of_ble_eq_true rfl) (Nat.le_of_ble_eq_true rfl)).trans (ax_bnd fun u2 => ?_)
        refine (E_land c_148_80).trans ?_
        refine (E_pfl (k := 15) c_148_81 sh_66 rfl rfl rfl).trans ?_
        refine (E_ic (v := (0 : Int32)) c_148_84 (by decide)).trans ?_
        refine (E_is (L' := [.ref 66, .int (0 : Int32), .int (0 : Int32), .null, .null]) c_148_85 (Nat.le_of_ble_eq_true rfl) rfl).trans ?_
        rfl
set_option maxHeartbeats 4000000 in
theorem u_148_66p86 (d : Nat) (σ : ax_S) (x1 : Int32) (x2 : Int32) (w3 : Value) (hw3 : w3.category = 1) (w4 : Value) (hw4 : w4.category = 1) : ev sO (d + 1) 148 86 [.ref 66, .int x1, .int x2, w3, w4] [] σ = if x2 < (σ.1 66 10) then (gd (0 ≤ x2.toInt ∧ x2.toInt < (11 : Nat)) (gd (0 ≤ ((σ.1 66 8) - (1 : Int32)).toInt ∧ ((σ.1 66 8) - (1 : Int32)).toInt < (6 : Nat)) (gd (0 ≤ (((σ.1 78 x2.toNatClampNeg) * (11 : Int32)) + (σ.1 77 ((σ.1 66 8) - (1 : Int32)).toNatClampNeg)).toInt ∧ (((σ.1 78 x2.toNatClampNeg) * (11 : Int32)) + (σ.1 77 ((σ.1 66 8) - (1 : Int32)).toNatClampNeg)).toInt < (121 : Nat)) (if x1 = 0 then (gd (0 ≤ (σ.1 78 x2.toNatClampNeg).toInt ∧ (σ.1 78 x2.toNatClampNeg).toInt < (11 : Nat)) (gd (0 ≤ (σ.1 78 x2.toNatClampNeg).toInt ∧ (σ.1 78 x2.toNatClampNeg).toInt < (11 : Nat)) (ev sO (d + 1) 148 86 [.ref 66, .int x1, .int (x2 + (1 : Int32)), .int (σ.1 78 x2.toNatClampNeg), .int (σ.1 72 (((σ.1 78 x2.toNatClampNeg) * (11 : Int32)) + (σ.1 77 ((σ.1 66 8) - (1 : Int32)).toNatClampNeg)).toNatClampNeg)] [] (sI σ 79 (σ.1 78 x2.toNatClampNeg).toNatClampNeg ((σ.1 79 (σ.1 78 x2.toNatClampNeg).toNatClampNeg) ||| (σ.1 72 (((σ.1 78 x2.toNatClampNeg) * (11 : Int32)) + (σ.1 77 ((σ.1 66 8) - (1 : Int32)).toNatClampNeg)).toNatClampNeg)))))) else (gd (0 ≤ (σ.1 78 x2.toNatClampNeg).toInt ∧ (σ.1 78 x2.toNatClampNeg).toInt < (11 : Nat)) (ev sO (d + 1) 148 86 [.ref 66, .int x1, .int (x2 + (1 : Int32)), .int (σ.1 78 x2.toNatClampNeg), .int (σ.1 72 (((σ.1 78 x2.toNatClampNeg) * (11 : Int32)) + (σ.1 77 ((σ.1 66 8) - (1 : Int32)).toNatClampNeg)).toNatClampNeg)] [] (sI σ 79 (σ.1 78 x2.toNatClampNeg).toNatClampNeg (σ.1 72 (((σ.1 78 x2.toNatClampNeg) * (11 : Int32)) + (σ.1 77 ((σ.1 66 8) - (1 : Int32)).toNatClampNeg)).toNatClampNeg)))))))) else (some (none, σ)) := by
  refine (E_il c_148_86 rfl).trans ?_
  refine (E_al c_148_87 rfl (by decide)).trans ?_
  refine (E_gfi (k := 10) c_148_88 sh_66 rfl rfl rfl (by decide)).trans ?_
  refine (E_br_ge (q := 154) c_148_91 rfl).trans (ax_ite ?_ ?_)
  · refine (E_al c_148_94 rfl (by decide)).trans ?_
    refine (E_gfr (k := 9) (r := 78) c_148_95 sh_66 rfl rfl rfl).trans ?_
    refine (E_il c_148_98 rfl).trans ?_
    refine (E_ial c_148_99 sh_78).trans (ax_gd ?_)
    refine (E_is (L' := [.ref 66, .int x1, .int x2, .int (σ.1 78 x2.toNatClampNeg), w4]) c_148_100 (Nat.le_of_ble_eq_true rfl) rfl).trans ?_
    refine (E_al c_148_101 rfl (by decide)).trans ?_
    refine (E_gfr (k := 2) (r := 72) c_148_102 sh_66 rfl rfl rfl).trans ?_
    refine (E_il c_148_105 rfl).trans ?_
    refine (E_ic (v := (11 : Int32)) c_148_106 (by decide)).trans ?_
    refine (E_imul c_148_108).trans ?_
    refine (E_al c_148_109 rfl (by decide)).trans ?_
    refine (E_gfr (k := 7) (r := 77) c_148_110 sh_66 rfl rfl rfl).trans ?_
    refine (E_al c_148_113 rfl (by decide)).trans ?_
    refine (E_gfi (k := 8) c_148_114 sh_66 rfl rfl rfl (by decide)).trans ?_
    refine (E_ic (v := (1 : Int32)) c_148_117 (by decide)).trans ?_
    refine (E_isub c_148_118).trans ?_
    refine (E_ial c_148_119 sh_77).trans (ax_gd ?_)
    refine (E_iadd c_148_120).trans ?_
    refine (E_ial c_148_121 sh_72).trans (ax_gd ?_)
    refine (E_is (L' := [.ref 66, .int x1, .int x2, .int (σ.1 78 x2.toNatClampNeg), .int (σ.1 72 (((σ.1 78 x2.toNatClampNeg) * (11 : Int32)) + (σ.1 77 ((σ.1 66 8) - (1 : Int32)).toNatClampNeg)).toNatClampNeg)]) c_148_122 (Nat.le_of_ble_eq_true rfl) rfl).trans ?_
    refine (E_al c_148_124 rfl (by decide)).trans ?_
    refine (E_gfr (k := 16) (r := 79) c_148_125 sh_66 rfl rfl rfl).trans ?_
    refine (E_il c_148_128 rfl).trans ?_
    refine (E_il c_148_129 rfl).trans ?_
    refine (E_b0_eq (q := 138) c_148_130 rfl).trans (ax_ite ?_ ?_)
    · refine (E_al c_148_138 rfl (by decide)).trans ?_
      refine (E_gfr (k := 16) (r := 79) c_148_139 sh_66 rfl rfl rfl).trans ?_
      refine (E_il c_148_142 rfl).trans ?_
      refine (E_ial c_148_143 sh_79).trans (ax_gd ?_)
      refine (E_il c_148_144 rfl).trans ?_
      refine (E_ior c_148_146).trans ?_
      refine (E_ias (v := ((σ.1 79 (σ.1 78 x2.toNatClampNeg).toNatClampNeg) ||| (σ.1 72 (((σ.1 78 x2.toNatClampNeg) * (11 : Int32)) + (σ.1 77 ((σ.1 66 8) - (1 : Int32)).toNatClampNeg)).toNatClampNeg))) c_148_147 sh_79 rfl).trans (ax_gd ?_)
      refine (E_inc (v := (1 : Int32)) (L' := [.ref 66, .int x1, .int (x2 + (1 : Int32)), .int (σ.1 78 x2.toNatClampNeg), .int (σ.1 72 (((σ.1 78 x2.toNatClampNeg) * (11 : Int32)) + (σ.1 77 ((σ.1 66 8) - (1 : Int32)).toNatClampNeg)).toNatClampNeg)]) c_148_148 rfl (by decide) rfl).trans ?_
      refine (E_goto (q := 86) c_148_151 rfl).trans ?_
      rfl
    · refine (E_il c_148_133 rfl).trans ?_
      refine (E_goto (q := 147) c_148_135 rfl).trans ?_
      refine (E_ias (v := (σ.1 72 (((σ.1 78 x2.toNatClampNeg) * (11 : Int32)) + (σ.1 77 ((σ.1 66 8) - (1 : Int32)).toNatClampNeg)).toNatClampNeg)) c_148_147 sh_79 rfl).trans (ax_gd ?_)
      refine (E_inc (v := (1 : Int32)) (L' := [.ref 66, .int x1, .int (x2 + (1 : Int32)), .int (σ.1 78 x2.toNatClampNeg), .int (σ.1 72 (((σ.1 78 x2.toNatClampNeg) * (11 : Int32)) + (σ.1 77 ((σ.1 66 8) - (1 : Int32)).toNatClampNeg)).toNatClampNeg)]) c_148_148 rfl (by decide) rfl).trans ?_
      refine (E_goto (q := 86) c_148_151 rfl).trans ?_
      rfl
  · exact E_rV c_148_154 mi_148
set_option maxHeartbeats 4000000 in
theorem u_263_82 (d : Nat) (σ : ax_S) : ev sO (d + 4) 263 0 [.ref 82, .null, .null] [] σ = ev sO (d + 4) 263 4 [.ref 82, .int (0 : Int32), .int (0 : Int32)] [] σ := by
  refine (E_ic (v := (0 : Int32)) c_263_0 (by decide)).trans ?_
  refine (E_is (L' := [.ref 82, .int (0 : Int32), .null]) c_263_1 (Nat.le_of_ble_eq_true rfl) rfl).trans ?_
  refine (E_ic (v := (0 : Int32)) c_263_2 (by decide)).trans ?_
  refine (E_is (L' := [.ref 82, .int (0 : Int32), .int (0 : Int32)]) c_263_3 (Nat.le_of_ble_eq_true rfl) rfl).trans ?_
  rfl
set_option maxHeartbeats 4000000 in
theorem u_263_82p4 (d : Nat) (σ : ax_S) (x1 : Int32) (x2 : Int32) : ev sO (d + 4) 263 4 [.ref 82, .int x1, .int x2] [] σ = if x2 < (11 : Int32) then ((cI sO (d + 3) 264 [.ref 82, .int x2] σ).bind fun u0 => ev sO (d + 4) 263 4 [.ref 82, .int (x1 + u0.1), .int (x2 + (1 : Int32))] [] u0.2) else (some (some (.int x1), σ)) := by
  refine (E_il c_263_4 rfl).trans ?_
  refine (E_ic (v := (11 : Int32)) c_263_5 (by decide)).trans ?_
  refine (E_br_ge (q := 24) c_263_7 rfl).trans (ax_ite ?_ ?_)
  · refine (E_il c_263_10 rfl).trans ?_
    refine (E_al c_263_11 rfl (by decide)).trans ?_
    refine (E_il c_263_12 rfl).trans ?_
    refine (E_cIV c_263_13 mi_264 rfl rfl (sO_kl sh_82) (Nat.le_of_ble_eq_true rfl) (Nat.le_of_ble_eq_true rfl)).trans (ax_bnd fun u0 => ?_)
    refine (E_iadd c_263_16).trans ?_
    refine (E_is (L' := [.ref 82, .int (x1 + u0.1), .int x2]) c_263_17 (Nat.le_of_ble_eq_true rfl) rfl).trans ?_
    refine (E_inc (v := (1 : Int32)) (L' := [.ref 82, .int (x1 + u0.1), .int (x2 + (1 : Int32))]) c_263_18 rfl (by decide) rfl).trans ?_
    refine (E_goto (q := 4) c_263_21 rfl).trans ?_
    rfl
  · refine (E_il c_263_24 rfl).trans ?_
    exact E_rI c_263_25 mi_263
set_option maxHeartbeats 4000000 in
theorem u_155_67 (d : Nat) (σ : ax_S) (x1 : Int32) : ev sO d 155 0 [.ref 67, .int x1, .null, .null] [] σ = ev sO d 155 4 [.ref 67, .int x1, .int (0 : Int32), .int (0 : Int32)] [] σ := by
  refine (E_ic (v := (0 : Int32)) c_155_0 (by decide)).trans ?_
  refine (E_is (L' := [.ref 67, .int x1, .int (0 : Int32), .null]) c_155_1 (Nat.le_of_ble_eq_true rfl) rfl).trans ?_
  refine (E_ic (v := (0 : Int32)) c_155_2 (by decide)).trans ?_
  refine (E_is (L' := [.ref 67, .int x1, .int (0 : Int32), .int (0 : Int32)]) c_155_3 (Nat.le_of_ble_eq_true rfl) rfl).trans ?_
  rfl
set_option maxHeartbeats 4000000 in
theorem u_155_67p4 (d : Nat) (σ : ax_S) (x1 : Int32) (x2 : Int32) (x3 : Int32) : ev sO d 155 4 [.ref 67, .int x1, .int x2, .int x3] [] σ = if x3 < (σ.1 67 0) then (if ((x1 >>> (x3 &&& 31)) &&& (1 : Int32)) = 0 then (ev sO d 155 4 [.ref 67, .int x1, .int x2, .int (x3 + (1 : Int32))] [] σ) else (gd (0 ≤ x3.toInt ∧ x3.toInt < (6 : Nat)) (ev sO d 155 4 [.ref 67, .int x1, .int (x2 ||| ((1 : Int32) <<< ((σ.1 68 x3.toNatClampNeg) &&& 31))), .int (x3 + (1 : Int32))] [] σ))) else (some (some (.int x2), σ)) := by
  refine (E_il c_155_4 rfl).trans ?_
  refine (E_al c_155_5 rfl (by decide)).trans ?_
  refine (E_gfi (k := 0) c_155_6 sh_67 rfl rfl rfl (by decide)).trans ?_
  refine (E_br_ge (q := 37) c_155_9 rfl).trans (ax_ite ?_ ?_)
  · refine (E_il c_155_12 rfl).trans ?_
    refine (E_il c_155_13 rfl).trans ?_
    refine (E_ishr c_155_14).trans ?_
    refine (E_ic (v := (1 : Int32)) c_155_15 (by decide)).trans ?_
    refine (E_iand c_155_16).trans ?_
    refine (E_b0_eq (q := 31) c_155_17 rfl).trans (ax_ite ?_ ?_)
    · refine (E_inc (v := (1 : Int32)) (L' := [.ref 67, .int x1, .int x2, .int (x3 + (1 : Int32))]) c_155_31 rfl (by decide) rfl).trans ?_
      refine (E_goto (q := 4) c_155_34 rfl).trans ?_
      rfl
    · refine (E_il c_155_20 rfl).trans ?_
      refine (E_ic (v := (1 : Int32)) c_155_21 (by decide)).trans ?_
      refine (E_al c_155_22 rfl (by decide)).trans ?_
      refine (E_gfr (k := 1) (r := 68) c_155_23 sh_67 rfl rfl rfl).trans ?_
      refine (E_il c_155_26 rfl).trans ?_
      refine (E_ial c_155_27 sh_68).trans (ax_gd ?_)
      refine (E_ishl c_155_28).trans ?_
      refine (E_ior c_155_29).trans ?_
      refine (E_is (L' := [.ref 67, .int x1, .int (x2 ||| ((1 : Int32) <<< ((σ.1 68 x3.toNatClampNeg) &&& 31))), .int x3]) c_155_30 (Nat.le_of_ble_eq_true rfl) rfl).trans ?_
      refine (E_inc (v := (1 : Int32)) (L' := [.ref 67, .int x1, .int (x2 ||| ((1 : Int32) <<< ((σ.1 68 x3.toNatClampNeg) &&& 31))), .int (x3 + (1 : Int32))]) c_155_31 rfl (by decide) rfl).trans ?_
      refine (E_goto (q := 4) c_155_34 rfl).trans ?_
      rfl
  · refine (E_il c_155_37 rfl).trans ?_
    exact E_rI c_155_38 mi_155
set_option maxHeartbeats 4000000 in
theorem u_262_82 (d : Nat) (σ : ax_S) (x1 : Int32) (x2 : Int32) (x3 : Int32) : ev sO d 262 0 [.ref 82, .int x1, .int x2, .int x3, .null] [] σ = gd (0 ≤ x3.toInt ∧ x3.toInt < (11 : Nat)) (gd (0 ≤ x2.toInt ∧ x2.toInt < (11 : Nat)) (gd (0 ≤ x2.toInt ∧ x2.toInt < (11 : Nat)) (gd (0 ≤ x2.toInt ∧ x2.toInt < (11 : Nat)) (gd (0 ≤ x3.toInt ∧ x3.toInt < (11 : Nat)) (gd (0 ≤ x1.toInt ∧ x1.toInt < (11 : Nat)) (if (σ.1 92 x3.toNatClampNeg) < 0 then (ax_lt (sI (sI (sI (sI (sI (sI σ 92 x2.toNatClampNeg (σ.1 92 x3.toNatClampNeg)) 93 x2.toNatClampNeg x3) 94 x2.toNatClampNeg x1) 92 x3.toNatClampNeg x2) 92 x1.toNatClampNeg x2) 82 29 x2) fun s0 => some (none, s0)) else (gd (0 ≤ (σ.1 92 x3.toNatClampNeg).toInt ∧ (σ.1 92 x3.toNatClampNeg).toInt < (11 : Nat)) (if ((sI (sI (sI (sI (sI σ 92 x2.toNatClampNeg (σ.1 92 x3.toNatClampNeg)) 93 x2.toNatClampNeg x3) 94 x2.toNatClampNeg x1) 92 x3.toNatClampNeg x2) 92 x1.toNatClampNeg x2).1 93 (σ.1 92 x3.toNatClampNeg).toNatClampNeg) = x3 then (gd (0 ≤ (σ.1 92 x3.toNatClampNeg).toInt ∧ (σ.1 92 x3.toNatClampNeg).toInt < (11 : Nat)) (some (none, (sI (sI (sI (sI (sI (sI σ 92 x2.toNatClampNeg (σ.1 92 x3.toNatClampNeg)) 93 x2.toNatClampNeg x3) 94 x2.toNatClampNeg x1) 92 x3.toNatClampNeg x2) 92 x1.toNatClampNeg x2) 93 (σ.1 92 x3.toNatClampNeg).toNatClampNeg x2)))) else (gd (0 ≤ (σ.1 92 x3.toNatClampNeg).toInt ∧ (σ.1 92 x3.toNatClampNeg).toInt < (11 : Nat)) (some (none, (sI (sI (sI (sI (sI (sI σ 92 x2.toNatClampNeg (σ.1 92 x3.toNatClampNeg)) 93 x2.toNatClampNeg x3) 94 x2.toNatClampNeg x1) 92 x3.toNatClampNeg x2) 92 x1.toNatClampNeg x2) 94 (σ.1 92 x3.toNatClampNeg).toNatClampNeg x2)))))))))))) := by
  refine (E_al c_262_0 rfl (by decide)).trans ?_
  refine (E_gfr (k := 26) (r := 92) c_262_1 sh_82 rfl rfl rfl).trans ?_
  refine (E_il c_262_4 rfl).trans ?_
  refine (E_ial c_262_5 sh_92).trans (ax_gd ?_)
  refine (E_is (L' := [.ref 82, .int x1, .int x2, .int x3, .int (σ.1 92 x3.toNatClampNeg)]) c_262_6 (Nat.le_of_ble_eq_true rfl) rfl).trans ?_
  refine (E_al c_262_8 rfl (by decide)).trans ?_
  refine (E_gfr (k := 26) (r := 92) c_262_9 sh_82 rfl rfl rfl).trans ?_
  refine (E_il c_262_12 rfl).trans ?_
  refine (E_il c_262_13 rfl).trans ?_
  refine (E_ias (v := (σ.1 92 x3.toNatClampNeg)) c_262_15 sh_92 rfl).trans (ax_gd ?_)
  refine (E_al c_262_16 rfl (by decide)).trans ?_
  refine (E_gfr (k := 27) (r := 93) c_262_17 sh_82 rfl rfl rfl).trans ?_
  refine (E_il c_262_20 rfl).trans ?_
  refine (E_il c_262_21 rfl).trans ?_
  refine (E_ias (v := x3) c_262_22 sh_93 rfl).trans (ax_gd ?_)
  refine (E_al c_262_23 rfl (by decide)).trans ?_
  refine (E_gfr (k := 28) (r := 94) c_262_24 sh_82 rfl rfl rfl).trans ?_
  refine (E_il c_262_27 rfl).trans ?_
  refine (E_il c_262_28 rfl).trans ?_
  refine (E_ias (v := x1) c_262_29 sh_94 rfl).trans (ax_gd ?_)
  refine (E_al c_262_30 rfl (by decide)).trans ?_
  refine (E_gfr (k := 26) (r := 92) c_262_31 sh_82 rfl rfl rfl).trans ?_
  refine (E_il c_262_34 rfl).trans ?_
  refine (E_il c_262_35 rfl).trans ?_
  refine (E_ias (v := x2) c_262_36 sh_92 rfl).trans (ax_gd ?_)
  refine (E_al c_262_37 rfl (by decide)).trans ?_
  refine (E_gfr (k := 26) (r := 92) c_262_38 sh_82 rfl rfl rfl).trans ?_
  refine (E_il c_262_41 rfl).trans ?_
  refine (E_il c_262_42 rfl).trans ?_
  refine (E_ias (v := x2) c_262_43 sh_92 rfl).trans (ax_gd ?_)
  refine (E_il c_262_44 rfl).trans ?_
  refine (E_b0_ge (q := 57) c_262_46 rfl).trans (ax_ite ?_ ?_)
  · refine (E_al c_262_49 rfl (by decide)).trans ?_
    refine (E_il c_262_50 rfl).trans ?_
    refine (E_pfi (k := 29) c_262_51 sh_82 rfl rfl rfl).trans ?_
    refine ax_ltE (fun s0 => ?_)
    refine (E_goto (q := 87) c_262_54 rfl).trans ?_
    exact E_rV c_262_87 mi_262
  · refine (E_al c_262_57 rfl (by decide)).trans ?_
    refine (E_gfr (k := 27) (r := 93) c_262_58 sh_82 rfl rfl rfl).trans ?_
    refine (E_il c_262_61 rfl).trans ?_
    refine (E_ial c_262_63 sh_93).trans (ax_gd ?_)
    refine (E_il c_262_64 rfl).trans ?_
    refine (E_br_ne (q := 79) c_262_65 rfl).trans (ax_ite ?_ ?_)
    · refine (E_al c_262_68 rfl (by decide)).trans ?_
      refine (E_gfr (k := 27) (r := 93) c_262_69 sh_82 rfl rfl rfl).trans ?_
      refine (E_il c_262_72 rfl).trans ?_
      refine (E_il c_262_74 rfl).trans ?_
      refine (E_ias (v := x2) c_262_75 sh_93 rfl).trans (ax_gd ?_)
      refine (E_goto (q := 87) c_262_76 rfl).trans ?_
      exact E_rV c_262_87 mi_262
    · refine (E_al c_262_79 rfl (by decide)).trans ?_
      refine (E_gfr (k := 28) (r := 94) c_262_80 sh_82 rfl rfl rfl).trans ?_
      refine (E_il c_262_83 rfl).trans ?_
      refine (E_il c_262_85 rfl).trans ?_
      refine (E_ias (v := x2) c_262_86 sh_94 rfl).trans (ax_gd ?_)
      exact E_rV c_262_87 mi_262
set_option maxHeartbeats 4000000 in
theorem u_158_67 (d : Nat) (σ : ax_S) (x1 : Int32) (x2 : Int32) : ev sO (d + 1) 158 0 [.ref 67, .int x1, .int x2] [] σ = (cI sO d 82 [.int x1] σ).bind fun u0 => if u0.1 = 0 then (some (some (.int (-1000000 : Int32)), u0.2)) else (if x2 < 0 then (some (some (.int (-1000000 : Int32)), u0.2)) else (gd (0 ≤ x1.toInt ∧ x1.toInt < (11 : Nat)) (if x2 < (u0.2.1 70 x1.toNatClampNeg) then (if x2 < (6 : Int32) then (gd (0 ≤ ((x1 * (6 : Int32)) + x2).toInt ∧ ((x1 * (6 : Int32)) + x2).toInt < (66 : Nat)) (some (some (.int (u0.2.1 69 ((x1 * (6 : Int32)) + x2).toNatClampNeg)), u0.2))) else (some (some (.int (-1000000 : Int32)), u0.2))) else (some (some (.int (-1000000 : Int32)), u0.2))))) := by
  refine (E_il c_158_0 rfl).trans ?_
  refine (E_cIS c_158_1 mi_82 rfl rfl (Nat.le_of_ble_eq_true rfl) (Nat.le_of_ble_eq_true rfl)).trans (ax_bnd fun u0 => ?_)
  refine (E_b0_eq (q := 41) c_158_4 rfl).trans (ax_ite ?_ ?_)
  · refine (E_ic (v := (-1000000 : Int32)) c_158_41 (by decide)).trans ?_
    exact E_rI c_158_43 mi_158
  · refine (E_il c_158_7 rfl).trans ?_
    refine (E_b0_lt (q := 41) c_158_8 rfl).trans (ax_ite ?_ ?_)
    · refine (E_ic (v := (-1000000 : Int32)) c_158_41 (by decide)).trans ?_
      exact E_rI c_158_43 mi_158
    · refine (E_il c_158_11 rfl).trans ?_
      refine (E_al c_158_12 rfl (by decide)).trans ?_
      refine (E_gfr (k := 3) (r := 70) c_158_13 sh_67 rfl rfl rfl).trans ?_
      refine (E_il c_158_16 rfl).trans ?_
      refine (E_ial c_158_17 sh_70).trans (ax_gd ?_)
      refine (E_br_ge (q := 41) c_158_18 rfl).trans (ax_ite ?_ ?_)
      · refine (E_il c_158_21 rfl).trans ?_
        refine (E_ic (v := (6 : Int32)) c_158_22 (by decide)).trans ?_
        refine (E_br_ge (q := 41) c_158_24 rfl).trans (ax_ite ?_ ?_)
        · refine (E_al c_158_27 rfl (by decide)).trans ?_
          refine (E_gfr (k := 2) (r := 69) c_158_28 sh_67 rfl rfl rfl).trans ?_
          refine (E_il c_158_31 rfl).trans ?_
          refine (E_ic (v := (6 : Int32)) c_158_32 (by decide)).trans ?_
          refine (E_imul c_158_34).trans ?_
          refine (E_il c_158_35 rfl).trans ?_
          refine (E_iadd c_158_36).trans ?_
          refine (E_ial c_158_37 sh_69).trans (ax_gd ?_)
          refine (E_goto (q := 43) c_158_38 rfl).trans ?_
          exact E_rI c_158_43 mi_158
        · refine (E_ic (v := (-1000000 : Int32)) c_158_41 (by decide)).trans ?_
          exact E_rI c_158_43 mi_158
      · refine (E_ic (v := (-1000000 : Int32)) c_158_41 (by decide)).trans ?_
        exact E_rI c_158_43 mi_158
set_option maxHeartbeats 4000000 in
theorem u_161_8 (d : Nat) (σ : ax_S) (x1 : Int32) : ev sO d 161 0 [.ref 8, .int x1, .null, .null] [] σ = ev sO d 161 5 [.ref 8, .int x1, .int (-1000000 : Int32), .int (0 : Int32)] [] σ := by
  refine (E_ic (v := (-1000000 : Int32)) c_161_0 (by decide)).trans ?_
  refine (E_is (L' := [.ref 8, .int x1, .int (-1000000 : Int32), .null]) c_161_2 (Nat.le_of_ble_eq_true rfl) rfl).trans ?_
  refine (E_ic (v := (0 : Int32)) c_161_3 (by decide)).trans ?_
  refine (E_is (L' := [.ref 8, .int x1, .int (-1000000 : Int32), .int (0 : Int32)]) c_161_4 (Nat.le_of_ble_eq_true rfl) rfl).trans ?_
  rfl
set_option maxHeartbeats 4000000 in
theorem u_161_8p5 (d : Nat) (σ : ax_S) (x1 : Int32) (x2 : Int32) (x3 : Int32) : ev sO d 161 5 [.ref 8, .int x1, .int x2, .int x3] [] σ = if x3 < (σ.1 8 6) then (if x3 < (8 : Int32) then (gd (0 ≤ x3.toInt ∧ x3.toInt < (8 : Nat)) (if (σ.1 13 x3.toNatClampNeg) = x1 then (gd (0 ≤ x3.toInt ∧ x3.toInt < (8 : Nat)) (ev sO d 161 5 [.ref 8, .int x1, .int (if x2 < (σ.1 14 x3.toNatClampNeg) then (σ.1 14 x3.toNatClampNeg) else x2), .int (x3 + (1 : Int32))] [] σ)) else (ev sO d 161 5 [.ref 8, .int x1, .int x2, .int (x3 + (1 : Int32))] [] σ))) else (some (some (.int x2), σ))) else (some (some (.int x2), σ)) := by
  refine (E_il c_161_5 rfl).trans ?_
  refine (E_al c_161_6 rfl (by decide)).trans ?_
  refine (E_gfi (k := 6) c_161_7 sh_8 rfl rfl rfl (by decide)).trans ?_
  refine (E_br_ge (q := 46) c_161_10 rfl).trans (ax_ite ?_ ?_)
  · refine (E_il c_161_13 rfl).trans ?_
    refine (E_ic (v := (8 : Int32)) c_161_14 (by decide)).trans ?_
    refine (E_br_ge (q := 46) c_161_16 rfl).trans (ax_ite ?_ ?_)
    · refine (E_al c_161_19 rfl (by decide)).trans ?_
      refine (E_gfr (k := 7) (r := 13) c_161_20 sh_8 rfl rfl rfl).trans ?_
      refine (E_il c_161_23 rfl).trans ?_
      refine (E_ial c_161_24 sh_13).trans (ax_gd ?_)
      refine (E_il c_161_25 rfl).trans ?_
      refine (E_br_ne (q := 40) c_161_26 rfl).trans (ax_ite ?_ ?_)
      · refine (E_il c_161_29 rfl).trans ?_
        refine (E_al c_161_30 rfl (by decide)).trans ?_
        refine (E_gfr (k := 8) (r := 14) c_161_31 sh_8 rfl rfl rfl).trans ?_
        refine (E_il c_161_34 rfl).trans ?_
        refine (E_ial c_161_35 sh_14).trans (ax_gd ?_)
        refine (E_max c_161_36 (Nat.le_of_ble_eq_true rfl)).trans ?_
        refine (E_is (L' := [.ref 8, .int x1, .int (if x2 < (σ.1 14 x3.toNatClampNeg) then (σ.1 14 x3.toNatClampNeg) else x2), .int x3]) c_161_39 (Nat.le_of_ble_eq_true rfl) rfl).trans ?_
        refine (E_inc (v := (1 : Int32)) (L' := [.ref 8, .int x1, .int (if x2 < (σ.1 14 x3.toNatClampNeg) then (σ.1 14 x3.toNatClampNeg) else x2), .int (x3 + (1 : Int32))]) c_161_40 rfl (by decide) rfl).trans ?_
        refine (E_goto (q := 5) c_161_43 rfl).trans ?_
        rfl
      · refine (E_inc (v := (1 : Int32)) (L' := [.ref 8, .int x1, .int x2, .int (x3 + (1 : Int32))]) c_161_40 rfl (by decide) rfl).trans ?_
        refine (E_goto (q := 5) c_161_43 rfl).trans ?_
        rfl
    · refine (E_il c_161_46 rfl).trans ?_
      exact E_rI c_161_47 mi_161
  · refine (E_il c_161_46 rfl).trans ?_
    exact E_rI c_161_47 mi_161
set_option maxHeartbeats 4000000 in
theorem u_163_8 (d : Nat) (σ : ax_S) (x1 : Int32) : ev sO d 163 0 [.ref 8, .int x1, .null, .null] [] σ = ev sO d 163 6 [.ref 8, .int x1, .int (2001 : Int32), .int (0 : Int32)] [] σ := by
  refine (E_ic (v := (2001 : Int32)) c_163_0 (by decide)).trans ?_
  refine (E_is (L' := [.ref 8, .int x1, .int (2001 : Int32), .null]) c_163_3 (Nat.le_of_ble_eq_true rfl) rfl).trans ?_
  refine (E_ic (v := (0 : Int32)) c_163_4 (by decide)).trans ?_
  refine (E_is (L' := [.ref 8, .int x1, .int (2001 : Int32), .int (0 : Int32)]) c_163_5 (Nat.le_of_ble_eq_true rfl) rfl).trans ?_
  rfl
set_option maxHeartbeats 4000000 in
theorem u_163_8p6 (d : Nat) (σ : ax_S) (x1 : Int32) (x2 : Int32) (x3 : Int32) : ev sO d 163 6 [.ref 8, .int x1, .int x2, .int x3] [] σ = if x3 < (σ.1 8 6) then (if x3 < (8 : Int32) then (gd (0 ≤ x3.toInt ∧ x3.toInt < (8 : Nat)) (if (σ.1 13 x3.toNatClampNeg) = x1 then (gd (0 ≤ x3.toInt ∧ x3.toInt < (8 : Nat)) (ev sO d 163 6 [.ref 8, .int x1, .int (if (σ.1 15 x3.toNatClampNeg) < x2 then (σ.1 15 x3.toNatClampNeg) else x2), .int (x3 + (1 : Int32))] [] σ)) else (ev sO d 163 6 [.ref 8, .int x1, .int x2, .int (x3 + (1 : Int32))] [] σ))) else (some (some (.int x2), σ))) else (some (some (.int x2), σ)) := by
  refine (E_il c_163_6 rfl).trans ?_
  refine (E_al c_163_7 rfl (by decide)).trans ?_
  refine (E_gfi (k := 6) c_163_8 sh_8 rfl rfl rfl (by decide)).trans ?_
  refine (E_br_ge (q := 47) c_163_11 rfl).trans (ax_ite ?_ ?_)
  · refine (E_il c_163_14 rfl).trans ?_
    refine (E_ic (v := (8 : Int32)) c_163_15 (by decide)).trans ?_
    refine (E_br_ge (q := 47) c_163_17 rfl).trans (ax_ite ?_ ?_)
    · refine (E_al c_163_20 rfl (by decide)).trans ?_
      refine (E_gfr (k := 7) (r := 13) c_163_21 sh_8 rfl rfl rfl).trans ?_
      refine (E_il c_163_24 rfl).trans ?_
      refine (E_ial c_163_25 sh_13).trans (ax_gd ?_)
      refine (E_il c_163_26 rfl).trans ?_
      refine (E_br_ne (q := 41) c_163_27 rfl).trans (ax_ite ?_ ?_)
      · refine (E_il c_163_30 rfl).trans ?_
        refine (E_al c_163_31 rfl (by decide)).trans ?_
        refine (E_gfr (k := 9) (r := 15) c_163_32 sh_8 rfl rfl rfl).trans ?_
        refine (E_il c_163_35 rfl).trans ?_
        refine (E_ial c_163_36 sh_15).trans (ax_gd ?_)
        refine (E_min c_163_37 (Nat.le_of_ble_eq_true rfl)).trans ?_
        refine (E_is (L' := [.ref 8, .int x1, .int (if (σ.1 15 x3.toNatClampNeg) < x2 then (σ.1 15 x3.toNatClampNeg) else x2), .int x3]) c_163_40 (Nat.le_of_ble_eq_true rfl) rfl).trans ?_
        refine (E_inc (v := (1 : Int32)) (L' := [.ref 8, .int x1, .int (if (σ.1 15 x3.toNatClampNeg) < x2 then (σ.1 15 x3.toNatClampNeg) else x2), .int (x3 + (1 : Int32))]) c_163_41 rfl (by decide) rfl).trans ?_
        refine (E_goto (q := 6) c_163_44 rfl).trans ?_
        rfl
      · refine (E_inc (v := (1 : Int32)) (L' := [.ref 8, .int x1, .int x2, .int (x3 + (1 : Int32))]) c_163_41 rfl (by decide) rfl).trans ?_
        refine (E_goto (q := 6) c_163_44 rfl).trans ?_
        rfl
    · refine (E_il c_163_47 rfl).trans ?_
      exact E_rI c_163_48 mi_163
  · refine (E_il c_163_47 rfl).trans ?_
    exact E_rI c_163_48 mi_163
set_option maxHeartbeats 4000000 in
theorem u_274_82 (d : Nat) (σ : ax_S) (x1 : Int32) (x2 : Int32) : ev sO (d + 2) 274 0 [.ref 82, .int x1, .int x2] [] σ = (cI sO (d + 1) 234 [.ref 82, .int x1, .int x2] σ).bind fun u0 => if u0.1 = 0 then (some (some (.int (0 : Int32)), u0.2)) else ((cI sO (d + 1) 235 [.ref 82, .int x1, .int x2] u0.2).bind fun u1 => if u1.1 = 0 then (some (some (.int (1 : Int32)), u1.2)) else (some (some (.int (0 : Int32)), u1.2))) := by
  refine (E_al c_274_0 rfl (by decide)).trans ?_
  refine (E_il c_274_1 rfl).trans ?_
  refine (E_il c_274_2 rfl).trans ?_
  refine (E_cIV c_274_3 mi_234 rfl rfl (sO_kl sh_82) (Nat.le_of_ble_eq_true rfl) (Nat.le_of_ble_eq_true rfl)).trans (ax_bnd fun u0 => ?_)
  refine (E_b0_eq (q := 22) c_274_6 rfl).trans (ax_ite ?_ ?_)
  · refine (E_ic (v := (0 : Int32)) c_274_22 (by decide)).trans ?_
    exact E_rZ (v := (0 : Int32)) c_274_23 mi_274 (by decide)
  · refine (E_al c_274_9 rfl (by decide)).trans ?_
    refine (E_il c_274_10 rfl).trans ?_
    refine (E_il c_274_11 rfl).trans ?_
    refine (E_cIV c_274_12 mi_235 rfl rfl (sO_kl sh_82) (Nat.le_of_ble_eq_true rfl) (Nat.le_of_ble_eq_true rfl)).trans (ax_bnd fun u1 => ?_)
    refine (E_b0_ne (q := 22) c_274_15 rfl).trans (ax_ite ?_ ?_)
    · refine (E_ic (v := (1 : Int32)) c_274_18 (by decide)).trans ?_
      refine (E_goto (q := 23) c_274_19 rfl).trans ?_
      exact E_rZ (v := (1 : Int32)) c_274_23 mi_274 (by decide)
    · refine (E_ic (v := (0 : Int32)) c_274_22 (by decide)).trans ?_
      exact E_rZ (v := (0 : Int32)) c_274_23 mi_274 (by decide)
set_option maxHeartbeats 4000000 in
theorem u_169 (d : Nat) (σ : ax_S) (x0 : Int32) (x1 : Int32) (x2 : Int32) : ev sO d 169 0 [.int x0, .int x1, .int x2] [] σ = if x0 = (-1000000 : Int32) then (if x1 = x2 then (some (some (.int x1), σ)) else (some (some (.int (-1000000 : Int32)), σ))) else (if x0 = x1 then (some (some (.int x0), σ)) else (if x0 = x2 then (some (some (.int x0), σ)) else (if x1 = x2 then (some (some (.int x1), σ)) else (some (some (.int (-1000000 : Int32)), σ))))) := by
  refine (E_il c_169_0 rfl).trans ?_
  refine (E_ic (v := (-1000000 : Int32)) c_169_1 (by decide)).trans ?_
  refine (E_br_eq (q := 18) c_169_3 rfl).trans (ax_ite ?_ ?_)
  · refine (E_il c_169_18 rfl).trans ?_
    refine (E_il c_169_19 rfl).trans ?_
    refine (E_br_ne (q := 27) c_169_20 rfl).trans (ax_ite ?_ ?_)
    · refine (E_il c_169_23 rfl).trans ?_
      refine (E_goto (q := 29) c_169_24 rfl).trans ?_
      exact E_rI c_169_29 mi_169
    · refine (E_ic (v := (-1000000 : Int32)) c_169_27 (by decide)).trans ?_
      exact E_rI c_169_29 mi_169
  · refine (E_il c_169_6 rfl).trans ?_
    refine (E_il c_169_7 rfl).trans ?_
    refine (E_br_eq (q := 16) c_169_8 rfl).trans (ax_ite ?_ ?_)
    · refine (E_il c_169_16 rfl).trans ?_
      exact E_rI c_169_17 mi_169
    · refine (E_il c_169_11 rfl).trans ?_
      refine (E_il c_169_12 rfl).trans ?_
      refine (E_br_ne (q := 18) c_169_13 rfl).trans (ax_ite ?_ ?_)
      · refine (E_il c_169_16 rfl).trans ?_
        exact E_rI c_169_17 mi_169
      · refine (E_il c_169_18 rfl).trans ?_
        refine (E_il c_169_19 rfl).trans ?_
        refine (E_br_ne (q := 27) c_169_20 rfl).trans (ax_ite ?_ ?_)
        · refine (E_il c_169_23 rfl).trans ?_
          refine (E_goto (q := 29) c_169_24 rfl).trans ?_
          exact E_rI c_169_29 mi_169
        · refine (E_ic (v := (-1000000 : Int32)) c_169_27 (by decide)).trans ?_
          exact E_rI c_169_29 mi_169
set_option maxHeartbeats 4000000 in
theorem u_172_17 (d : Nat) (σ : ax_S) (x1 : Int32) (x2 : Int32) : ev sO (d + 4) 172 0 [.ref 17, .int x1, .int x2, .null, .null] [] σ = ev sO (d + 4) 172 5 [.ref 17, .int x1, .int x2, .int (0 : Int32), .int (0 : Int32)] [] σ := by
  refine (E_ic (v := (0 : Int32)) c_172_0 (by decide)).trans ?_
  refine (E_is (L' := [.ref 17, .int x1, .int x2, .int (0 : Int32), .null]) c_172_1 (Nat.le_of_ble_eq_true rfl) rfl).trans ?_
  refine (E_ic (v := (0 : Int32)) c_172_2 (by decide)).trans ?_
  refine (E_is (L' := [.ref 17, .int x1, .int x2, .int (0 : Int32), .int (0 : Int32)]) c_172_3 (Nat.le_of_ble_eq_true rfl) rfl).trans ?_
  rfl
set_option maxHeartbeats 4000000 in
theorem u_172_17p5 (d : Nat) (σ : ax_S) (x1 : Int32) (x2 : Int32) (x3 : Int32) (x4 : Int32) : ev sO (d + 4) 172 5 [.ref 17, .int x1, .int x2, .int x3, .int x4] [] σ = (cI sO (d + 3) 124 [.ref 17] σ).bind fun u0 => if x4 < u0.1 then (if x4 = x1 then (ev sO (d + 4) 172 5 [.ref 17, .int x1, .int x2, .int (x3 ||| ((1 : Int32) <<< (x4 &&& 31))), .int (x4 + (1 : Int32))] [] u0.2) else ((cI sO (d + 3) 108 [.ref 17, .int x1, .int x4] u0.2).bind fun u1 => if x2 < u1.1 then (ev sO (d + 4) 172 5 [.ref 17, .int x1, .int x2, .int x3, .int (x4 + (1 : Int32))] [] u1.2) else (ev sO (d + 4) 172 5 [.ref 17, .int x1, .int x2, .int (x3 ||| ((1 : Int32) <<< (x4 &&& 31))), .int (x4 + (1 : Int32))] [] u1.2))) else (some (some (.int x3), u0.2)) := by
  refine (E_il c_172_5 rfl).trans ?_
  refine (E_al c_172_7 rfl (by decide)).trans ?_
  refine (E_cIV c_172_8 mi_124 rfl rfl (sO_kl sh_17) (Nat.le_of_ble_eq_true rfl) (Nat.le_of_ble_eq_true rfl)).trans (ax_bnd fun u0 => ?_)
  refine (E_br_ge (q := 44) c_172_11 rfl).trans (ax_ite ?_ ?_)
  · refine (E_il c_172_14 rfl).trans ?_
    refine (E_il c_172_16 rfl).trans ?_
    refine (E_br_eq (q := 31) c_172_17 rfl).trans (ax_ite ?_ ?_)
    · refine (E_il c_172_31 rfl).trans ?_
      refine (E_ic (v := (1 : Int32)) c_172_32 (by decide)).trans ?_
      refine (E_il c_172_33 rfl).trans ?_
      refine (E_ishl c_172_35).trans ?_
      refine (E_ior c_172_36).trans ?_
      refine (E_is (L' := [.ref 17, .int x1, .int x2, .int (x3 ||| ((1 : Int32) <<< (x4 &&& 31))), .int x4]) c_172_37 (Nat.le_of_ble_eq_true rfl) rfl).trans ?_
      refine (E_inc (v := (1 : Int32)) (L' := [.ref 17, .int x1, .int x2, .int (x3 ||| ((1 : Int32) <<< (x4 &&& 31))), .int (x4 + (1 : Int32))]) c_172_38 rfl (by decide) rfl).trans ?_
      refine (E_goto (q := 5) c_172_41 rfl).trans ?_
      rfl
    · refine (E_al c_172_20 rfl (by decide)).trans ?_
      refine (E_il c_172_21 rfl).trans ?_
      refine (E_il c_172_22 rfl).trans ?_
      refine (E_cIV c_172_24 mi_108 rfl rfl (sO_kl sh_17) (Nat.le_of_ble_eq_true rfl) (Nat.le_of_ble_eq_true rfl)).trans (ax_bnd fun u1 => ?_)
      refine (E_il c_172_27 rfl).trans ?_
      refine (E_br_gt (q := 38) c_172_28 rfl).trans (ax_ite ?_ ?_)
      · refine (E_inc (v := (1 : Int32)) (L' := [.ref 17, .int x1, .int x2, .int x3, .int (x4 + (1 : Int32))]) c_172_38 rfl (by decide) rfl).trans ?_
        refine (E_goto (q := 5) c_172_41 rfl).trans ?_
        rfl
      · refine (E_il c_172_31 rfl).trans ?_
        refine (E_ic (v := (1 : Int32)) c_172_32 (by decide)).trans ?_
        refine (E_il c_172_33 rfl).trans ?_
        refine (E_ishl c_172_35).trans ?_
        refine (E_ior c_172_36).trans ?_
        refine (E_is (L' := [.ref 17, .int x1, .int x2, .int (x3 ||| ((1 : Int32) <<< (x4 &&& 31))), .int x4]) c_172_37 (Nat.le_of_ble_eq_true rfl) rfl).trans ?_
        refine (E_inc (v := (1 : Int32)) (L' := [.ref 17, .int x1, .int x2, .int (x3 ||| ((1 : Int32) <<< (x4 &&& 31))), .int (x4 + (1 : Int32))]) c_172_38 rfl (by decide) rfl).trans ?_
        refine (E_goto (q := 5) c_172_41 rfl).trans ?_
        rfl
  · refine (E_il c_172_44 rfl).trans ?_
    exact E_rI c_172_45 mi_172
set_option maxHeartbeats 4000000 in
theorem u_62_23_8 (d : Nat) (σ : ax_S) : ev sO d 62 0 [.ref 23, .ref 8] [] σ = gd ((σ.1 8 0) = 0 ∨ (σ.1 8 0) = 1) (ax_lt (sI (sI (sI (sI σ 23 0 (σ.1 8 0)) 23 1 ((sI σ 23 0 (σ.1 8 0)).1 8 1)) 23 6 ((sI (sI σ 23 0 (σ.1 8 0)) 23 1 ((sI σ 23 0 (σ.1 8 0)).1 8 1)).1 8 6)) 23 11 ((sI (sI (sI σ 23 0 (σ.1 8 0)) 23 1 ((sI σ 23 0 (σ.1 8 0)).1 8 1)) 23 6 ((sI (sI σ 23 0 (σ.1 8 0)) 23 1 ((sI σ 23 0 (σ.1 8 0)).1 8 1)).1 8 6)).1 8 11)) fun s0 => ax_lt (sI (sI (sI s0 23 12 (s0.1 8 12)) 23 13 ((sI s0 23 12 (s0.1 8 12)).1 8 13)) 23 14 ((sI (sI s0 23 12 (s0.1 8 12)) 23 13 ((sI s0 23 12 (s0.1 8 12)).1 8 13)).1 8 14)) fun s1 => ax_lt (sR s1 24 (va_cpy (s1.1 9) (s1.1 24) (0 : Int32).toNatClampNeg (0 : Int32).toNatClampNeg (16 : Int32).toNatClampNeg)) fun s2 => ax_lt (sR s2 25 (va_cpy (s2.1 10) (s2.1 25) (0 : Int32).toNatClampNeg (0 : Int32).toNatClampNeg (16 : Int32).toNatClampNeg)) fun s3 => ax_lt (sR s3 26 (va_cpy (s3.1 11) (s3.1 26) (0 : Int32).toNatClampNeg (0 : Int32).toNatClampNeg (16 : Int32).toNatClampNeg)) fun s4 => ax_lt (sR s4 27 (va_cpy (s4.1 12) (s4.1 27) (0 : Int32).toNatClampNeg (0 : Int32).toNatClampNeg (16 : Int32).toNatClampNeg)) fun s5 => ax_lt (sR s5 28 (va_cpy (s5.1 13) (s5.1 28) (0 : Int32).toNatClampNeg (0 : Int32).toNatClampNeg (8 : Int32).toNatClampNeg)) fun s6 => ax_lt (sR s6 29 (va_cpy (s6.1 14) (s6.1 29) (0 : Int32).toNatClampNeg (0 : Int32).toNatClampNeg (8 : Int32).toNatClampNeg)) fun s7 => ax_lt (sR s7 30 (va_cpy (s7.1 15) (s7.1 30) (0 : Int32).toNatClampNeg (0 : Int32).toNatClampNeg (8 : Int32).toNatClampNeg)) fun s8 => ax_lt (sR s8 31 (va_cpy (s8.1 16) (s8.1 31) (0 : Int32).toNatClampNeg (0 : Int32).toNatClampNeg (8 : Int32).toNatClampNeg)) fun s9 => some (none, s9)) := by
  refine (E_al c_62_0 rfl (by decide)).trans ?_
  refine (E_al c_62_1 rfl (by decide)).trans ?_
  refine (E_gfi (k := 0) c_62_2 sh_8 rfl rfl rfl (by decide)).trans ?_
  refine (E_pfzg (k := 0) c_62_5 sh_23 rfl rfl rfl).trans (ax_gd ?_)
  refine (E_al c_62_8 rfl (by decide)).trans ?_
  refine (E_al c_62_9 rfl (by decide)).trans ?_
  refine (E_gfi (k := 1) c_62_10 sh_8 rfl rfl rfl (by decide)).trans ?_
  refine (E_pfi (k := 1) c_62_13 sh_23 rfl rfl rfl).trans ?_
  refine (E_al c_62_16 rfl (by decide)).trans ?_
  refine (E_al c_62_17 rfl (by decide)).trans ?_
  refine (E_gfi (k := 6) c_62_18 sh_8 rfl rfl rfl (by decide)).trans ?_
  refine (E_pfi (k := 6) c_62_21 sh_23 rfl rfl rfl).trans ?_
  refine (E_al c_62_24 rfl (by decide)).trans ?_
  refine (E_al c_62_25 rfl (by decide)).trans ?_
  refine (E_gfi (k := 11) c_62_26 sh_8 rfl rfl rfl (by decide)).trans ?_
  refine (E_pfi (k := 11) c_62_29 sh_23 rfl rfl rfl).trans ?_
  refine ax_ltE (fun s0 => ?_)
  refine (E_al c_62_32 rfl (by decide)).trans ?_
  refine (E_al c_62_33 rfl (by decide)).trans ?_
  refine (E_gfi (k := 12) c_62_34 sh_8 rfl rfl rfl (by decide)).trans ?_
  refine (E_pfi (k := 12) c_62_37 sh_23 rfl rfl rfl).trans ?_
  refine (E_al c_62_40 rfl (by decide)).trans ?_
  refine (E_al c_62_41 rfl (by decide)).trans ?_
  refine (E_gfi (k := 13) c_62_42 sh_8 rfl rfl rfl (by decide)).trans ?_
  refine (E_pfi (k := 13) c_62_45 sh_23 rfl rfl rfl).trans ?_
  refine (E_al c_62_48 rfl (by decide)).trans ?_
  refine (E_al c_62_49 rfl (by decide)).trans ?_
  refine (E_gfi (k := 14) c_62_50 sh_8 rfl rfl rfl (by decide)).trans ?_
  refine (E_pfi (k := 14) c_62_53 sh_23 rfl rfl rfl).trans ?_
  refine ax_ltE (fun s1 => ?_)
  refine (E_al c_62_56 rfl (by decide)).trans ?_
  refine (E_gfr (k := 2) (r := 9) c_62_57 sh_8 rfl rfl rfl).trans ?_
  refine (E_ic (v := (0 : Int32)) c_62_60 (by decide)).trans ?_
  refine (E_al c_62_61 rfl (by decide)).trans ?_
  refine (E_gfr (k := 2) (r := 24) c_62_62 sh_23 rfl rfl rfl).trans ?_
  refine (E_ic (v := (0 : Int32)) c_62_65 (by decide)).trans ?_
  refine (E_ic (v := (16 : Int32)) c_62_66 (by decide)).trans ?_
  refine (E_cpy c_62_68 sh_9 sh_24 (Nat.le_of_ble_eq_true rfl) (by unfold cpOk; decide)).trans ?_
  refine ax_ltE (fun s2 => ?_)
  refine (E_al c_62_71 rfl (by decide)).trans ?_
  refine (E_gfr (k := 3) (r := 10) c_62_72 sh_8 rfl rfl rfl).trans ?_
  refine (E_ic (v := (0 : Int32)) c_62_75 (by decide)).trans ?_
  refine (E_al c_62_76 rfl (by decide)).trans ?_
  refine (E_gfr (k := 3) (r := 25) c_62_77 sh_23 rfl rfl rfl).trans ?_
  refine (E_ic (v := (0 : Int32)) c_62_80 (by decide)).trans ?_
  refine (E_ic (v := (16 : Int32)) c_62_81 (by decide)).trans ?_
  refine (E_cpy c_62_83 sh_10 sh_25 (Nat.le_of_ble_eq_true rfl) (by unfold cpOk; decide)).trans ?_
  refine ax_ltE (fun s3 => ?_)
  refine (E_al c_62_86 rfl (by decide)).trans ?_
  refine (E_gfr (k := 4) (r := 11) c_62_87 sh_8 rfl rfl rfl).trans ?_
  refine (E_ic (v := (0 : Int32)) c_62_90 (by decide)).trans ?_
  refine (E_al c_62_91 rfl (by decide)).trans ?_
  refine (E_gfr (k := 4) (r := 26) c_62_92 sh_23 rfl rfl rfl).trans ?_
  refine (E_ic (v := (0 : Int32)) c_62_95 (by decide)).trans ?_
  refine (E_ic (v := (16 : Int32)) c_62_96 (by decide)).trans ?_
  refine (E_cpy c_62_98 sh_11 sh_26 (Nat.le_of_ble_eq_true rfl) (by unfold cpOk; decide)).trans ?_
  refine ax_ltE (fun s4 => ?_)
  refine (E_al c_62_101 rfl (by decide)).trans ?_
  refine (E_gfr (k := 5) (r := 12) c_62_102 sh_8 rfl rfl rfl).trans ?_
  refine (E_ic (v := (0 : Int32)) c_62_105 (by decide)).trans ?_
  refine (E_al c_62_106 rfl (by decide)).trans ?_
  refine (E_gfr (k := 5) (r := 27) c_62_107 sh_23 rfl rfl rfl).trans ?_
  refine (E_ic (v := (0 : Int32)) c_62_110 (by decide)).trans ?_
  refine (E_ic (v := (16 : Int32)) c_62_111 (by decide)).trans ?_
  refine (E_cpy c_62_113 sh_12 sh_27 (Nat.le_of_ble_eq_true rfl) (by unfold cpOk; decide)).trans ?_
  refine ax_ltE (fun s5 => ?_)
  refine (E_al c_62_116 rfl (by decide)).trans ?_
  refine (E_gfr (k := 7) (r := 13) c_62_117 sh_8 rfl rfl rfl).trans ?_
  refine (E_ic (v := (0 : Int32)) c_62_120 (by decide)).trans ?_
  refine (E_al c_62_121 rfl (by decide)).trans ?_
  refine (E_gfr (k := 7) (r := 28) c_62_122 sh_23 rfl rfl rfl).trans ?_
  refine (E_ic (v := (0 : Int32)) c_62_125 (by decide)).trans ?_
  refine (E_ic (v := (8 : Int32)) c_62_126 (by decide)).trans ?_
  refine (E_cpy c_62_128 sh_13 sh_28 (Nat.le_of_ble_eq_true rfl) (by unfold cpOk; decide)).trans ?_
  refine ax_ltE (fun s6 => ?_)
  refine (E_al c_62_131 rfl (by decide)).trans ?_
  refine (E_gfr (k := 8) (r := 14) c_62_132 sh_8 rfl rfl rfl).trans ?_
  refine (E_ic (v := (0 : Int32)) c_62_135 (by decide)).trans ?_
  refine (E_al c_62_136 rfl (by decide)).trans ?_
  refine (E_gfr (k := 8) (r := 29) c_62_137 sh_23 rfl rfl rfl).trans ?_
  refine (E_ic (v := (0 : Int32)) c_62_140 (by decide)).trans ?_
  refine (E_ic (v := (8 : Int32)) c_62_141 (by decide)).trans ?_
  refine (E_cpy c_62_143 sh_14 sh_29 (Nat.le_of_ble_eq_true rfl) (by unfold cpOk; decide)).trans ?_
  refine ax_ltE (fun s7 => ?_)
  refine (E_al c_62_146 rfl (by decide)).trans ?_
  refine (E_gfr (k := 9) (r := 15) c_62_147 sh_8 rfl rfl rfl).trans ?_
  refine (E_ic (v := (0 : Int32)) c_62_150 (by decide)).trans ?_
  refine (E_al c_62_151 rfl (by decide)).trans ?_
  refine (E_gfr (k := 9) (r := 30) c_62_152 sh_23 rfl rfl rfl).trans ?_
  refine (E_ic (v := (0 : Int32)) c_62_155 (by decide)).trans ?_
  refine (E_ic (v := (8 : Int32)) c_62_156 (by decide)).trans ?_
  refine (E_cpy c_62_158 sh_15 sh_30 (Nat.le_of_ble_eq_true rfl) (by unfold cpOk; decide)).trans ?_
  refine ax_ltE (fun s8 => ?_)
  refine (E_al c_62_161 rfl (by decide)).trans ?_
  refine (E_gfr (k := 10) (r := 16) c_62_162 sh_8 rfl rfl rfl).trans ?_
  refine (E_ic (v := (0 : Int32)) c_62_165 (by decide)).trans ?_
  refine (E_al c_62_166 rfl (by decide)).trans ?_
  refine (E_gfr (k := 10) (r := 31) c_62_167 sh_23 rfl rfl rfl).trans ?_
  refine (E_ic (v := (0 : Int32)) c_62_170 (by decide)).trans ?_
  refine (E_ic (v := (8 : Int32)) c_62_171 (by decide)).trans ?_
  refine (E_cpy c_62_173 sh_16 sh_31 (Nat.le_of_ble_eq_true rfl) (by unfold cpOk; decide)).trans ?_
  refine ax_ltE (fun s9 => ?_)
  exact E_rV c_62_176 mi_62
set_option maxHeartbeats 4000000 in
theorem u_176_32_17 (d : Nat) (σ : ax_S) : ev sO d 176 0 [.ref 32, .ref 17] [] σ = ax_lt (sR (sI σ 32 0 (σ.1 17 0)) 33 (va_cpy ((sI σ 32 0 (σ.1 17 0)).1 18) ((sI σ 32 0 (σ.1 17 0)).1 33) (0 : Int32).toNatClampNeg (0 : Int32).toNatClampNeg (12 : Int32).toNatClampNeg)) fun s0 => ax_lt (sR s0 34 (va_cpy (s0.1 19) (s0.1 34) (0 : Int32).toNatClampNeg (0 : Int32).toNatClampNeg (12 : Int32).toNatClampNeg)) fun s1 => ax_lt (sR s1 35 (va_cpy (s1.1 20) (s1.1 35) (0 : Int32).toNatClampNeg (0 : Int32).toNatClampNeg (12 : Int32).toNatClampNeg)) fun s2 => ax_lt (sR s2 36 (va_cpy (s2.1 21) (s2.1 36) (0 : Int32).toNatClampNeg (0 : Int32).toNatClampNeg (132 : Int32).toNatClampNeg)) fun s3 => some (none, s3) := by
  refine (E_al c_176_0 rfl (by decide)).trans ?_
  refine (E_al c_176_1 rfl (by decide)).trans ?_
  refine (E_gfi (k := 0) c_176_2 sh_17 rfl rfl rfl (by decide)).trans ?_
  refine (E_pfi (k := 0) c_176_5 sh_32 rfl rfl rfl).trans ?_
  refine (E_al c_176_8 rfl (by decide)).trans ?_
  refine (E_gfr (k := 1) (r := 18) c_176_9 sh_17 rfl rfl rfl).trans ?_
  refine (E_ic (v := (0 : Int32)) c_176_12 (by decide)).trans ?_
  refine (E_al c_176_13 rfl (by decide)).trans ?_
  refine (E_gfr (k := 1) (r := 33) c_176_14 sh_32 rfl rfl rfl).trans ?_
  refine (E_ic (v := (0 : Int32)) c_176_17 (by decide)).trans ?_
  refine (E_ic (v := (12 : Int32)) c_176_18 (by decide)).trans ?_
  refine (E_cpy c_176_20 sh_18 sh_33 (Nat.le_of_ble_eq_true rfl) (by unfold cpOk; decide)).trans ?_
  refine ax_ltE (fun s0 => ?_)
  refine (E_al c_176_23 rfl (by decide)).trans ?_
  refine (E_gfr (k := 2) (r := 19) c_176_24 sh_17 rfl rfl rfl).trans ?_
  refine (E_ic (v := (0 : Int32)) c_176_27 (by decide)).trans ?_
  refine (E_al c_176_28 rfl (by decide)).trans ?_
  refine (E_gfr (k := 2) (r := 34) c_176_29 sh_32 rfl rfl rfl).trans ?_
  refine (E_ic (v := (0 : Int32)) c_176_32 (by decide)).trans ?_
  refine (E_ic (v := (12 : Int32)) c_176_33 (by decide)).trans ?_
  refine (E_cpy c_176_35 sh_19 sh_34 (Nat.le_of_ble_eq_true rfl) (by unfold cpOk; decide)).trans ?_
  refine ax_ltE (fun s1 => ?_)
  refine (E_al c_176_38 rfl (by decide)).trans ?_
  refine (E_gfr (k := 3) (r := 20) c_176_39 sh_17 rfl rfl rfl).trans ?_
  refine (E_ic (v := (0 : Int32)) c_176_42 (by decide)).trans ?_
  refine (E_al c_176_43 rfl (by decide)).trans ?_
  refine (E_gfr (k := 3) (r := 35) c_176_44 sh_32 rfl rfl rfl).trans ?_
  refine (E_ic (v := (0 : Int32)) c_176_47 (by decide)).trans ?_
  refine (E_ic (v := (12 : Int32)) c_176_48 (by decide)).trans ?_
  refine (E_cpy c_176_50 sh_20 sh_35 (Nat.le_of_ble_eq_true rfl) (by unfold cpOk; decide)).trans ?_
  refine ax_ltE (fun s2 => ?_)
  refine (E_al c_176_53 rfl (by decide)).trans ?_
  refine (E_gfr (k := 4) (r := 21) c_176_54 sh_17 rfl rfl rfl).trans ?_
  refine (E_ic (v := (0 : Int32)) c_176_57 (by decide)).trans ?_
  refine (E_al c_176_58 rfl (by decide)).trans ?_
  refine (E_gfr (k := 4) (r := 36) c_176_59 sh_32 rfl rfl rfl).trans ?_
  refine (E_ic (v := (0 : Int32)) c_176_62 (by decide)).trans ?_
  refine (E_ic (v := (132 : Int32)) c_176_63 (by decide)).trans ?_
  refine (E_cpy c_176_66 sh_21 sh_36 (Nat.le_of_ble_eq_true rfl) (by unfold cpOk; decide)).trans ?_
  refine ax_ltE (fun s3 => ?_)
  exact E_rV c_176_69 mi_176
set_option maxHeartbeats 4000000 in
theorem u_62_38_8 (d : Nat) (σ : ax_S) : ev sO d 62 0 [.ref 38, .ref 8] [] σ = gd ((σ.1 8 0) = 0 ∨ (σ.1 8 0) = 1) (ax_lt (sI (sI (sI (sI σ 38 0 (σ.1 8 0)) 38 1 ((sI σ 38 0 (σ.1 8 0)).1 8 1)) 38 6 ((sI (sI σ 38 0 (σ.1 8 0)) 38 1 ((sI σ 38 0 (σ.1 8 0)).1 8 1)).1 8 6)) 38 11 ((sI (sI (sI σ 38 0 (σ.1 8 0)) 38 1 ((sI σ 38 0 (σ.1 8 0)).1 8 1)) 38 6 ((sI (sI σ 38 0 (σ.1 8 0)) 38 1 ((sI σ 38 0 (σ.1 8 0)).1 8 1)).1 8 6)).1 8 11)) fun s0 => ax_lt (sI (sI (sI s0 38 12 (s0.1 8 12)) 38 13 ((sI s0 38 12 (s0.1 8 12)).1 8 13)) 38 14 ((sI (sI s0 38 12 (s0.1 8 12)) 38 13 ((sI s0 38 12 (s0.1 8 12)).1 8 13)).1 8 14)) fun s1 => ax_lt (sR s1 39 (va_cpy (s1.1 9) (s1.1 39) (0 : Int32).toNatClampNeg (0 : Int32).toNatClampNeg (16 : Int32).toNatClampNeg)) fun s2 => ax_lt (sR s2 40 (va_cpy (s2.1 10) (s2.1 40) (0 : Int32).toNatClampNeg (0 : Int32).toNatClampNeg (16 : Int32).toNatClampNeg)) fun s3 => ax_lt (sR s3 41 (va_cpy (s3.1 11) (s3.1 41) (0 : Int32).toNatClampNeg (0 : Int32).toNatClampNeg (16 : Int32).toNatClampNeg)) fun s4 => ax_lt (sR s4 42 (va_cpy (s4.1 12) (s4.1 42) (0 : Int32).toNatClampNeg (0 : Int32).toNatClampNeg (16 : Int32).toNatClampNeg)) fun s5 => ax_lt (sR s5 43 (va_cpy (s5.1 13) (s5.1 43) (0 : Int32).toNatClampNeg (0 : Int32).toNatClampNeg (8 : Int32).toNatClampNeg)) fun s6 => ax_lt (sR s6 44 (va_cpy (s6.1 14) (s6.1 44) (0 : Int32).toNatClampNeg (0 : Int32).toNatClampNeg (8 : Int32).toNatClampNeg)) fun s7 => ax_lt (sR s7 45 (va_cpy (s7.1 15) (s7.1 45) (0 : Int32).toNatClampNeg (0 : Int32).toNatClampNeg (8 : Int32).toNatClampNeg)) fun s8 => ax_lt (sR s8 46 (va_cpy (s8.1 16) (s8.1 46) (0 : Int32).toNatClampNeg (0 : Int32).toNatClampNeg (8 : Int32).toNatClampNeg)) fun s9 => some (none, s9)) := by
  refine (E_al c_62_0 rfl (by decide)).trans ?_
  refine (E_al c_62_1 rfl (by decide)).trans ?_
  refine (E_gfi (k := 0) c_62_2 sh_8 rfl rfl rfl (by decide)).trans ?_
  refine (E_pfzg (k := 0) c_62_5 sh_38 rfl rfl rfl).trans (ax_gd ?_)
  refine (E_al c_62_8 rfl (by decide)).trans ?_
  refine (E_al c_62_9 rfl (by decide)).trans ?_
  refine (E_gfi (k := 1) c_62_10 sh_8 rfl rfl rfl (by decide)).trans ?_
  refine (E_pfi (k := 1) c_62_13 sh_38 rfl rfl rfl).trans ?_
  refine (E_al c_62_16 rfl (by decide)).trans ?_
  refine (E_al c_62_17 rfl (by decide)).trans ?_
  refine (E_gfi (k := 6) c_62_18 sh_8 rfl rfl rfl (by decide)).trans ?_
  refine (E_pfi (k := 6) c_62_21 sh_38 rfl rfl rfl).trans ?_
  refine (E_al c_62_24 rfl (by decide)).trans ?_
  refine (E_al c_62_25 rfl (by decide)).trans ?_
  refine (E_gfi (k := 11) c_62_26 sh_8 rfl rfl rfl (by decide)).trans ?_
  refine (E_pfi (k := 11) c_62_29 sh_38 rfl rfl rfl).trans ?_
  refine ax_ltE (fun s0 => ?_)
  refine (E_al c_62_32 rfl (by decide)).trans ?_
  refine (E_al c_62_33 rfl (by decide)).trans ?_
  refine (E_gfi (k := 12) c_62_34 sh_8 rfl rfl rfl (by decide)).trans ?_
  refine (E_pfi (k := 12) c_62_37 sh_38 rfl rfl rfl).trans ?_
  refine (E_al c_62_40 rfl (by decide)).trans ?_
  refine (E_al c_62_41 rfl (by decide)).trans ?_
  refine (E_gfi (k := 13) c_62_42 sh_8 rfl rfl rfl (by decide)).trans ?_
  refine (E_pfi (k := 13) c_62_45 sh_38 rfl rfl rfl).trans ?_
  refine (E_al c_62_48 rfl (by decide)).trans ?_
  refine (E_al c_62_49 rfl (by decide)).trans ?_
  refine (E_gfi (k := 14) c_62_50 sh_8 rfl rfl rfl (by decide)).trans ?_
  refine (E_pfi (k := 14) c_62_53 sh_38 rfl rfl rfl).trans ?_
  refine ax_ltE (fun s1 => ?_)
  refine (E_al c_62_56 rfl (by decide)).trans ?_
  refine (E_gfr (k := 2) (r := 9) c_62_57 sh_8 rfl rfl rfl).trans ?_
  refine (E_ic (v := (0 : Int32)) c_62_60 (by decide)).trans ?_
  refine (E_al c_62_61 rfl (by decide)).trans ?_
  refine (E_gfr (k := 2) (r := 39) c_62_62 sh_38 rfl rfl rfl).trans ?_
  refine (E_ic (v := (0 : Int32)) c_62_65 (by decide)).trans ?_
  refine (E_ic (v := (16 : Int32)) c_62_66 (by decide)).trans ?_
  refine (E_cpy c_62_68 sh_9 sh_39 (Nat.le_of_ble_eq_true rfl) (by unfold cpOk; decide)).trans ?_
  refine ax_ltE (fun s2 => ?_)
  refine (E_al c_62_71 rfl (by decide)).trans ?_
  refine (E_gfr (k := 3) (r := 10) c_62_72 sh_8 rfl rfl rfl).trans ?_
  refine (E_ic (v := (0 : Int32)) c_62_75 (by decide)).trans ?_
  refine (E_al c_62_76 rfl (by decide)).trans ?_
  refine (E_gfr (k := 3) (r := 40) c_62_77 sh_38 rfl rfl rfl).trans ?_
  refine (E_ic (v := (0 : Int32)) c_62_80 (by decide)).trans ?_
  refine (E_ic (v := (16 : Int32)) c_62_81 (by decide)).trans ?_
  refine (E_cpy c_62_83 sh_10 sh_40 (Nat.le_of_ble_eq_true rfl) (by unfold cpOk; decide)).trans ?_
  refine ax_ltE (fun s3 => ?_)
  refine (E_al c_62_86 rfl (by decide)).trans ?_
  refine (E_gfr (k := 4) (r := 11) c_62_87 sh_8 rfl rfl rfl).trans ?_
  refine (E_ic (v := (0 : Int32)) c_62_90 (by decide)).trans ?_
  refine (E_al c_62_91 rfl (by decide)).trans ?_
  refine (E_gfr (k := 4) (r := 41) c_62_92 sh_38 rfl rfl rfl).trans ?_
  refine (E_ic (v := (0 : Int32)) c_62_95 (by decide)).trans ?_
  refine (E_ic (v := (16 : Int32)) c_62_96 (by decide)).trans ?_
  refine (E_cpy c_62_98 sh_11 sh_41 (Nat.le_of_ble_eq_true rfl) (by unfold cpOk; decide)).trans ?_
  refine ax_ltE (fun s4 => ?_)
  refine (E_al c_62_101 rfl (by decide)).trans ?_
  refine (E_gfr (k := 5) (r := 12) c_62_102 sh_8 rfl rfl rfl).trans ?_
  refine (E_ic (v := (0 : Int32)) c_62_105 (by decide)).trans ?_
  refine (E_al c_62_106 rfl (by decide)).trans ?_
  refine (E_gfr (k := 5) (r := 42) c_62_107 sh_38 rfl rfl rfl).trans ?_
  refine (E_ic (v := (0 : Int32)) c_62_110 (by decide)).trans ?_
  refine (E_ic (v := (16 : Int32)) c_62_111 (by decide)).trans ?_
  refine (E_cpy c_62_113 sh_12 sh_42 (Nat.le_of_ble_eq_true rfl) (by unfold cpOk; decide)).trans ?_
  refine ax_ltE (fun s5 => ?_)
  refine (E_al c_62_116 rfl (by decide)).trans ?_
  refine (E_gfr (k := 7) (r := 13) c_62_117 sh_8 rfl rfl rfl).trans ?_
  refine (E_ic (v := (0 : Int32)) c_62_120 (by decide)).trans ?_
  refine (E_al c_62_121 rfl (by decide)).trans ?_
  refine (E_gfr (k := 7) (r := 43) c_62_122 sh_38 rfl rfl rfl).trans ?_
  refine (E_ic (v := (0 : Int32)) c_62_125 (by decide)).trans ?_
  refine (E_ic (v := (8 : Int32)) c_62_126 (by decide)).trans ?_
  refine (E_cpy c_62_128 sh_13 sh_43 (Nat.le_of_ble_eq_true rfl) (by unfold cpOk; decide)).trans ?_
  refine ax_ltE (fun s6 => ?_)
  refine (E_al c_62_131 rfl (by decide)).trans ?_
  refine (E_gfr (k := 8) (r := 14) c_62_132 sh_8 rfl rfl rfl).trans ?_
  refine (E_ic (v := (0 : Int32)) c_62_135 (by decide)).trans ?_
  refine (E_al c_62_136 rfl (by decide)).trans ?_
  refine (E_gfr (k := 8) (r := 44) c_62_137 sh_38 rfl rfl rfl).trans ?_
  refine (E_ic (v := (0 : Int32)) c_62_140 (by decide)).trans ?_
  refine (E_ic (v := (8 : Int32)) c_62_141 (by decide)).trans ?_
  refine (E_cpy c_62_143 sh_14 sh_44 (Nat.le_of_ble_eq_true rfl) (by unfold cpOk; decide)).trans ?_
  refine ax_ltE (fun s7 => ?_)
  refine (E_al c_62_146 rfl (by decide)).trans ?_
  refine (E_gfr (k := 9) (r := 15) c_62_147 sh_8 rfl rfl rfl).trans ?_
  refine (E_ic (v := (0 : Int32)) c_62_150 (by decide)).trans ?_
  refine (E_al c_62_151 rfl (by decide)).trans ?_
  refine (E_gfr (k := 9) (r := 45) c_62_152 sh_38 rfl rfl rfl).trans ?_
  refine (E_ic (v := (0 : Int32)) c_62_155 (by decide)).trans ?_
  refine (E_ic (v := (8 : Int32)) c_62_156 (by decide)).trans ?_
  refine (E_cpy c_62_158 sh_15 sh_45 (Nat.le_of_ble_eq_true rfl) (by unfold cpOk; decide)).trans ?_
  refine ax_ltE (fun s8 => ?_)
  refine (E_al c_62_161 rfl (by decide)).trans ?_
  refine (E_gfr (k := 10) (r := 16) c_62_162 sh_8 rfl rfl rfl).trans ?_
  refine (E_ic (v := (0 : Int32)) c_62_165 (by decide)).trans ?_
  refine (E_al c_62_166 rfl (by decide)).trans ?_
  refine (E_gfr (k := 10) (r := 46) c_62_167 sh_38 rfl rfl rfl).trans ?_
  refine (E_ic (v := (0 : Int32)) c_62_170 (by decide)).trans ?_
  refine (E_ic (v := (8 : Int32)) c_62_171 (by decide)).trans ?_
  refine (E_cpy c_62_173 sh_16 sh_46 (Nat.le_of_ble_eq_true rfl) (by unfold cpOk; decide)).trans ?_
  refine ax_ltE (fun s9 => ?_)
  exact E_rV c_62_176 mi_62
set_option maxHeartbeats 4000000 in
theorem u_176_47_17 (d : Nat) (σ : ax_S) : ev sO d 176 0 [.ref 47, .ref 17] [] σ = ax_lt (sR (sI σ 47 0 (σ.1 17 0)) 48 (va_cpy ((sI σ 47 0 (σ.1 17 0)).1 18) ((sI σ 47 0 (σ.1 17 0)).1 48) (0 : Int32).toNatClampNeg (0 : Int32).toNatClampNeg (12 : Int32).toNatClampNeg)) fun s0 => ax_lt (sR s0 49 (va_cpy (s0.1 19) (s0.1 49) (0 : Int32).toNatClampNeg (0 : Int32).toNatClampNeg (12 : Int32).toNatClampNeg)) fun s1 => ax_lt (sR s1 50 (va_cpy (s1.1 20) (s1.1 50) (0 : Int32).toNatClampNeg (0 : Int32).toNatClampNeg (12 : Int32).toNatClampNeg)) fun s2 => ax_lt (sR s2 51 (va_cpy (s2.1 21) (s2.1 51) (0 : Int32).toNatClampNeg (0 : Int32).toNatClampNeg (132 : Int32).toNatClampNeg)) fun s3 => some (none, s3) := by
  refine (E_al c_176_0 rfl (by decide)).trans ?_
  refine (E_al c_176_1 rfl (by decide)).trans ?_
  refine (E_gfi (k := 0) c_176_2 sh_17 rfl rfl rfl (by decide)).trans ?_
  refine (E_pfi (k := 0) c_176_5 sh_47 rfl rfl rfl).trans ?_
  refine (E_al c_176_8 rfl (by decide)).trans ?_
  refine (E_gfr (k := 1) (r := 18) c_176_9 sh_17 rfl rfl rfl).trans ?_
  refine (E_ic (v := (0 : Int32)) c_176_12 (by decide)).trans ?_
  refine (E_al c_176_13 rfl (by decide)).trans ?_
  refine (E_gfr (k := 1) (r := 48) c_176_14 sh_47 rfl rfl rfl).trans ?_
  refine (E_ic (v := (0 : Int32)) c_176_17 (by decide)).trans ?_
  refine (E_ic (v := (12 : Int32)) c_176_18 (by decide)).trans ?_
  refine (E_cpy c_176_20 sh_18 sh_48 (Nat.le_of_ble_eq_true rfl) (by unfold cpOk; decide)).trans ?_
  refine ax_ltE (fun s0 => ?_)
  refine (E_al c_176_23 rfl (by decide)).trans ?_
  refine (E_gfr (k := 2) (r := 19) c_176_24 sh_17 rfl rfl rfl).trans ?_
  refine (E_ic (v := (0 : Int32)) c_176_27 (by decide)).trans ?_
  refine (E_al c_176_28 rfl (by decide)).trans ?_
  refine (E_gfr (k := 2) (r := 49) c_176_29 sh_47 rfl rfl rfl).trans ?_
  refine (E_ic (v := (0 : Int32)) c_176_32 (by decide)).trans ?_
  refine (E_ic (v := (12 : Int32)) c_176_33 (by decide)).trans ?_
  refine (E_cpy c_176_35 sh_19 sh_49 (Nat.le_of_ble_eq_true rfl) (by unfold cpOk; decide)).trans ?_
  refine ax_ltE (fun s1 => ?_)
  refine (E_al c_176_38 rfl (by decide)).trans ?_
  refine (E_gfr (k := 3) (r := 20) c_176_39 sh_17 rfl rfl rfl).trans ?_
  refine (E_ic (v := (0 : Int32)) c_176_42 (by decide)).trans ?_
  refine (E_al c_176_43 rfl (by decide)).trans ?_
  refine (E_gfr (k := 3) (r := 50) c_176_44 sh_47 rfl rfl rfl).trans ?_
  refine (E_ic (v := (0 : Int32)) c_176_47 (by decide)).trans ?_
  refine (E_ic (v := (12 : Int32)) c_176_48 (by decide)).trans ?_
  refine (E_cpy c_176_50 sh_20 sh_50 (Nat.le_of_ble_eq_true rfl) (by unfold cpOk; decide)).trans ?_
  refine ax_ltE (fun s2 => ?_)
  refine (E_al c_176_53 rfl (by decide)).trans ?_
  refine (E_gfr (k := 4) (r := 21) c_176_54 sh_17 rfl rfl rfl).trans ?_
  refine (E_ic (v := (0 : Int32)) c_176_57 (by decide)).trans ?_
  refine (E_al c_176_58 rfl (by decide)).trans ?_
  refine (E_gfr (k := 4) (r := 51) c_176_59 sh_47 rfl rfl rfl).trans ?_
  refine (E_ic (v := (0 : Int32)) c_176_62 (by decide)).trans ?_
  refine (E_ic (v := (132 : Int32)) c_176_63 (by decide)).trans ?_
  refine (E_cpy c_176_66 sh_21 sh_51 (Nat.le_of_ble_eq_true rfl) (by unfold cpOk; decide)).trans ?_
  refine ax_ltE (fun s3 => ?_)
  exact E_rV c_176_69 mi_176
set_option maxHeartbeats 4000000 in
theorem u_62_8_23 (d : Nat) (σ : ax_S) : ev sO d 62 0 [.ref 8, .ref 23] [] σ = gd ((σ.1 23 0) = 0 ∨ (σ.1 23 0) = 1) (ax_lt (sI (sI (sI (sI σ 8 0 (σ.1 23 0)) 8 1 ((sI σ 8 0 (σ.1 23 0)).1 23 1)) 8 6 ((sI (sI σ 8 0 (σ.1 23 0)) 8 1 ((sI σ 8 0 (σ.1 23 0)).1 23 1)).1 23 6)) 8 11 ((sI (sI (sI σ 8 0 (σ.1 23 0)) 8 1 ((sI σ 8 0 (σ.1 23 0)).1 23 1)) 8 6 ((sI (sI σ 8 0 (σ.1 23 0)) 8 1 ((sI σ 8 0 (σ.1 23 0)).1 23 1)).1 23 6)).1 23 11)) fun s0 => ax_lt (sI (sI (sI s0 8 12 (s0.1 23 12)) 8 13 ((sI s0 8 12 (s0.1 23 12)).1 23 13)) 8 14 ((sI (sI s0 8 12 (s0.1 23 12)) 8 13 ((sI s0 8 12 (s0.1 23 12)).1 23 13)).1 23 14)) fun s1 => ax_lt (sR s1 9 (va_cpy (s1.1 24) (s1.1 9) (0 : Int32).toNatClampNeg (0 : Int32).toNatClampNeg (16 : Int32).toNatClampNeg)) fun s2 => ax_lt (sR s2 10 (va_cpy (s2.1 25) (s2.1 10) (0 : Int32).toNatClampNeg (0 : Int32).toNatClampNeg (16 : Int32).toNatClampNeg)) fun s3 => ax_lt (sR s3 11 (va_cpy (s3.1 26) (s3.1 11) (0 : Int32).toNatClampNeg (0 : Int32).toNatClampNeg (16 : Int32).toNatClampNeg)) fun s4 => ax_lt (sR s4 12 (va_cpy (s4.1 27) (s4.1 12) (0 : Int32).toNatClampNeg (0 : Int32).toNatClampNeg (16 : Int32).toNatClampNeg)) fun s5 => ax_lt (sR s5 13 (va_cpy (s5.1 28) (s5.1 13) (0 : Int32).toNatClampNeg (0 : Int32).toNatClampNeg (8 : Int32).toNatClampNeg)) fun s6 => ax_lt (sR s6 14 (va_cpy (s6.1 29) (s6.1 14) (0 : Int32).toNatClampNeg (0 : Int32).toNatClampNeg (8 : Int32).toNatClampNeg)) fun s7 => ax_lt (sR s7 15 (va_cpy (s7.1 30) (s7.1 15) (0 : Int32).toNatClampNeg (0 : Int32).toNatClampNeg (8 : Int32).toNatClampNeg)) fun s8 => ax_lt (sR s8 16 (va_cpy (s8.1 31) (s8.1 16) (0 : Int32).toNatClampNeg (0 : Int32).toNatClampNeg (8 : Int32).toNatClampNeg)) fun s9 => some (none, s9)) := by
  refine (E_al c_62_0 rfl (by decide)).trans ?_
  refine (E_al c_62_1 rfl (by decide)).trans ?_
  refine (E_gfi (k := 0) c_62_2 sh_23 rfl rfl rfl (by decide)).trans ?_
  refine (E_pfzg (k := 0) c_62_5 sh_8 rfl rfl rfl).trans (ax_gd ?_)
  refine (E_al c_62_8 rfl (by decide)).trans ?_
  refine (E_al c_62_9 rfl (by decide)).trans ?_
  refine (E_gfi (k := 1) c_62_10 sh_23 rfl rfl rfl (by decide)).trans ?_
  refine (E_pfi (k := 1) c_62_13 sh_8 rfl rfl rfl).trans ?_
  refine (E_al c_62_16 rfl (by decide)).trans ?_
  refine (E_al c_62_17 rfl (by decide)).trans ?_
  refine (E_gfi (k := 6) c_62_18 sh_23 rfl rfl rfl (by decide)).trans ?_
  refine (E_pfi (k := 6) c_62_21 sh_8 rfl rfl rfl).trans ?_
  refine (E_al c_62_24 rfl (by decide)).trans ?_
  refine (E_al c_62_25 rfl (by decide)).trans ?_
  refine (E_gfi (k := 11) c_62_26 sh_23 rfl rfl rfl (by decide)).trans ?_
  refine (E_pfi (k := 11) c_62_29 sh_8 rfl rfl rfl).trans ?_
  refine ax_ltE (fun s0 => ?_)
  refine (E_al c_62_32 rfl (by decide)).trans ?_
  refine (E_al c_62_33 rfl (by decide)).trans ?_
  refine (E_gfi (k := 12) c_62_34 sh_23 rfl rfl rfl (by decide)).trans ?_
  refine (E_pfi (k := 12) c_62_37 sh_8 rfl rfl rfl).trans ?_
  refine (E_al c_62_40 rfl (by decide)).trans ?_
  refine (E_al c_62_41 rfl (by decide)).trans ?_
  refine (E_gfi (k := 13) c_62_42 sh_23 rfl rfl rfl (by decide)).trans ?_
  refine (E_pfi (k := 13) c_62_45 sh_8 rfl rfl rfl).trans ?_
  refine (E_al c_62_48 rfl (by decide)).trans ?_
  refine (E_al c_62_49 rfl (by decide)).trans ?_
  refine (E_gfi (k := 14) c_62_50 sh_23 rfl rfl rfl (by decide)).trans ?_
  refine (E_pfi (k := 14) c_62_53 sh_8 rfl rfl rfl).trans ?_
  refine ax_ltE (fun s1 => ?_)
  refine (E_al c_62_56 rfl (by decide)).trans ?_
  refine (E_gfr (k := 2) (r := 24) c_62_57 sh_23 rfl rfl rfl).trans ?_
  refine (E_ic (v := (0 : Int32)) c_62_60 (by decide)).trans ?_
  refine (E_al c_62_61 rfl (by decide)).trans ?_
  refine (E_gfr (k := 2) (r := 9) c_62_62 sh_8 rfl rfl rfl).trans ?_
  refine (E_ic (v := (0 : Int32)) c_62_65 (by decide)).trans ?_
  refine (E_ic (v := (16 : Int32)) c_62_66 (by decide)).trans ?_
  refine (E_cpy c_62_68 sh_24 sh_9 (Nat.le_of_ble_eq_true rfl) (by unfold cpOk; decide)).trans ?_
  refine ax_ltE (fun s2 => ?_)
  refine (E_al c_62_71 rfl (by decide)).trans ?_
  refine (E_gfr (k := 3) (r := 25) c_62_72 sh_23 rfl rfl rfl).trans ?_
  refine (E_ic (v := (0 : Int32)) c_62_75 (by decide)).trans ?_
  refine (E_al c_62_76 rfl (by decide)).trans ?_
  refine (E_gfr (k := 3) (r := 10) c_62_77 sh_8 rfl rfl rfl).trans ?_
  refine (E_ic (v := (0 : Int32)) c_62_80 (by decide)).trans ?_
  refine (E_ic (v := (16 : Int32)) c_62_81 (by decide)).trans ?_
  refine (E_cpy c_62_83 sh_25 sh_10 (Nat.le_of_ble_eq_true rfl) (by unfold cpOk; decide)).trans ?_
  refine ax_ltE (fun s3 => ?_)
  refine (E_al c_62_86 rfl (by decide)).trans ?_
  refine (E_gfr (k := 4) (r := 26) c_62_87 sh_23 rfl rfl rfl).trans ?_
  refine (E_ic (v := (0 : Int32)) c_62_90 (by decide)).trans ?_
  refine (E_al c_62_91 rfl (by decide)).trans ?_
  refine (E_gfr (k := 4) (r := 11) c_62_92 sh_8 rfl rfl rfl).trans ?_
  refine (E_ic (v := (0 : Int32)) c_62_95 (by decide)).trans ?_
  refine (E_ic (v := (16 : Int32)) c_62_96 (by decide)).trans ?_
  refine (E_cpy c_62_98 sh_26 sh_11 (Nat.le_of_ble_eq_true rfl) (by unfold cpOk; decide)).trans ?_
  refine ax_ltE (fun s4 => ?_)
  refine (E_al c_62_101 rfl (by decide)).trans ?_
  refine (E_gfr (k := 5) (r := 27) c_62_102 sh_23 rfl rfl rfl).trans ?_
  refine (E_ic (v := (0 : Int32)) c_62_105 (by decide)).trans ?_
  refine (E_al c_62_106 rfl (by decide)).trans ?_
  refine (E_gfr (k := 5) (r := 12) c_62_107 sh_8 rfl rfl rfl).trans ?_
  refine (E_ic (v := (0 : Int32)) c_62_110 (by decide)).trans ?_
  refine (E_ic (v := (16 : Int32)) c_62_111 (by decide)).trans ?_
  refine (E_cpy c_62_113 sh_27 sh_12 (Nat.le_of_ble_eq_true rfl) (by unfold cpOk; decide)).trans ?_
  refine ax_ltE (fun s5 => ?_)
  refine (E_al c_62_116 rfl (by decide)).trans ?_
  refine (E_gfr (k := 7) (r := 28) c_62_117 sh_23 rfl rfl rfl).trans ?_
  refine (E_ic (v := (0 : Int32)) c_62_120 (by decide)).trans ?_
  refine (E_al c_62_121 rfl (by decide)).trans ?_
  refine (E_gfr (k := 7) (r := 13) c_62_122 sh_8 rfl rfl rfl).trans ?_
  refine (E_ic (v := (0 : Int32)) c_62_125 (by decide)).trans ?_
  refine (E_ic (v := (8 : Int32)) c_62_126 (by decide)).trans ?_
  refine (E_cpy c_62_128 sh_28 sh_13 (Nat.le_of_ble_eq_true rfl) (by unfold cpOk; decide)).trans ?_
  refine ax_ltE (fun s6 => ?_)
  refine (E_al c_62_131 rfl (by decide)).trans ?_
  refine (E_gfr (k := 8) (r := 29) c_62_132 sh_23 rfl rfl rfl).trans ?_
  refine (E_ic (v := (0 : Int32)) c_62_135 (by decide)).trans ?_
  refine (E_al c_62_136 rfl (by decide)).trans ?_
  refine (E_gfr (k := 8) (r := 14) c_62_137 sh_8 rfl rfl rfl).trans ?_
  refine (E_ic (v := (0 : Int32)) c_62_140 (by decide)).trans ?_
  refine (E_ic (v := (8 : Int32)) c_62_141 (by decide)).trans ?_
  refine (E_cpy c_62_143 sh_29 sh_14 (Nat.le_of_ble_eq_true rfl) (by unfold cpOk; decide)).trans ?_
  refine ax_ltE (fun s7 => ?_)
  refine (E_al c_62_146 rfl (by decide)).trans ?_
  refine (E_gfr (k := 9) (r := 30) c_62_147 sh_23 rfl rfl rfl).trans ?_
  refine (E_ic (v := (0 : Int32)) c_62_150 (by decide)).trans ?_
  refine (E_al c_62_151 rfl (by decide)).trans ?_
  refine (E_gfr (k := 9) (r := 15) c_62_152 sh_8 rfl rfl rfl).trans ?_
  refine (E_ic (v := (0 : Int32)) c_62_155 (by decide)).trans ?_
  refine (E_ic (v := (8 : Int32)) c_62_156 (by decide)).trans ?_
  refine (E_cpy c_62_158 sh_30 sh_15 (Nat.le_of_ble_eq_true rfl) (by unfold cpOk; decide)).trans ?_
  refine ax_ltE (fun s8 => ?_)
  refine (E_al c_62_161 rfl (by decide)).trans ?_
  refine (E_gfr (k := 10) (r := 31) c_62_162 sh_23 rfl rfl rfl).trans ?_
  refine (E_ic (v := (0 : Int32)) c_62_165 (by decide)).trans ?_
  refine (E_al c_62_166 rfl (by decide)).trans ?_
  refine (E_gfr (k := 10) (r := 16) c_62_167 sh_8 rfl rfl rfl).trans ?_
  refine (E_ic (v := (0 : Int32)) c_62_170 (by decide)).trans ?_
  refine (E_ic (v := (8 : Int32)) c_62_171 (by decide)).trans ?_
  refine (E_cpy c_62_173 sh_31 sh_16 (Nat.le_of_ble_eq_true rfl) (by unfold cpOk; decide)).trans ?_
  refine ax_ltE (fun s9 => ?_)
  exact E_rV c_62_176 mi_62
set_option maxHeartbeats 4000000 in
theorem u_176_17_32 (d : Nat) (σ : ax_S) : ev sO d 176 0 [.ref 17, .ref 32] [] σ = ax_lt (sR (sI σ 17 0 (σ.1 32 0)) 18 (va_cpy ((sI σ 17 0 (σ.1 32 0)).1 33) ((sI σ 17 0 (σ.1 32 0)).1 18) (0 : Int32).toNatClampNeg (0 : Int32).toNatClampNeg (12 : Int32).toNatClampNeg)) fun s0 => ax_lt (sR s0 19 (va_cpy (s0.1 34) (s0.1 19) (0 : Int32).toNatClampNeg (0 : Int32).toNatClampNeg (12 : Int32).toNatClampNeg)) fun s1 => ax_lt (sR s1 20 (va_cpy (s1.1 35) (s1.1 20) (0 : Int32).toNatClampNeg (0 : Int32).toNatClampNeg (12 : Int32).toNatClampNeg)) fun s2 => ax_lt (sR s2 21 (va_cpy (s2.1 36) (s2.1 21) (0 : Int32).toNatClampNeg (0 : Int32).toNatClampNeg (132 : Int32).toNatClampNeg)) fun s3 => some (none, s3) := by
  refine (E_al c_176_0 rfl (by decide)).trans ?_
  refine (E_al c_176_1 rfl (by decide)).trans ?_
  refine (E_gfi (k := 0) c_176_2 sh_32 rfl rfl rfl (by decide)).trans ?_
  refine (E_pfi (k := 0) c_176_5 sh_17 rfl rfl rfl).trans ?_
  refine (E_al c_176_8 rfl (by decide)).trans ?_
  refine (E_gfr (k := 1) (r := 33) c_176_9 sh_32 rfl rfl rfl).trans ?_
  refine (E_ic (v := (0 : Int32)) c_176_12 (by decide)).trans ?_
  refine (E_al c_176_13 rfl (by decide)).trans ?_
  refine (E_gfr (k := 1) (r := 18) c_176_14 sh_17 rfl rfl rfl).trans ?_
  refine (E_ic (v := (0 : Int32)) c_176_17 (by decide)).trans ?_
  refine (E_ic (v := (12 : Int32)) c_176_18 (by decide)).trans ?_
  refine (E_cpy c_176_20 sh_33 sh_18 (Nat.le_of_ble_eq_true rfl) (by unfold cpOk; decide)).trans ?_
  refine ax_ltE (fun s0 => ?_)
  refine (E_al c_176_23 rfl (by decide)).trans ?_
  refine (E_gfr (k := 2) (r := 34) c_176_24 sh_32 rfl rfl rfl).trans ?_
  refine (E_ic (v := (0 : Int32)) c_176_27 (by decide)).trans ?_
  refine (E_al c_176_28 rfl (by decide)).trans ?_
  refine (E_gfr (k := 2) (r := 19) c_176_29 sh_17 rfl rfl rfl).trans ?_
  refine (E_ic (v := (0 : Int32)) c_176_32 (by decide)).trans ?_
  refine (E_ic (v := (12 : Int32)) c_176_33 (by decide)).trans ?_
  refine (E_cpy c_176_35 sh_34 sh_19 (Nat.le_of_ble_eq_true rfl) (by unfold cpOk; decide)).trans ?_
  refine ax_ltE (fun s1 => ?_)
  refine (E_al c_176_38 rfl (by decide)).trans ?_
  refine (E_gfr (k := 3) (r := 35) c_176_39 sh_32 rfl rfl rfl).trans ?_
  refine (E_ic (v := (0 : Int32)) c_176_42 (by decide)).trans ?_
  refine (E_al c_176_43 rfl (by decide)).trans ?_
  refine (E_gfr (k := 3) (r := 20) c_176_44 sh_17 rfl rfl rfl).trans ?_
  refine (E_ic (v := (0 : Int32)) c_176_47 (by decide)).trans ?_
  refine (E_ic (v := (12 : Int32)) c_176_48 (by decide)).trans ?_
  refine (E_cpy c_176_50 sh_35 sh_20 (Nat.le_of_ble_eq_true rfl) (by unfold cpOk; decide)).trans ?_
  refine ax_ltE (fun s2 => ?_)
  refine (E_al c_176_53 rfl (by decide)).trans ?_
  refine (E_gfr (k := 4) (r := 36) c_176_54 sh_32 rfl rfl rfl).trans ?_
  refine (E_ic (v := (0 : Int32)) c_176_57 (by decide)).trans ?_
  refine (E_al c_176_58 rfl (by decide)).trans ?_
  refine (E_gfr (k := 4) (r := 21) c_176_59 sh_17 rfl rfl rfl).trans ?_
  refine (E_ic (v := (0 : Int32)) c_176_62 (by decide)).trans ?_
  refine (E_ic (v := (132 : Int32)) c_176_63 (by decide)).trans ?_
  refine (E_cpy c_176_66 sh_36 sh_21 (Nat.le_of_ble_eq_true rfl) (by unfold cpOk; decide)).trans ?_
  refine ax_ltE (fun s3 => ?_)
  exact E_rV c_176_69 mi_176
set_option maxHeartbeats 4000000 in
theorem u_62_8_38 (d : Nat) (σ : ax_S) : ev sO d 62 0 [.ref 8, .ref 38] [] σ = gd ((σ.1 38 0) = 0 ∨ (σ.1 38 0) = 1) (ax_lt (sI (sI (sI (sI σ 8 0 (σ.1 38 0)) 8 1 ((sI σ 8 0 (σ.1 38 0)).1 38 1)) 8 6 ((sI (sI σ 8 0 (σ.1 38 0)) 8 1 ((sI σ 8 0 (σ.1 38 0)).1 38 1)).1 38 6)) 8 11 ((sI (sI (sI σ 8 0 (σ.1 38 0)) 8 1 ((sI σ 8 0 (σ.1 38 0)).1 38 1)) 8 6 ((sI (sI σ 8 0 (σ.1 38 0)) 8 1 ((sI σ 8 0 (σ.1 38 0)).1 38 1)).1 38 6)).1 38 11)) fun s0 => ax_lt (sI (sI (sI s0 8 12 (s0.1 38 12)) 8 13 ((sI s0 8 12 (s0.1 38 12)).1 38 13)) 8 14 ((sI (sI s0 8 12 (s0.1 38 12)) 8 13 ((sI s0 8 12 (s0.1 38 12)).1 38 13)).1 38 14)) fun s1 => ax_lt (sR s1 9 (va_cpy (s1.1 39) (s1.1 9) (0 : Int32).toNatClampNeg (0 : Int32).toNatClampNeg (16 : Int32).toNatClampNeg)) fun s2 => ax_lt (sR s2 10 (va_cpy (s2.1 40) (s2.1 10) (0 : Int32).toNatClampNeg (0 : Int32).toNatClampNeg (16 : Int32).toNatClampNeg)) fun s3 => ax_lt (sR s3 11 (va_cpy (s3.1 41) (s3.1 11) (0 : Int32).toNatClampNeg (0 : Int32).toNatClampNeg (16 : Int32).toNatClampNeg)) fun s4 => ax_lt (sR s4 12 (va_cpy (s4.1 42) (s4.1 12) (0 : Int32).toNatClampNeg (0 : Int32).toNatClampNeg (16 : Int32).toNatClampNeg)) fun s5 => ax_lt (sR s5 13 (va_cpy (s5.1 43) (s5.1 13) (0 : Int32).toNatClampNeg (0 : Int32).toNatClampNeg (8 : Int32).toNatClampNeg)) fun s6 => ax_lt (sR s6 14 (va_cpy (s6.1 44) (s6.1 14) (0 : Int32).toNatClampNeg (0 : Int32).toNatClampNeg (8 : Int32).toNatClampNeg)) fun s7 => ax_lt (sR s7 15 (va_cpy (s7.1 45) (s7.1 15) (0 : Int32).toNatClampNeg (0 : Int32).toNatClampNeg (8 : Int32).toNatClampNeg)) fun s8 => ax_lt (sR s8 16 (va_cpy (s8.1 46) (s8.1 16) (0 : Int32).toNatClampNeg (0 : Int32).toNatClampNeg (8 : Int32).toNatClampNeg)) fun s9 => some (none, s9)) := by
  refine (E_al c_62_0 rfl (by decide)).trans ?_
  refine (E_al c_62_1 rfl (by decide)).trans ?_
  refine (E_gfi (k := 0) c_62_2 sh_38 rfl rfl rfl (by decide)).trans ?_
  refine (E_pfzg (k := 0) c_62_5 sh_8 rfl rfl rfl).trans (ax_gd ?_)
  refine (E_al c_62_8 rfl (by decide)).trans ?_
  refine (E_al c_62_9 rfl (by decide)).trans ?_
  refine (E_gfi (k := 1) c_62_10 sh_38 rfl rfl rfl (by decide)).trans ?_
  refine (E_pfi (k := 1) c_62_13 sh_8 rfl rfl rfl).trans ?_
  refine (E_al c_62_16 rfl (by decide)).trans ?_
  refine (E_al c_62_17 rfl (by decide)).trans ?_
  refine (E_gfi (k := 6) c_62_18 sh_38 rfl rfl rfl (by decide)).trans ?_
  refine (E_pfi (k := 6) c_62_21 sh_8 rfl rfl rfl).trans ?_
  refine (E_al c_62_24 rfl (by decide)).trans ?_
  refine (E_al c_62_25 rfl (by decide)).trans ?_
  refine (E_gfi (k := 11) c_62_26 sh_38 rfl rfl rfl (by decide)).trans ?_
  refine (E_pfi (k := 11) c_62_29 sh_8 rfl rfl rfl).trans ?_
  refine ax_ltE (fun s0 => ?_)
  refine (E_al c_62_32 rfl (by decide)).trans ?_
  refine (E_al c_62_33 rfl (by decide)).trans ?_
  refine (E_gfi (k := 12) c_62_34 sh_38 rfl rfl rfl (by decide)).trans ?_
  refine (E_pfi (k := 12) c_62_37 sh_8 rfl rfl rfl).trans ?_
  refine (E_al c_62_40 rfl (by decide)).trans ?_
  refine (E_al c_62_41 rfl (by decide)).trans ?_
  refine (E_gfi (k := 13) c_62_42 sh_38 rfl rfl rfl (by decide)).trans ?_
  refine (E_pfi (k := 13) c_62_45 sh_8 rfl rfl rfl).trans ?_
  refine (E_al c_62_48 rfl (by decide)).trans ?_
  refine (E_al c_62_49 rfl (by decide)).trans ?_
  refine (E_gfi (k := 14) c_62_50 sh_38 rfl rfl rfl (by decide)).trans ?_
  refine (E_pfi (k := 14) c_62_53 sh_8 rfl rfl rfl).trans ?_
  refine ax_ltE (fun s1 => ?_)
  refine (E_al c_62_56 rfl (by decide)).trans ?_
  refine (E_gfr (k := 2) (r := 39) c_62_57 sh_38 rfl rfl rfl).trans ?_
  refine (E_ic (v := (0 : Int32)) c_62_60 (by decide)).trans ?_
  refine (E_al c_62_61 rfl (by decide)).trans ?_
  refine (E_gfr (k := 2) (r := 9) c_62_62 sh_8 rfl rfl rfl).trans ?_
  refine (E_ic (v := (0 : Int32)) c_62_65 (by decide)).trans ?_
  refine (E_ic (v := (16 : Int32)) c_62_66 (by decide)).trans ?_
  refine (E_cpy c_62_68 sh_39 sh_9 (Nat.le_of_ble_eq_true rfl) (by unfold cpOk; decide)).trans ?_
  refine ax_ltE (fun s2 => ?_)
  refine (E_al c_62_71 rfl (by decide)).trans ?_
  refine (E_gfr (k := 3) (r := 40) c_62_72 sh_38 rfl rfl rfl).trans ?_
  refine (E_ic (v := (0 : Int32)) c_62_75 (by decide)).trans ?_
  refine (E_al c_62_76 rfl (by decide)).trans ?_
  refine (E_gfr (k := 3) (r := 10) c_62_77 sh_8 rfl rfl rfl).trans ?_
  refine (E_ic (v := (0 : Int32)) c_62_80 (by decide)).trans ?_
  refine (E_ic (v := (16 : Int32)) c_62_81 (by decide)).trans ?_
  refine (E_cpy c_62_83 sh_40 sh_10 (Nat.le_of_ble_eq_true rfl) (by unfold cpOk; decide)).trans ?_
  refine ax_ltE (fun s3 => ?_)
  refine (E_al c_62_86 rfl (by decide)).trans ?_
  refine (E_gfr (k := 4) (r := 41) c_62_87 sh_38 rfl rfl rfl).trans ?_
  refine (E_ic (v := (0 : Int32)) c_62_90 (by decide)).trans ?_
  refine (E_al c_62_91 rfl (by decide)).trans ?_
  refine (E_gfr (k := 4) (r := 11) c_62_92 sh_8 rfl rfl rfl).trans ?_
  refine (E_ic (v := (0 : Int32)) c_62_95 (by decide)).trans ?_
  refine (E_ic (v := (16 : Int32)) c_62_96 (by decide)).trans ?_
  refine (E_cpy c_62_98 sh_41 sh_11 (Nat.le_of_ble_eq_true rfl) (by unfold cpOk; decide)).trans ?_
  refine ax_ltE (fun s4 => ?_)
  refine (E_al c_62_101 rfl (by decide)).trans ?_
  refine (E_gfr (k := 5) (r := 42) c_62_102 sh_38 rfl rfl rfl).trans ?_
  refine (E_ic (v := (0 : Int32)) c_62_105 (by decide)).trans ?_
  refine (E_al c_62_106 rfl (by decide)).trans ?_
  refine (E_gfr (k := 5) (r := 12) c_62_107 sh_8 rfl rfl rfl).trans ?_
  refine (E_ic (v := (0 : Int32)) c_62_110 (by decide)).trans ?_
  refine (E_ic (v := (16 : Int32)) c_62_111 (by decide)).trans ?_
  refine (E_cpy c_62_113 sh_42 sh_12 (Nat.le_of_ble_eq_true rfl) (by unfold cpOk; decide)).trans ?_
  refine ax_ltE (fun s5 => ?_)
  refine (E_al c_62_116 rfl (by decide)).trans ?_
  refine (E_gfr (k := 7) (r := 43) c_62_117 sh_38 rfl rfl rfl).trans ?_
  refine (E_ic (v := (0 : Int32)) c_62_120 (by decide)).trans ?_
  refine (E_al c_62_121 rfl (by decide)).trans ?_
  refine (E_gfr (k := 7) (r := 13) c_62_122 sh_8 rfl rfl rfl).trans ?_
  refine (E_ic (v := (0 : Int32)) c_62_125 (by decide)).trans ?_
  refine (E_ic (v := (8 : Int32)) c_62_126 (by decide)).trans ?_
  refine (E_cpy c_62_128 sh_43 sh_13 (Nat.le_of_ble_eq_true rfl) (by unfold cpOk; decide)).trans ?_
  refine ax_ltE (fun s6 => ?_)
  refine (E_al c_62_131 rfl (by decide)).trans ?_
  refine (E_gfr (k := 8) (r := 44) c_62_132 sh_38 rfl rfl rfl).trans ?_
  refine (E_ic (v := (0 : Int32)) c_62_135 (by decide)).trans ?_
  refine (E_al c_62_136 rfl (by decide)).trans ?_
  refine (E_gfr (k := 8) (r := 14) c_62_137 sh_8 rfl rfl rfl).trans ?_
  refine (E_ic (v := (0 : Int32)) c_62_140 (by decide)).trans ?_
  refine (E_ic (v := (8 : Int32)) c_62_141 (by decide)).trans ?_
  refine (E_cpy c_62_143 sh_44 sh_14 (Nat.le_of_ble_eq_true rfl) (by unfold cpOk; decide)).trans ?_
  refine ax_ltE (fun s7 => ?_)
  refine (E_al c_62_146 rfl (by decide)).trans ?_
  refine (E_gfr (k := 9) (r := 45) c_62_147 sh_38 rfl rfl rfl).trans ?_
  refine (E_ic (v := (0 : Int32)) c_62_150 (by decide)).trans ?_
  refine (E_al c_62_151 rfl (by decide)).trans ?_
  refine (E_gfr (k := 9) (r := 15) c_62_152 sh_8 rfl rfl rfl).trans ?_
  refine (E_ic (v := (0 : Int32)) c_62_155 (by decide)).trans ?_
  refine (E_ic (v := (8 : Int32)) c_62_156 (by decide)).trans ?_
  refine (E_cpy c_62_158 sh_45 sh_15 (Nat.le_of_ble_eq_true rfl) (by unfold cpOk; decide)).trans ?_
  refine ax_ltE (fun s8 => ?_)
  refine (E_al c_62_161 rfl (by decide)).trans ?_
  refine (E_gfr (k := 10) (r := 46) c_62_162 sh_38 rfl rfl rfl).trans ?_
  refine (E_ic (v := (0 : Int32)) c_62_165 (by decide)).trans ?_
  refine (E_al c_62_166 rfl (by decide)).trans ?_
  refine (E_gfr (k := 10) (r := 16) c_62_167 sh_8 rfl rfl rfl).trans ?_
  refine (E_ic (v := (0 : Int32)) c_62_170 (by decide)).trans ?_
  refine (E_ic (v := (8 : Int32)) c_62_171 (by decide)).trans ?_
  refine (E_cpy c_62_173 sh_46 sh_16 (Nat.le_of_ble_eq_true rfl) (by unfold cpOk; decide)).trans ?_
  refine ax_ltE (fun s9 => ?_)
  exact E_rV c_62_176 mi_62
