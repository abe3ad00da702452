set_option maxHeartbeats 4000000 in
theorem u_159_0 (d : Nat) (σ : ax_S) (x1 : Int32) (x2 : Int32) : ev sO (d + 3) 159 0 [.ref 0, .int x1, .int x2, .null, .null] [] σ = (cI sO (d + 2) 84 [.ref 17, .int x1] σ).bind fun u0 => if u0.1 = 0 then (some (some (.long (-9000000000000000001 : Int64)), u0.2)) else (if x2 < 0 then (some (some (.long (-9000000000000000001 : Int64)), u0.2)) else (if (1 : Int32) < x2 then (some (some (.long (-9000000000000000001 : Int64)), u0.2)) else ((cI sO (d + 2) 160 [.ref 7, .int x1] u0.2).bind fun u1 => (cI sO (d + 2) 162 [.ref 7, .int x1] u1.2).bind fun u2 => if u1.1 = (-1000000 : Int32) then (some (some (.long (-1000000 : Int64)), u2.2)) else (if u2.1 < u1.1 then (some (some (.long (-1000000 : Int64)), u2.2)) else (if x2 = 0 then (some (some (.long u1.1.toInt64), u2.2)) else (some (some (.long u2.1.toInt64), u2.2))))))) := by
  refine (E_al c_159_0 rfl (by decide)).trans ?_
  refine (E_gfr (k := 2) (r := 7) c_159_1 sh_0 rfl rfl rfl).trans ?_
  refine (E_gfr (k := 1) (r := 17) c_159_4 sh_7 rfl rfl rfl).trans ?_
  refine (E_il c_159_7 rfl).trans ?_
  refine (E_cIV c_159_8 mi_84 rfl rfl (sO_kl sh_17) (Nat.le_of_ble_eq_true rfl) (Nat.le_of_ble_eq_true rfl)).trans (ax_bnd fun u0 => ?_)
  refine (E_b0_eq (q := 23) c_159_11 rfl).trans (ax_ite ?_ ?_)
  · refine (E_l2 (v := (-9000000000000000001 : Int64)) c_159_23 (by decide)).trans ?_
    exact E_rL c_159_26 mi_159
  · refine (E_il c_159_14 rfl).trans ?_
    refine (E_b0_lt (q := 23) c_159_15 rfl).trans (ax_ite ?_ ?_)
    · refine (E_l2 (v := (-9000000000000000001 : Int64)) c_159_23 (by decide)).trans ?_
      exact E_rL c_159_26 mi_159
    · refine (E_il c_159_18 rfl).trans ?_
      refine (E_ic (v := (1 : Int32)) c_159_19 (by decide)).trans ?_
      refine (E_br_le (q := 27) c_159_20 rfl).trans (ax_ite ?_ ?_)
      · refine (E_l2 (v := (-9000000000000000001 : Int64)) c_159_23 (by decide)).trans ?_
        exact E_rL c_159_26 mi_159
      · refine (E_al c_159_27 rfl (by decide)).trans ?_
        refine (E_gfr (k := 2) (r := 7) c_159_28 sh_0 rfl rfl rfl).trans ?_
        refine (E_il c_159_31 rfl).trans ?_
        refine (E_cIV c_159_32 mi_160 rfl rfl (sO_kl sh_7) (Nat.le_of_ble_eq_true rfl) (Nat.le_of_ble_eq_true rfl)).trans (ax_bnd fun u1 => ?_)
        refine (E_is (L' := [.ref 0, .int x1, .int x2, .int u1.1, .null]) c_159_35 (Nat.le_of_ble_eq_true rfl) rfl).trans ?_
        refine (E_al c_159_36 rfl (by decide)).trans ?_
        refine (E_gfr (k := 2) (r := 7) c_159_37 sh_0 rfl rfl rfl).trans ?_
        refine (E_il c_159_40 rfl).trans ?_
        refine (E_cIV c_159_41 mi_162 rfl rfl (sO_kl sh_7) (Nat.le_of_ble_eq_true rfl) (Nat.le_of_ble_eq_true rfl)).trans (ax_bnd fun u2 => ?_)
        refine (E_is (L' := [.ref 0, .int x1, .int x2, .int u1.1, .int u2.1]) c_159_44 (Nat.le_of_ble_eq_true rfl) rfl).trans ?_
        refine (E_il c_159_46 rfl).trans ?_
        refine (E_ic (v := (-1000000 : Int32)) c_159_47 (by decide)).trans ?_
        refine (E_br_eq (q := 58) c_159_49 rfl).trans (ax_ite ?_ ?_)
        · refine (E_l2 (v := (-1000000 : Int64)) c_159_58 (by decide)).trans ?_
          exact E_rL c_159_61 mi_159
        · refine (E_il c_159_52 rfl).trans ?_
          refine (E_il c_159_53 rfl).trans ?_
          refine (E_br_le (q := 62) c_159_55 rfl).trans (ax_ite ?_ ?_)
          · refine (E_l2 (v := (-1000000 : Int64)) c_159_58 (by decide)).trans ?_
            exact E_rL c_159_61 mi_159
          · refine (E_il c_159_62 rfl).trans ?_
            refine (E_b0_ne (q := 71) c_159_63 rfl).trans (ax_ite ?_ ?_)
            · refine (E_il c_159_66 rfl).trans ?_
              refine (E_i2l c_159_67).trans ?_
              refine (E_goto (q := 74) c_159_68 rfl).trans ?_
              exact E_rL c_159_74 mi_159
            · refine (E_il c_159_71 rfl).trans ?_
              refine (E_i2l c_159_73).trans ?_
              exact E_rL c_159_74 mi_159
set_option maxHeartbeats 4000000 in
theorem u_269_82 (d : Nat) (σ : ax_S) (x1 : Int32) (x2 : Int32) : ev sO (d + 3) 269 0 [.ref 82, .int x1, .int x2, .null, .null, .null, .null] [] σ = (cI sO (d + 2) 231 [.ref 82, .int x1] (sI σ 82 0 (0 : Int32))).bind fun u0 => if u0.1 = 0 then (some (some (.long (-9000000000000000001 : Int64)), u0.2)) else ((cI sO (d + 2) 198 [.long x2.toInt64, .long (0 : Int64), .long (1 : Int64)] u0.2).bind fun u1 => if u1.1 = 0 then (some (some (.long (-9000000000000000001 : Int64)), u1.2)) else (ev sO (d + 3) 269 37 [.ref 82, .int x1, .int x2, .int (0 : Int32), .int (9999 : Int32), .int (0 : Int32), .null] [] u1.2)) := by
  refine (E_al c_269_0 rfl (by decide)).trans ?_
  refine (E_ic (v := (0 : Int32)) c_269_1 (by decide)).trans ?_
  refine (E_pfi (k := 0) c_269_2 sh_82 rfl rfl rfl).trans ?_
  refine (E_al c_269_5 rfl (by decide)).trans ?_
  refine (E_il c_269_6 rfl).trans ?_
  refine (E_cIV c_269_7 mi_231 rfl rfl (sO_kl sh_82) (Nat.le_of_ble_eq_true rfl) (Nat.le_of_ble_eq_true rfl)).trans (ax_bnd fun u0 => ?_)
  refine (E_b0_eq (q := 23) c_269_10 rfl).trans (ax_ite ?_ ?_)
  · refine (E_l2 (v := (-9000000000000000001 : Int64)) c_269_23 (by decide)).trans ?_
    exact E_rL c_269_26 mi_269
  · refine (E_il c_269_13 rfl).trans ?_
    refine (E_i2l c_269_14).trans ?_
    refine (E_lc (v := (0 : Int64)) c_269_15 (by decide)).trans ?_
    refine (E_lc (v := (1 : Int64)) c_269_16 (by decide)).trans ?_
    refine (E_cIS c_269_17 mi_198 rfl rfl (Nat.le_of_ble_eq_true rfl) (Nat.le_of_ble_eq_true rfl)).trans (ax_bnd fun u1 => ?_)
    refine (E_b0_ne (q := 27) c_269_20 rfl).trans (ax_ite ?_ ?_)
    · refine (E_l2 (v := (-9000000000000000001 : Int64)) c_269_23 (by decide)).trans ?_
      exact E_rL c_269_26 mi_269
    · refine (E_ic (v := (0 : Int32)) c_269_27 (by decide)).trans ?_
      refine (E_is (L' := [.ref 82, .int x1, .int x2, .int (0 : Int32), .null, .null, .null]) c_269_28 (Nat.le_of_ble_eq_true rfl) rfl).trans ?_
      refine (E_ic (v := (9999 : Int32)) c_269_29 (by decide)).trans ?_
      refine (E_is (L' := [.ref 82, .int x1, .int x2, .int (0 : Int32), .int (9999 : Int32), .null, .null]) c_269_32 (Nat.le_of_ble_eq_true rfl) rfl).trans ?_
      refine (E_ic (v := (0 : Int32)) c_269_34 (by decide)).trans ?_
      refine (E_is (L' := [.ref 82, .int x1, .int x2, .int (0 : Int32), .int (9999 : Int32), .int (0 : Int32), .null]) c_269_35 (Nat.le_of_ble_eq_true rfl) rfl).trans ?_
      rfl
set_option maxHeartbeats 4000000 in
theorem u_269_82p37 (d : Nat) (σ : ax_S) (x1 : Int32) (x2 : Int32) (x3 : Int32) (x4 : Int32) (x5 : Int32) (w6 : Value) (hw6 : w6.category = 1) : ev sO (d + 3) 269 37 [.ref 82, .int x1, .int x2, .int x3, .int x4, .int x5, w6] [] σ = if x5 < (σ.1 86 1) then (gd (0 ≤ ((66 : Int32) + ((3 : Int32) * x5)).toInt ∧ ((66 : Int32) + ((3 : Int32) * x5)).toInt < (102 : Nat)) ((cI sO (d + 2) 270 [.ref 82, .int x1, .int (σ.1 86 ((66 : Int32) + ((3 : Int32) * x5)).toNatClampNeg)] σ).bind fun u0 => if u0.1 = 0 then (ev sO (d + 3) 269 37 [.ref 82, .int x1, .int x2, .int x3, .int x4, .int (x5 + (1 : Int32)), .int ((66 : Int32) + ((3 : Int32) * x5))] [] u0.2) else (gd (0 ≤ (((66 : Int32) + ((3 : Int32) * x5)) + (1 : Int32)).toInt ∧ (((66 : Int32) + ((3 : Int32) * x5)) + (1 : Int32)).toInt < (102 : Nat)) (if x3 < (u0.2.1 86 (((66 : Int32) + ((3 : Int32) * x5)) + (1 : Int32)).toNatClampNeg) then (gd (0 ≤ (((66 : Int32) + ((3 : Int32) * x5)) + (1 : Int32)).toInt ∧ (((66 : Int32) + ((3 : Int32) * x5)) + (1 : Int32)).toInt < (102 : Nat)) (gd (0 ≤ (((66 : Int32) + ((3 : Int32) * x5)) + (2 : Int32)).toInt ∧ (((66 : Int32) + ((3 : Int32) * x5)) + (2 : Int32)).toInt < (102 : Nat)) (if (u0.2.1 86 (((66 : Int32) + ((3 : Int32) * x5)) + (2 : Int32)).toNatClampNeg) < x4 then (gd (0 ≤ (((66 : Int32) + ((3 : Int32) * x5)) + (2 : Int32)).toInt ∧ (((66 : Int32) + ((3 : Int32) * x5)) + (2 : Int32)).toInt < (102 : Nat)) (ev sO (d + 3) 269 37 [.ref 82, .int x1, .int x2, .int (u0.2.1 86 (((66 : Int32) + ((3 : Int32) * x5)) + (1 : Int32)).toNatClampNeg), .int (u0.2.1 86 (((66 : Int32) + ((3 : Int32) * x5)) + (2 : Int32)).toNatClampNeg), .int (x5 + (1 : Int32)), .int ((66 : Int32) + ((3 : Int32) * x5))] [] u0.2)) else (ev sO (d + 3) 269 37 [.ref 82, .int x1, .int x2, .int (u0.2.1 86 (((66 : Int32) + ((3 : Int32) * x5)) + (1 : Int32)).toNatClampNeg), .int x4, .int (x5 + (1 : Int32)), .int ((66 : Int32) + ((3 : Int32) * x5))] [] u0.2)))) else (gd (0 ≤ (((66 : Int32) + ((3 : Int32) * x5)) + (2 : Int32)).toInt ∧ (((66 : Int32) + ((3 : Int32) * x5)) + (2 : Int32)).toInt < (102 : Nat)) (if (u0.2.1 86 (((66 : Int32) + ((3 : Int32) * x5)) + (2 : Int32)).toNatClampNeg) < x4 then (gd (0 ≤ (((66 : Int32) + ((3 : Int32) * x5)) + (2 : Int32)).toInt ∧ (((66 : Int32) + ((3 : Int32) * x5)) + (2 : Int32)).toInt < (102 : Nat)) (ev sO (d + 3) 269 37 [.ref 82, .int x1, .int x2, .int x3, .int (u0.2.1 86 (((66 : Int32) + ((3 : Int32) * x5)) + (2 : Int32)).toNatClampNeg), .int (x5 + (1 : Int32)), .int ((66 : Int32) + ((3 : Int32) * x5))] [] u0.2)) else (ev sO (d + 3) 269 37 [.ref 82, .int x1, .int x2, .int x3, .int x4, .int (x5 + (1 : Int32)), .int ((66 : Int32) + ((3 : Int32) * x5))] [] u0.2))))))) else (if x3 = 0 then (some (some (.long (-1000000 : Int64)), σ)) else (if x4 < x3 then (some (some (.long (-1000000 : Int64)), σ)) else (if x2 = 0 then (some (some (.long x3.toInt64), σ)) else (some (some (.long x4.toInt64), σ))))) := by
  refine (E_il c_269_37 rfl).trans ?_
  refine (E_al c_269_39 rfl (by decide)).trans ?_
  refine (E_gfr (k := 5) (r := 86) c_269_40 sh_82 rfl rfl rfl).trans ?_
  refine (E_ic (v := (1 : Int32)) c_269_43 (by decide)).trans ?_
  refine (E_ialk (k := 1) c_269_44 sh_86 (by decide) (by decide)).trans ?_
  refine (E_br_ge (q := 135) c_269_45 rfl).trans (ax_ite ?_ ?_)
  · refine (E_ic (v := (66 : Int32)) c_269_48 (by decide)).trans ?_
    refine (E_ic (v := (3 : Int32)) c_269_50 (by decide)).trans ?_
    refine (E_il c_269_51 rfl).trans ?_
    refine (E_imul c_269_53).trans ?_
    refine (E_iadd c_269_54).trans ?_
    refine (E_is (L' := [.ref 82, .int x1, .int x2, .int x3, .int x4, .int x5, .int ((66 : Int32) + ((3 : Int32) * x5))]) c_269_55 (Nat.le_of_ble_eq_true rfl) rfl).trans ?_
    refine (E_al c_269_57 rfl (by decide)).trans ?_
    refine (E_il c_269_58 rfl).trans ?_
    refine (E_al c_269_59 rfl (by decide)).trans ?_
    refine (E_gfr (k := 5) (r := 86) c_269_60 sh_82 rfl rfl rfl).trans ?_
    refine (E_il c_269_63 rfl).trans ?_
    refine (E_ial c_269_65 sh_86).trans (ax_gd ?_)
    refine (E_cIV c_269_66 mi_270 rfl rfl (sO_kl sh_82) (Nat.le_of_ble_eq_true rfl) (Nat.le_of_ble_eq_true rfl)).trans (ax_bnd fun u0 => ?_)
    refine (E_b0_eq (q := 129) c_269_69 rfl).trans (ax_ite ?_ ?_)
    · refine (E_inc (v := (1 : Int32)) (L' := [.ref 82, .int x1, .int x2, .int x3, .int x4, .int (x5 + (1 : Int32)), .int ((66 : Int32) + ((3 : Int32) * x5))]) c_269_129 rfl (by decide) rfl).trans ?_
      refine (E_goto (q := 37) c_269_132 rfl).trans ?_
      rfl
    · refine (E_al c_269_72 rfl (by decide)).trans ?_
      refine (E_gfr (k := 5) (r := 86) c_269_73 sh_82 rfl rfl rfl).trans ?_
      refine (E_il c_269_76 rfl).trans ?_
      refine (E_ic (v := (1 : Int32)) c_269_78 (by decide)).trans ?_
      refine (E_iadd c_269_79).trans ?_
      refine (E_ial c_269_80 sh_86).trans (ax_gd ?_)
      refine (E_il c_269_81 rfl).trans ?_
      refine (E_br_le (q := 97) c_269_82 rfl).trans (ax_ite ?_ ?_)
      · refine (E_al c_269_85 rfl (by decide)).trans ?_
        refine (E_gfr (k := 5) (r := 86) c_269_86 sh_82 rfl rfl rfl).trans ?_
        refine (E_il c_269_89 rfl).trans ?_
        refine (E_ic (v := (1 : Int32)) c_269_91 (by decide)).trans ?_
        refine (E_iadd c_269_92).trans ?_
        refine (E_ial c_269_93 sh_86).trans (ax_gd ?_)
        refine (E_goto (q := 98) c_269_94 rfl).trans ?_
        refine (E_is (L' := [.ref 82, .int x1, .int x2, .int (u0.2.1 86 (((66 : Int32) + ((3 : Int32) * x5)) + (1 : Int32)).toNatClampNeg), .int x4, .int x5, .int ((66 : Int32) + ((3 : Int32) * x5))]) c_269_98 (Nat.le_of_ble_eq_true rfl) rfl).trans ?_
        refine (E_al c_269_99 rfl (by decide)).trans ?_
        refine (E_gfr (k := 5) (r := 86) c_269_100 sh_82 rfl rfl rfl).trans ?_
        refine (E_il c_269_103 rfl).trans ?_
        refine (E_ic (v := (2 : Int32)) c_269_105 (by decide)).trans ?_
        refine (E_iadd c_269_106).trans ?_
        refine (E_ial c_269_107 sh_86).trans (ax_gd ?_)
        refine (E_il c_269_108 rfl).trans ?_
        refine (E_br_ge (q := 125) c_269_110 rfl).trans (ax_ite ?_ ?_)
        · refine (E_al c_269_113 rfl (by decide)).trans ?_
          refine (E_gfr (k := 5) (r := 86) c_269_114 sh_82 rfl rfl rfl).trans ?_
          refine (E_il c_269_117 rfl).trans ?_
          refine (E_ic (v := (2 : Int32)) c_269_119 (by decide)).trans ?_
          refine (E_iadd c_269_120).trans ?_
          refine (E_ial c_269_121 sh_86).trans (ax_gd ?_)
          refine (E_goto (q := 127) c_269_122 rfl).trans ?_
          refine (E_is (L' := [.ref 82, .int x1, .int x2, .int (u0.2.1 86 (((66 : Int32) + ((3 : Int32) * x5)) + (1 : Int32)).toNatClampNeg), .int (u0.2.1 86 (((66 : Int32) + ((3 : Int32) * x5)) + (2 : Int32)).toNatClampNeg), .int x5, .int ((66 : Int32) + ((3 : Int32) * x5))]) c_269_127 (Nat.le_of_ble_eq_true rfl) rfl).trans ?_
          refine (E_inc (v := (1 : Int32)) (L' := [.ref 82, .int x1, .int x2, .int (u0.2.1 86 (((66 : Int32) + ((3 : Int32) * x5)) + (1 : Int32)).toNatClampNeg), .int (u0.2.1 86 (((66 : Int32) + ((3 : Int32) * x5)) + (2 : Int32)).toNatClampNeg), .int (x5 + (1 : Int32)), .int ((66 : Int32) + ((3 : Int32) * x5))]) c_269_129 rfl (by decide) rfl).trans ?_
          refine (E_goto (q := 37) c_269_132 rfl).trans ?_
          rfl
        · refine (E_il c_269_125 rfl).trans ?_
          refine (E_is (L' := [.ref 82, .int x1, .int x2, .int (u0.2.1 86 (((66 : Int32) + ((3 : Int32) * x5)) + (1 : Int32)).toNatClampNeg), .int x4, .int x5, .int ((66 : Int32) + ((3 : Int32) * x5))]) c_269_127 (Nat.le_of_ble_eq_true rfl) rfl).trans ?_
          refine (E_inc (v := (1 : Int32)) (L' := [.ref 82, .int x1, .int x2, .int (u0.2.1 86 (((66 : Int32) + ((3 : Int32) * x5)) + (1 : Int32)).toNatClampNeg), .int x4, .int (x5 + (1 : Int32)), .int ((66 : Int32) + ((3 : Int32) * x5))]) c_269_129 rfl (by decide) rfl).trans ?_
          refine (E_goto (q := 37) c_269_132 rfl).trans ?_
          rfl
      · refine (E_il c_269_97 rfl).trans ?_
        refine (E_is (L' := [.ref 82, .int x1, .int x2, .int x3, .int x4, .int x5, .int ((66 : Int32) + ((3 : Int32) * x5))]) c_269_98 (Nat.le_of_ble_eq_true rfl) rfl).trans ?_
        refine (E_al c_269_99 rfl (by decide)).trans ?_
        refine (E_gfr (k := 5) (r := 86) c_269_100 sh_82 rfl rfl rfl).trans ?_
        refine (E_il c_269_103 rfl).trans ?_
        refine (E_ic (v := (2 : Int32)) c_269_105 (by decide)).trans ?_
        refine (E_iadd c_269_106).trans ?_
        refine (E_ial c_269_107 sh_86).trans (ax_gd ?_)
        refine (E_il c_269_108 rfl).trans ?_
        refine (E_br_ge (q := 125) c_269_110 rfl).trans (ax_ite ?_ ?_)
        · refine (E_al c_269_113 rfl (by decide)).trans ?_
          refine (E_gfr (k := 5) (r := 86) c_269_114 sh_82 rfl rfl rfl).trans ?_
          refine (E_il c_269_117 rfl).trans ?_
          refine (E_ic (v := (2 : Int32)) c_269_119 (by decide)).trans ?_
          refine (E_iadd c_269_120).trans ?_
          refine (E_ial c_269_121 sh_86).trans (ax_gd ?_)
          refine (E_goto (q := 127) c_269_122 rfl).trans ?_
          refine (E_is (L' := [.ref 82, .int x1, .int x2, .int x3, .int (u0.2.1 86 (((66 : Int32) + ((3 : Int32) * x5)) + (2 : Int32)).toNatClampNeg), .int x5, .int ((66 : Int32) + ((3 : Int32) * x5))]) c_269_127 (Nat.le_of_ble_eq_true rfl) rfl).trans ?_
          refine (E_inc (v := (1 : Int32)) (L' := [.ref 82, .int x1, .int x2, .int x3, .int (u0.2.1 86 (((66 : Int32) + ((3 : Int32) * x5)) + (2 : Int32)).toNatClampNeg), .int (x5 + (1 : Int32)), .int ((66 : Int32) + ((3 : Int32) * x5))]) c_269_129 rfl (by decide) rfl).trans ?_
          refine (E_goto (q := 37) c_269_132 rfl).trans ?_
          rfl
        · refine (E_il c_269_125 rfl).trans ?_
          refine (E_is (L' := [.ref 82, .int x1, .int x2, .int x3, .int x4, .int x5, .int ((66 : Int32) + ((3 : Int32) * x5))]) c_269_127 (Nat.le_of_ble_eq_true rfl) rfl).trans ?_
          refine (E_inc (v := (1 : Int32)) (L' := [.ref 82, .int x1, .int x2, .int x3, .int x4, .int (x5 + (1 : Int32)), .int ((66 : Int32) + ((3 : Int32) * x5))]) c_269_129 rfl (by decide) rfl).trans ?_
          refine (E_goto (q := 37) c_269_132 rfl).trans ?_
          rfl
  · refine (E_il c_269_135 rfl).trans ?_
    refine (E_b0_eq (q := 145) c_269_136 rfl).trans (ax_ite ?_ ?_)
    · refine (E_l2 (v := (-1000000 : Int64)) c_269_145 (by decide)).trans ?_
      refine (E_goto (q := 163) c_269_148 rfl).trans ?_
      exact E_rL c_269_163 mi_269
    · refine (E_il c_269_139 rfl).trans ?_
      refine (E_il c_269_140 rfl).trans ?_
      refine (E_br_le (q := 151) c_269_142 rfl).trans (ax_ite ?_ ?_)
      · refine (E_l2 (v := (-1000000 : Int64)) c_269_145 (by decide)).trans ?_
        refine (E_goto (q := 163) c_269_148 rfl).trans ?_
        exact E_rL c_269_163 mi_269
      · refine (E_il c_269_151 rfl).trans ?_
        refine (E_b0_ne (q := 160) c_269_152 rfl).trans (ax_ite ?_ ?_)
        · refine (E_il c_269_155 rfl).trans ?_
          refine (E_i2l c_269_156).trans ?_
          refine (E_goto (q := 163) c_269_157 rfl).trans ?_
          exact E_rL c_269_163 mi_269
        · refine (E_il c_269_160 rfl).trans ?_
          refine (E_i2l c_269_162).trans ?_
          exact E_rL c_269_163 mi_269
set_option maxHeartbeats 4000000 in
theorem u_164_0 (d : Nat) (σ : ax_S) (x1 : Int32) (x2 : Int32) : ev sO (d + 3) 164 0 [.ref 0, .int x1, .int x2] [] σ = (cI sO (d + 2) 84 [.ref 17, .int x1] σ).bind fun u0 => if u0.1 = 0 then (some (some (.long (-9000000000000000001 : Int64)), u0.2)) else ((cI sO (d + 2) 74 [.int x2] u0.2).bind fun u1 => if u1.1 = 0 then (some (some (.long (-9000000000000000001 : Int64)), u1.2)) else ((cI sO (d + 2) 165 [.ref 17, .int x1, .int x2] u1.2).bind fun u2 => some (some (.long u2.1.toInt64), u2.2))) := by
  refine (E_al c_164_0 rfl (by decide)).trans ?_
  refine (E_gfr (k := 2) (r := 7) c_164_1 sh_0 rfl rfl rfl).trans ?_
  refine (E_gfr (k := 1) (r := 17) c_164_4 sh_7 rfl rfl rfl).trans ?_
  refine (E_il c_164_7 rfl).trans ?_
  refine (E_cIV c_164_8 mi_84 rfl rfl (sO_kl sh_17) (Nat.le_of_ble_eq_true rfl) (Nat.le_of_ble_eq_true rfl)).trans (ax_bnd fun u0 => ?_)
  refine (E_b0_eq (q := 21) c_164_11 rfl).trans (ax_ite ?_ ?_)
  · refine (E_l2 (v := (-9000000000000000001 : Int64)) c_164_21 (by decide)).trans ?_
    exact E_rL c_164_24 mi_164
  · refine (E_il c_164_14 rfl).trans ?_
    refine (E_cIS c_164_15 mi_74 rfl rfl (Nat.le_of_ble_eq_true rfl) (Nat.le_of_ble_eq_true rfl)).trans (ax_bnd fun u1 => ?_)
    refine (E_b0_ne (q := 25) c_164_18 rfl).trans (ax_ite ?_ ?_)
    · refine (E_l2 (v := (-9000000000000000001 : Int64)) c_164_21 (by decide)).trans ?_
      exact E_rL c_164_24 mi_164
    · refine (E_al c_164_25 rfl (by decide)).trans ?_
      refine (E_gfr (k := 2) (r := 7) c_164_26 sh_0 rfl rfl rfl).trans ?_
      refine (E_gfr (k := 1) (r := 17) c_164_29 sh_7 rfl rfl rfl).trans ?_
      refine (E_il c_164_32 rfl).trans ?_
      refine (E_il c_164_33 rfl).trans ?_
      refine (E_cIV c_164_34 mi_165 rfl rfl (sO_kl sh_17) (Nat.le_of_ble_eq_true rfl) (Nat.le_of_ble_eq_true rfl)).trans (ax_bnd fun u2 => ?_)
      refine (E_i2l c_164_37).trans ?_
      exact E_rL c_164_38 mi_164
set_option maxHeartbeats 4000000 in
theorem u_271_82 (d : Nat) (σ : ax_S) (x1 : Int32) (x2 : Int32) : ev sO (d + 4) 271 0 [.ref 82, .int x1, .int x2] [] σ = (cI sO (d + 3) 231 [.ref 82, .int x1] (sI σ 82 0 (0 : Int32))).bind fun u0 => if u0.1 = 0 then (some (some (.long (-9000000000000000001 : Int64)), u0.2)) else ((cI sO (d + 3) 272 [.int x2] u0.2).bind fun u1 => if u1.1 = 0 then (some (some (.long (-9000000000000000001 : Int64)), u1.2)) else ((cI sO (d + 3) 273 [.ref 82, .int x1, .int x2] u1.2).bind fun u2 => some (some (.long u2.1.toInt64), u2.2))) := by
  refine (E_al c_271_0 rfl (by decide)).trans ?_
  refine (E_ic (v := (0 : Int32)) c_271_1 (by decide)).trans ?_
  refine (E_pfi (k := 0) c_271_2 sh_82 rfl rfl rfl).trans ?_
  refine (E_al c_271_5 rfl (by decide)).trans ?_
  refine (E_il c_271_6 rfl).trans ?_
  refine (E_cIV c_271_7 mi_231 rfl rfl (sO_kl sh_82) (Nat.le_of_ble_eq_true rfl) (Nat.le_of_ble_eq_true rfl)).trans (ax_bnd fun u0 => ?_)
  refine (E_b0_eq (q := 30) c_271_10 rfl).trans (ax_ite ?_ ?_)
  · refine (E_l2 (v := (-9000000000000000001 : Int64)) c_271_30 (by decide)).trans ?_
    exact E_rL c_271_33 mi_271
  · refine (E_il c_271_13 rfl).trans ?_
    refine (E_cIS c_271_14 mi_272 rfl rfl (Nat.le_of_ble_eq_true rfl) (Nat.le_of_ble_eq_true rfl)).trans (ax_bnd fun u1 => ?_)
    refine (E_b0_eq (q := 30) c_271_17 rfl).trans (ax_ite ?_ ?_)
    · refine (E_l2 (v := (-9000000000000000001 : Int64)) c_271_30 (by decide)).trans ?_
      exact E_rL c_271_33 mi_271
    · refine (E_al c_271_20 rfl (by decide)).trans ?_
      refine (E_il c_271_21 rfl).trans ?_
      refine (E_il c_271_22 rfl).trans ?_
      refine (E_cIV c_271_23 mi_273 rfl rfl (sO_kl sh_82) (Nat.le_of_ble_eq_true rfl) (Nat.le_of_ble_eq_true rfl)).trans (ax_bnd fun u2 => ?_)
      refine (E_i2l c_271_26).trans ?_
      refine (E_goto (q := 33) c_271_27 rfl).trans ?_
      exact E_rL c_271_33 mi_271
set_option maxHeartbeats 4000000 in
theorem u_166_0 (d : Nat) (σ : ax_S) (x1 : Int32) (x2 : Int32) (x3 : Int32) : ev sO (d + 3) 166 0 [.ref 0, .int x1, .int x2, .int x3, .null, .null, .null, .null] [] σ = (cI sO (d + 2) 84 [.ref 17, .int x1] σ).bind fun u0 => if u0.1 = 0 then (some (some (.long (-9000000000000000001 : Int64)), u0.2)) else ((cI sO (d + 2) 74 [.int x2] u0.2).bind fun u1 => if u1.1 = 0 then (some (some (.long (-9000000000000000001 : Int64)), u1.2)) else (if x3 < (2 : Int32) then (some (some (.long (-9000000000000000001 : Int64)), u1.2)) else (if (9 : Int32) < x3 then (some (some (.long (-9000000000000000001 : Int64)), u1.2)) else ((cI sO (d + 2) 165 [.ref 17, .int x1, .int x2] u1.2).bind fun u2 => if u2.1 < 0 then (some (some (.long (-1000000 : Int64)), u2.2)) else (ev sO (d + 3) 166 65 [.ref 0, .int x1, .int x2, .int x3, .int u2.1, .long (1 : Int64), .null, .int (0 : Int32)] [] u2.2))))) := by
  refine (E_al c_166_0 rfl (by decide)).trans ?_
  refine (E_gfr (k := 2) (r := 7) c_166_1 sh_0 rfl rfl rfl).trans ?_
  refine (E_gfr (k := 1) (r := 17) c_166_4 sh_7 rfl rfl rfl).trans ?_
  refine (E_il c_166_7 rfl).trans ?_
  refine (E_cIV c_166_8 mi_84 rfl rfl (sO_kl sh_17) (Nat.le_of_ble_eq_true rfl) (Nat.le_of_ble_eq_true rfl)).trans (ax_bnd fun u0 => ?_)
  refine (E_b0_eq (q := 32) c_166_11 rfl).trans (ax_ite ?_ ?_)
  · refine (E_l2 (v := (-9000000000000000001 : Int64)) c_166_32 (by decide)).trans ?_
    exact E_rL c_166_35 mi_166
  · refine (E_il c_166_14 rfl).trans ?_
    refine (E_cIS c_166_15 mi_74 rfl rfl (Nat.le_of_ble_eq_true rfl) (Nat.le_of_ble_eq_true rfl)).trans (ax_bnd fun u1 => ?_)
    refine (E_b0_eq (q := 32) c_166_18 rfl).trans (ax_ite ?_ ?_)
    · refine (E_l2 (v := (-9000000000000000001 : Int64)) c_166_32 (by decide)).trans ?_
      exact E_rL c_166_35 mi_166
    · refine (E_il c_166_21 rfl).trans ?_
      refine (E_ic (v := (2 : Int32)) c_166_22 (by decide)).trans ?_
      refine (E_br_lt (q := 32) c_166_23 rfl).trans (ax_ite ?_ ?_)
      · refine (E_l2 (v := (-9000000000000000001 : Int64)) c_166_32 (by decide)).trans ?_
        exact E_rL c_166_35 mi_166
      · refine (E_il c_166_26 rfl).trans ?_
        refine (E_ic (v := (9 : Int32)) c_166_27 (by decide)).trans ?_
        refine (E_br_le (q := 36) c_166_29 rfl).trans (ax_ite ?_ ?_)
        · refine (E_l2 (v := (-9000000000000000001 : Int64)) c_166_32 (by decide)).trans ?_
          exact E_rL c_166_35 mi_166
        · refine (E_al c_166_36 rfl (by decide)).trans ?_
          refine (E_gfr (k := 2) (r := 7) c_166_37 sh_0 rfl rfl rfl).trans ?_
          refine (E_gfr (k := 1) (r := 17) c_166_40 sh_7 rfl rfl rfl).trans ?_
          refine (E_il c_166_43 rfl).trans ?_
          refine (E_il c_166_44 rfl).trans ?_
          refine (E_cIV c_166_45 mi_165 rfl rfl (sO_kl sh_17) (Nat.le_of_ble_eq_true rfl) (Nat.le_of_ble_eq_true rfl)).trans (ax_bnd fun u2 => ?_)
          refine (E_is (L' := [.ref 0, .int x1, .int x2, .int x3, .int u2.1, .null, .null, .null]) c_166_48 (Nat.le_of_ble_eq_true rfl) rfl).trans ?_
          refine (E_il c_166_50 rfl).trans ?_
          refine (E_b0_ge (q := 59) c_166_52 rfl).trans (ax_ite ?_ ?_)
          · refine (E_l2 (v := (-1000000 : Int64)) c_166_55 (by decide)).trans ?_
            exact E_rL c_166_58 mi_166
          · refine (E_lc (v := (1 : Int64)) c_166_59 (by decide)).trans ?_
            refine (E_lss (L' := [.ref 0, .int x1, .int x2, .int x3, .int u2.1, .long (1 : Int64), .null, .null]) c_166_60 (Nat.le_of_ble_eq_true rfl) rfl).trans ?_
            refine (E_ic (v := (0 : Int32)) c_166_62 (by decide)).trans ?_
            refine (E_is (L' := [.ref 0, .int x1, .int x2, .int x3, .int u2.1, .long (1 : Int64), .null, .int (0 : Int32)]) c_166_63 (Nat.le_of_ble_eq_true rfl) rfl).trans ?_
            rfl
set_option maxHeartbeats 4000000 in
theorem u_166_0p65 (d : Nat) (σ : ax_S) (w0 : Value) (hw0 : w0.category = 1) (w1 : Value) (hw1 : w1.category = 1) (w2 : Value) (hw2 : w2.category = 1) (x3 : Int32) (x4 : Int32) (x5 : Int64) (x7 : Int32) : ev sO (d + 3) 166 65 [w0, w1, w2, .int x3, .int x4, .long x5, .null, .int x7] [] σ = if x7 < x4 then (ev sO (d + 3) 166 65 [w0, w1, w2, .int x3, .int x4, .long (x5 * x3.toInt64), .null, .int (x7 + (1 : Int32))] [] σ) else (some (some (.long x5), σ)) := by
  refine (E_il c_166_65 rfl).trans ?_
  refine (E_il c_166_67 rfl).trans ?_
  refine (E_br_ge (q := 85) c_166_69 rfl).trans (ax_ite ?_ ?_)
  · refine (E_ll c_166_72 rfl).trans ?_
    refine (E_il c_166_74 rfl).trans ?_
    refine (E_i2l c_166_75).trans ?_
    refine (E_lmul c_166_76).trans ?_
    refine (E_lss (L' := [w0, w1, w2, .int x3, .int x4, .long (x5 * x3.toInt64), .null, .int x7]) c_166_77 (Nat.le_of_ble_eq_true rfl) rfl).trans ?_
    refine (E_inc (v := (1 : Int32)) (L' := [w0, w1, w2, .int x3, .int x4, .long (x5 * x3.toInt64), .null, .int (x7 + (1 : Int32))]) c_166_79 rfl (by decide) rfl).trans ?_
    refine (E_goto (q := 65) c_166_82 rfl).trans ?_
    rfl
  · refine (E_ll c_166_85 rfl).trans ?_
    exact E_rL c_166_87 mi_166
set_option maxHeartbeats 4000000 in
theorem u_275_82 (d : Nat) (σ : ax_S) (x1 : Int32) (x2 : Int32) (x3 : Int32) : ev sO (d + 4) 275 0 [.ref 82, .int x1, .int x2, .int x3, .null, .null, .null, .null] [] σ = (cI sO (d + 3) 231 [.ref 82, .int x1] (sI σ 82 0 (0 : Int32))).bind fun u0 => if u0.1 = 0 then (some (some (.long (-9000000000000000001 : Int64)), u0.2)) else ((cI sO (d + 3) 272 [.int x2] u0.2).bind fun u1 => if u1.1 = 0 then (some (some (.long (-9000000000000000001 : Int64)), u1.2)) else ((cI sO (d + 3) 198 [.long x3.toInt64, .long (2 : Int64), .long (9 : Int64)] u1.2).bind fun u2 => if u2.1 = 0 then (some (some (.long (-9000000000000000001 : Int64)), u2.2)) else ((cI sO (d + 3) 273 [.ref 82, .int x1, .int x2] u2.2).bind fun u3 => ev sO (d + 4) 275 52 [.ref 82, .int x1, .int x2, .int x3, .int u3.1, .long (1 : Int64), .null, .int (0 : Int32)] [] u3.2))) := by
  refine (E_al c_275_0 rfl (by decide)).trans ?_
  refine (E_ic (v := (0 : Int32)) c_275_1 (by decide)).trans ?_
  refine (E_pfi (k := 0) c_275_2 sh_82 rfl rfl rfl).trans ?_
  refine (E_al c_275_5 rfl (by decide)).trans ?_
  refine (E_il c_275_6 rfl).trans ?_
  refine (E_cIV c_275_7 mi_231 rfl rfl (sO_kl sh_82) (Nat.le_of_ble_eq_true rfl) (Nat.le_of_ble_eq_true rfl)).trans (ax_bnd fun u0 => ?_)
  refine (E_b0_eq (q := 34) c_275_10 rfl).trans (ax_ite ?_ ?_)
  · refine (E_l2 (v := (-9000000000000000001 : Int64)) c_275_34 (by decide)).trans ?_
    exact E_rL c_275_37 mi_275
  · refine (E_il c_275_13 rfl).trans ?_
    refine (E_cIS c_275_14 mi_272 rfl rfl (Nat.le_of_ble_eq_true rfl) (Nat.le_of_ble_eq_true rfl)).trans (ax_bnd fun u1 => ?_)
    refine (E_b0_eq (q := 34) c_275_17 rfl).trans (ax_ite ?_ ?_)
    · refine (E_l2 (v := (-9000000000000000001 : Int64)) c_275_34 (by decide)).trans ?_
      exact E_rL c_275_37 mi_275
    · refine (E_il c_275_20 rfl).trans ?_
      refine (E_i2l c_275_21).trans ?_
      refine (E_l2 (v := (2 : Int64)) c_275_22 (by decide)).trans ?_
      refine (E_l2 (v := (9 : Int64)) c_275_25 (by decide)).trans ?_
      refine (E_cIS c_275_28 mi_198 rfl rfl (Nat.le_of_ble_eq_true rfl) (Nat.le_of_ble_eq_true rfl)).trans (ax_bnd fun u2 => ?_)
      refine (E_b0_ne (q := 38) c_275_31 rfl).trans (ax_ite ?_ ?_)
      · refine (E_l2 (v := (-9000000000000000001 : Int64)) c_275_34 (by decide)).trans ?_
        exact E_rL c_275_37 mi_275
      · refine (E_al c_275_38 rfl (by decide)).trans ?_
        refine (E_il c_275_39 rfl).trans ?_
        refine (E_il c_275_40 rfl).trans ?_
        refine (E_cIV c_275_41 mi_273 rfl rfl (sO_kl sh_82) (Nat.le_of_ble_eq_true rfl) (Nat.le_of_ble_eq_true rfl)).trans (ax_bnd fun u3 => ?_)
        refine (E_is (L' := [.ref 82, .int x1, .int x2, .int x3, .int u3.1, .null, .null, .null]) c_275_44 (Nat.le_of_ble_eq_true rfl) rfl).trans ?_
        refine (E_lc (v := (1 : Int64)) c_275_46 (by decide)).trans ?_
        refine (E_lss (L' := [.ref 82, .int x1, .int x2, .int x3, .int u3.1, .long (1 : Int64), .null, .null]) c_275_47 (Nat.le_of_ble_eq_true rfl) rfl).trans ?_
        refine (E_ic (v := (0 : Int32)) c_275_49 (by decide)).trans ?_
        refine (E_is (L' := [.ref 82, .int x1, .int x2, .int x3, .int u3.1, .long (1 : Int64), .null, .int (0 : Int32)]) c_275_50 (Nat.le_of_ble_eq_true rfl) rfl).trans ?_
        rfl
set_option maxHeartbeats 4000000 in
theorem u_275_82p52 (d : Nat) (σ : ax_S) (w0 : Value) (hw0 : w0.category = 1) (w1 : Value) (hw1 : w1.category = 1) (w2 : Value) (hw2 : w2.category = 1) (x3 : Int32) (x4 : Int32) (x5 : Int64) (x7 : Int32) : ev sO (d + 4) 275 52 [w0, w1, w2, .int x3, .int x4, .long x5, .null, .int x7] [] σ = if x7 < x4 then (ev sO (d + 4) 275 52 [w0, w1, w2, .int x3, .int x4, .long (x5 * x3.toInt64), .null, .int (x7 + (1 : Int32))] [] σ) else (if x4 = (-1000000 : Int32) then (some (some (.long (-1000000 : Int64)), σ)) else (some (some (.long x5), σ))) := by
  refine (E_il c_275_52 rfl).trans ?_
  refine (E_il c_275_54 rfl).trans ?_
  refine (E_br_ge (q := 72) c_275_56 rfl).trans (ax_ite ?_ ?_)
  · refine (E_ll c_275_59 rfl).trans ?_
    refine (E_il c_275_61 rfl).trans ?_
    refine (E_i2l c_275_62).trans ?_
    refine (E_lmul c_275_63).trans ?_
    refine (E_lss (L' := [w0, w1, w2, .int x3, .int x4, .long (x5 * x3.toInt64), .null, .int x7]) c_275_64 (Nat.le_of_ble_eq_true rfl) rfl).trans ?_
    refine (E_inc (v := (1 : Int32)) (L' := [w0, w1, w2, .int x3, .int x4, .long (x5 * x3.toInt64), .null, .int (x7 + (1 : Int32))]) c_275_66 rfl (by decide) rfl).trans ?_
    refine (E_goto (q := 52) c_275_69 rfl).trans ?_
    rfl
  · refine (E_il c_275_72 rfl).trans ?_
    refine (E_ic (v := (-1000000 : Int32)) c_275_74 (by decide)).trans ?_
    refine (E_br_ne (q := 85) c_275_76 rfl).trans (ax_ite ?_ ?_)
    · refine (E_l2 (v := (-1000000 : Int64)) c_275_79 (by decide)).trans ?_
      refine (E_goto (q := 87) c_275_82 rfl).trans ?_
      exact E_rL c_275_87 mi_275
    · refine (E_ll c_275_85 rfl).trans ?_
      exact E_rL c_275_87 mi_275
set_option maxHeartbeats 4000000 in
theorem u_167_0 (d : Nat) (σ : ax_S) (x1 : Int32) (x2 : Int32) (x3 : Int32) (x4 : Int32) : ev sO (d + 3) 167 0 [.ref 0, .int x1, .int x2, .int x3, .int x4] [] σ = (cI sO (d + 2) 84 [.ref 17, .int x1] σ).bind fun u0 => if u0.1 = 0 then (some (some (.long (-9000000000000000001 : Int64)), u0.2)) else ((cI sO (d + 2) 84 [.ref 17, .int x2] u0.2).bind fun u1 => if u1.1 = 0 then (some (some (.long (-9000000000000000001 : Int64)), u1.2)) else ((cI sO (d + 2) 84 [.ref 17, .int x3] u1.2).bind fun u2 => if u2.1 = 0 then (some (some (.long (-9000000000000000001 : Int64)), u2.2)) else ((cI sO (d + 2) 84 [.ref 17, .int x4] u2.2).bind fun u3 => if u3.1 = 0 then (some (some (.long (-9000000000000000001 : Int64)), u3.2)) else (if x1 = x2 then (some (some (.long (-9000000000000000001 : Int64)), u3.2)) else (if x1 = x3 then (some (some (.long (-9000000000000000001 : Int64)), u3.2)) else (if x1 = x4 then (some (some (.long (-9000000000000000001 : Int64)), u3.2)) else (if x2 = x3 then (some (some (.long (-9000000000000000001 : Int64)), u3.2)) else (if x2 = x4 then (some (some (.long (-9000000000000000001 : Int64)), u3.2)) else (if x3 = x4 then (some (some (.long (-9000000000000000001 : Int64)), u3.2)) else ((cI sO (d + 2) 168 [.ref 17, .int x1, .int x2, .int x3, .int x4] u3.2).bind fun u4 => some (some (.long u4.1.toInt64), u4.2))))))))))) := by
  refine (E_al c_167_0 rfl (by decide)).trans ?_
  refine (E_gfr (k := 2) (r := 7) c_167_1 sh_0 rfl rfl rfl).trans ?_
  refine (E_gfr (k := 1) (r := 17) c_167_4 sh_7 rfl rfl rfl).trans ?_
  refine (E_il c_167_7 rfl).trans ?_
  refine (E_cIV c_167_8 mi_84 rfl rfl (sO_kl sh_17) (Nat.le_of_ble_eq_true rfl) (Nat.le_of_ble_eq_true rfl)).trans (ax_bnd fun u0 => ?_)
  refine (E_b0_eq (q := 57) c_167_11 rfl).trans (ax_ite ?_ ?_)
  · refine (E_l2 (v := (-9000000000000000001 : Int64)) c_167_57 (by decide)).trans ?_
    exact E_rL c_167_60 mi_167
  · refine (E_al c_167_14 rfl (by decide)).trans ?_
    refine (E_gfr (k := 2) (r := 7) c_167_15 sh_0 rfl rfl rfl).trans ?_
    refine (E_gfr (k := 1) (r := 17) c_167_18 sh_7 rfl rfl rfl).trans ?_
    refine (E_il c_167_21 rfl).trans ?_
    refine (E_cIV c_167_22 mi_84 rfl rfl (sO_kl sh_17) (Nat.le_of_ble_eq_true rfl) (Nat.le_of_ble_eq_true rfl)).trans (ax_bnd fun u1 => ?_)
    refine (E_b0_eq (q := 57) c_167_25 rfl).trans (ax_ite ?_ ?_)
    · refine (E_l2 (v := (-9000000000000000001 : Int64)) c_167_57 (by decide)).trans ?_
      exact E_rL c_167_60 mi_167
    · refine (E_al c_167_28 rfl (by decide)).trans ?_
      refine (E_gfr (k := 2) (r := 7) c_167_29 sh_0 rfl rfl rfl).trans ?_
      refine (E_gfr (k := 1) (r := 17) c_167_32 sh_7 rfl rfl rfl).trans ?_
      refine (E_il c_167_35 rfl).trans ?_
      refine (E_cIV c_167_36 mi_84 rfl rfl (sO_kl sh_17) (Nat.le_of_ble_eq_true rfl) (Nat.le_of_ble_eq_true rfl)).trans (ax_bnd fun u2 => ?_)
      refine (E_b0_eq (q := 57) c_167_39 rfl).trans (ax_ite ?_ ?_)
      · refine (E_l2 (v := (-9000000000000000001 : Int64)) c_167_57 (by decide)).trans ?_
        exact E_rL c_167_60 mi_167
      · refine (E_al c_167_42 rfl (by decide)).trans ?_
        refine (E_gfr (k := 2) (r := 7) c_167_43 sh_0 rfl rfl rfl).trans ?_
        refine (E_gfr (k := 1) (r := 17) c_167_46 sh_7 rfl rfl rfl).trans ?_
        refine (E_il c_167_49 rfl).trans ?_
        refine (E_cIV c_167_51 mi_84 rfl rfl (sO_kl sh_17) (Nat.le_of_ble_eq_true rfl) (Nat.le_of_ble_eq_true rfl)).trans (ax_bnd fun u3 => ?_)
        refine (E_b0_ne (q := 61) c_167_54 rfl).trans (ax_ite ?_ ?_)
        · refine (E_l2 (v := (-9000000000000000001 : Int64)) c_167_57 (by decide)).trans ?_
          exact E_rL c_167_60 mi_167
        · refine (E_il c_167_61 rfl).trans ?_
          refine (E_il c_167_62 rfl).trans ?_
          refine (E_br_eq (q := 94) c_167_63 rfl).trans (ax_ite ?_ ?_)
          · refine (E_l2 (v := (-9000000000000000001 : Int64)) c_167_94 (by decide)).trans ?_
            exact E_rL c_167_97 mi_167
          · refine (E_il c_167_66 rfl).trans ?_
            refine (E_il c_167_67 rfl).trans ?_
            refine (E_br_eq (q := 94) c_167_68 rfl).trans (ax_ite ?_ ?_)
            · refine (E_l2 (v := (-9000000000000000001 : Int64)) c_167_94 (by decide)).trans ?_
              exact E_rL c_167_97 mi_167
            · refine (E_il c_167_71 rfl).trans ?_
              refine (E_il c_167_72 rfl).trans ?_
              refine (E_br_eq (q := 94) c_167_74 rfl).trans (ax_ite ?_ ?_)
              · refine (E_l2 (v := (-9000000000000000001 : Int64)) c_167_94 (by decide)).trans ?_
                exact E_rL c_167_97 mi_167
              · refine (E_il c_167_77 rfl).trans ?_
                refine (E_il c_167_78 rfl).trans ?_
                refine (E_br_eq (q := 94) c_167_79 rfl).trans (ax_ite ?_ ?_)
                · refine (E_l2 (v := (-9000000000000000001 : Int64)) c_167_94 (by decide)).trans ?_
                  exact E_rL c_167_97 mi_167
                · refine (E_il c_167_82 rfl).trans ?_
                  refine (E_il c_167_83 rfl).trans ?_
                  refine (E_br_eq (q := 94) c_167_85 rfl).trans (ax_ite ?_ ?_)
                  · refine (E_l2 (v := (-9000000000000000001 : Int64)) c_167_94 (by decide)).trans ?_
                    exact E_rL c_167_97 mi_167
                  · refine (E_il c_167_88 rfl).trans ?_
                    refine (E_il c_167_89 rfl).trans ?_
                    refine (E_br_ne (q := 98) c_167_91 rfl).trans (ax_ite ?_ ?_)
                    · refine (E_l2 (v := (-9000000000000000001 : Int64)) c_167_94 (by decide)).trans ?_
                      exact E_rL c_167_97 mi_167
                    · refine (E_al c_167_98 rfl (by decide)).trans ?_
                      refine (E_gfr (k := 2) (r := 7) c_167_99 sh_0 rfl rfl rfl).trans ?_
                      refine (E_gfr (k := 1) (r := 17) c_167_102 sh_7 rfl rfl rfl).trans ?_
                      refine (E_il c_167_105 rfl).trans ?_
                      refine (E_il c_167_106 rfl).trans ?_
                      refine (E_il c_167_107 rfl).trans ?_
                      refine (E_il c_167_108 rfl).trans ?_
                      refine (E_cIV c_167_110 mi_168 rfl rfl (sO_kl sh_17) (Nat.le_of_ble_eq_true rfl) (Nat.le_of_ble_eq_true rfl)).trans (ax_bnd fun u4 => ?_)
                      refine (E_i2l c_167_113).trans ?_
                      exact E_rL c_167_114 mi_167
set_option maxHeartbeats 4000000 in
theorem u_276_82 (d : Nat) (σ : ax_S) (x1 : Int32) (x2 : Int32) (x3 : Int32) (x4 : Int32) : ev sO (d + 3) 276 0 [.ref 82, .int x1, .int x2, .int x3, .int x4, .null, .null, .null] [] σ = (cI sO (d + 2) 231 [.ref 82, .int x1] (sI σ 82 0 (0 : Int32))).bind fun u0 => if u0.1 = 0 then (some (some (.long (-9000000000000000001 : Int64)), u0.2)) else ((cI sO (d + 2) 231 [.ref 82, .int x2] u0.2).bind fun u1 => if u1.1 = 0 then (some (some (.long (-9000000000000000001 : Int64)), u1.2)) else ((cI sO (d + 2) 231 [.ref 82, .int x3] u1.2).bind fun u2 => if u2.1 = 0 then (some (some (.long (-9000000000000000001 : Int64)), u2.2)) else ((cI sO (d + 2) 231 [.ref 82, .int x4] u2.2).bind fun u3 => if u3.1 = 0 then (some (some (.long (-9000000000000000001 : Int64)), u3.2)) else (if x1 = x2 then (some (some (.long (-9000000000000000001 : Int64)), u3.2)) else (if x1 = x3 then (some (some (.long (-9000000000000000001 : Int64)), u3.2)) else (if x1 = x4 then (some (some (.long (-9000000000000000001 : Int64)), u3.2)) else (if x2 = x3 then (some (some (.long (-9000000000000000001 : Int64)), u3.2)) else (if x2 = x4 then (some (some (.long (-9000000000000000001 : Int64)), u3.2)) else (if x3 = x4 then (some (some (.long (-9000000000000000001 : Int64)), u3.2)) else (ev sO (d + 3) 276 81 [.ref 82, .int x1, .int x2, .int x3, .int x4, .int (0 : Int32), .int (0 : Int32), .null] [] u3.2)))))))))) := by
  refine (E_al c_276_0 rfl (by decide)).trans ?_
  refine (E_ic (v := (0 : Int32)) c_276_1 (by decide)).trans ?_
  refine (E_pfi (k := 0) c_276_2 sh_82 rfl rfl rfl).trans ?_
  refine (E_al c_276_5 rfl (by decide)).trans ?_
  refine (E_il c_276_6 rfl).trans ?_
  refine (E_cIV c_276_7 mi_231 rfl rfl (sO_kl sh_82) (Nat.le_of_ble_eq_true rfl) (Nat.le_of_ble_eq_true rfl)).trans (ax_bnd fun u0 => ?_)
  refine (E_b0_eq (q := 71) c_276_10 rfl).trans (ax_ite ?_ ?_)
  · refine (E_l2 (v := (-9000000000000000001 : Int64)) c_276_71 (by decide)).trans ?_
    exact E_rL c_276_74 mi_276
  · refine (E_al c_276_13 rfl (by decide)).trans ?_
    refine (E_il c_276_14 rfl).trans ?_
    refine (E_cIV c_276_15 mi_231 rfl rfl (sO_kl sh_82) (Nat.le_of_ble_eq_true rfl) (Nat.le_of_ble_eq_true rfl)).trans (ax_bnd fun u1 => ?_)
    refine (E_b0_eq (q := 71) c_276_18 rfl).trans (ax_ite ?_ ?_)
    · refine (E_l2 (v := (-9000000000000000001 : Int64)) c_276_71 (by decide)).trans ?_
      exact E_rL c_276_74 mi_276
    · refine (E_al c_276_21 rfl (by decide)).trans ?_
      refine (E_il c_276_22 rfl).trans ?_
      refine (E_cIV c_276_23 mi_231 rfl rfl (sO_kl sh_82) (Nat.le_of_ble_eq_true rfl) (Nat.le_of_ble_eq_true rfl)).trans (ax_bnd fun u2 => ?_)
      refine (E_b0_eq (q := 71) c_276_26 rfl).trans (ax_ite ?_ ?_)
      · refine (E_l2 (v := (-9000000000000000001 : Int64)) c_276_71 (by decide)).trans ?_
        exact E_rL c_276_74 mi_276
      · refine (E_al c_276_29 rfl (by decide)).trans ?_
        refine (E_il c_276_30 rfl).trans ?_
        refine (E_cIV c_276_32 mi_231 rfl rfl (sO_kl sh_82) (Nat.le_of_ble_eq_true rfl) (Nat.le_of_ble_eq_true rfl)).trans (ax_bnd fun u3 => ?_)
        refine (E_b0_eq (q := 71) c_276_35 rfl).trans (ax_ite ?_ ?_)
        · refine (E_l2 (v := (-9000000000000000001 : Int64)) c_276_71 (by decide)).trans ?_
          exact E_rL c_276_74 mi_276
        · refine (E_il c_276_38 rfl).trans ?_
          refine (E_il c_276_39 rfl).trans ?_
          refine (E_br_eq (q := 71) c_276_40 rfl).trans (ax_ite ?_ ?_)
          · refine (E_l2 (v := (-9000000000000000001 : Int64)) c_276_71 (by decide)).trans ?_
            exact E_rL c_276_74 mi_276
          · refine (E_il c_276_43 rfl).trans ?_
            refine (E_il c_276_44 rfl).trans ?_
            refine (E_br_eq (q := 71) c_276_45 rfl).trans (ax_ite ?_ ?_)
            · refine (E_l2 (v := (-9000000000000000001 : Int64)) c_276_71 (by decide)).trans ?_
              exact E_rL c_276_74 mi_276
            · refine (E_il c_276_48 rfl).trans ?_
              refine (E_il c_276_49 rfl).trans ?_
              refine (E_br_eq (q := 71) c_276_51 rfl).trans (ax_ite ?_ ?_)
              · refine (E_l2 (v := (-9000000000000000001 : Int64)) c_276_71 (by decide)).trans ?_
                exact E_rL c_276_74 mi_276
              · refine (E_il c_276_54 rfl).trans ?_
                refine (E_il c_276_55 rfl).trans ?_
                refine (E_br_eq (q := 71) c_276_56 rfl).trans (ax_ite ?_ ?_)
                · refine (E_l2 (v := (-9000000000000000001 : Int64)) c_276_71 (by decide)).trans ?_
                  exact E_rL c_276_74 mi_276
                · refine (E_il c_276_59 rfl).trans ?_
                  refine (E_il c_276_60 rfl).trans ?_
                  refine (E_br_eq (q := 71) c_276_62 rfl).trans (ax_ite ?_ ?_)
                  · refine (E_l2 (v := (-9000000000000000001 : Int64)) c_276_71 (by decide)).trans ?_
                    exact E_rL c_276_74 mi_276
                  · refine (E_il c_276_65 rfl).trans ?_
                    refine (E_il c_276_66 rfl).trans ?_
                    refine (E_br_ne (q := 75) c_276_68 rfl).trans (ax_ite ?_ ?_)
                    · refine (E_l2 (v := (-9000000000000000001 : Int64)) c_276_71 (by decide)).trans ?_
                      exact E_rL c_276_74 mi_276
                    · refine (E_ic (v := (0 : Int32)) c_276_75 (by decide)).trans ?_
                      refine (E_is (L' := [.ref 82, .int x1, .int x2, .int x3, .int x4, .int (0 : Int32), .null, .null]) c_276_76 (Nat.le_of_ble_eq_true rfl) rfl).trans ?_
                      refine (E_ic (v := (0 : Int32)) c_276_78 (by decide)).trans ?_
                      refine (E_is (L' := [.ref 82, .int x1, .int x2, .int x3, .int x4, .int (0 : Int32), .int (0 : Int32), .null]) c_276_79 (Nat.le_of_ble_eq_true rfl) rfl).trans ?_
                      rfl
set_option maxHeartbeats 4000000 in
theorem u_276_82p81 (d : Nat) (σ : ax_S) (x1 : Int32) (x2 : Int32) (x3 : Int32) (x4 : Int32) (x5 : Int32) (x6 : Int32) (w7 : Value) (hw7 : w7.category = 1) : ev sO (d + 3) 276 81 [.ref 82, .int x1, .int x2, .int x3, .int x4, .int x5, .int x6, w7] [] σ = if x6 < (11 : Int32) then ((cI sO (d + 2) 256 [.ref 82, .int x2, .int x3, .int x6] σ).bind fun u0 => if u0.1 = 0 then ((cI sO (d + 2) 256 [.ref 82, .int x2, .int x4, .int x6] u0.2).bind fun u1 => if u1.1 = 0 then ((cI sO (d + 2) 256 [.ref 82, .int x3, .int x4, .int x6] u1.2).bind fun u2 => if u2.1 = 0 then ((cI sO (d + 2) 234 [.ref 82, .int x1, .int x6] u2.2).bind fun u3 => if u3.1 = 0 then (ev sO (d + 3) 276 81 [.ref 82, .int x1, .int x2, .int x3, .int x4, .int x5, .int (x6 + (1 : Int32)), .int (-1000000 : Int32)] [] u3.2) else (ev sO (d + 3) 276 81 [.ref 82, .int x1, .int x2, .int x3, .int x4, .int x5, .int (x6 + (1 : Int32)), .int (-1000000 : Int32)] [] u3.2)) else ((cI sO (d + 2) 234 [.ref 82, .int x1, .int x6] u2.2).bind fun u4 => if u4.1 = 0 then (if x3 = (-1000000 : Int32) then (ev sO (d + 3) 276 81 [.ref 82, .int x1, .int x2, .int x3, .int x4, .int x5, .int (x6 + (1 : Int32)), .int x3] [] u4.2) else (gd (0 ≤ (((15 : Int32) * x1) + (4 : Int32)).toInt ∧ (((15 : Int32) * x1) + (4 : Int32)).toInt < (181 : Nat)) (gd (0 ≤ (((15 : Int32) * x1) + (4 : Int32)).toInt ∧ (((15 : Int32) * x1) + (4 : Int32)).toInt < (181 : Nat)) ((cI sO (d + 2) 235 [.ref 82, .int x3, .int x6] (sI u4.2 88 (((15 : Int32) * x1) + (4 : Int32)).toNatClampNeg ((u4.2.1 88 (((15 : Int32) * x1) + (4 : Int32)).toNatClampNeg) &&& (((1 : Int32) <<< (x6 &&& 31)) ^^^ (-1 : Int32))))).bind fun u5 => gd (0 ≤ ((((15 : Int32) * x1) + (5 : Int32)) + x6).toInt ∧ ((((15 : Int32) * x1) + (5 : Int32)) + x6).toInt < (181 : Nat)) (ev sO (d + 3) 276 81 [.ref 82, .int x1, .int x2, .int x3, .int x4, .int (x5 + (1 : Int32)), .int (x6 + (1 : Int32)), .int x3] [] (sI u5.2 88 ((((15 : Int32) * x1) + (5 : Int32)) + x6).toNatClampNeg u5.1)))))) else (ev sO (d + 3) 276 81 [.ref 82, .int x1, .int x2, .int x3, .int x4, .int x5, .int (x6 + (1 : Int32)), .int x3] [] u4.2))) else ((cI sO (d + 2) 234 [.ref 82, .int x1, .int x6] u1.2).bind fun u6 => if u6.1 = 0 then (if x2 = (-1000000 : Int32) then (ev sO (d + 3) 276 81 [.ref 82, .int x1, .int x2, .int x3, .int x4, .int x5, .int (x6 + (1 : Int32)), .int x2] [] u6.2) else (gd (0 ≤ (((15 : Int32) * x1) + (4 : Int32)).toInt ∧ (((15 : Int32) * x1) + (4 : Int32)).toInt < (181 : Nat)) (gd (0 ≤ (((15 : Int32) * x1) + (4 : Int32)).toInt ∧ (((15 : Int32) * x1) + (4 : Int32)).toInt < (181 : Nat)) ((cI sO (d + 2) 235 [.ref 82, .int x2, .int x6] (sI u6.2 88 (((15 : Int32) * x1) + (4 : Int32)).toNatClampNeg ((u6.2.1 88 (((15 : Int32) * x1) + (4 : Int32)).toNatClampNeg) &&& (((1 : Int32) <<< (x6 &&& 31)) ^^^ (-1 : Int32))))).bind fun u7 => gd (0 ≤ ((((15 : Int32) * x1) + (5 : Int32)) + x6).toInt ∧ ((((15 : Int32) * x1) + (5 : Int32)) + x6).toInt < (181 : Nat)) (ev sO (d + 3) 276 81 [.ref 82, .int x1, .int x2, .int x3, .int x4, .int (x5 + (1 : Int32)), .int (x6 + (1 : Int32)), .int x2] [] (sI u7.2 88 ((((15 : Int32) * x1) + (5 : Int32)) + x6).toNatClampNeg u7.1)))))) else (ev sO (d + 3) 276 81 [.ref 82, .int x1, .int x2, .int x3, .int x4, .int x5, .int (x6 + (1 : Int32)), .int x2] [] u6.2))) else ((cI sO (d + 2) 234 [.ref 82, .int x1, .int x6] u0.2).bind fun u8 => if u8.1 = 0 then (if x2 = (-1000000 : Int32) then (ev sO (d + 3) 276 81 [.ref 82, .int x1, .int x2, .int x3, .int x4, .int x5, .int (x6 + (1 : Int32)), .int x2] [] u8.2) else (gd (0 ≤ (((15 : Int32) * x1) + (4 : Int32)).toInt ∧ (((15 : Int32) * x1) + (4 : Int32)).toInt < (181 : Nat)) (gd (0 ≤ (((15 : Int32) * x1) + (4 : Int32)).toInt ∧ (((15 : Int32) * x1) + (4 : Int32)).toInt < (181 : Nat)) ((cI sO (d + 2) 235 [.ref 82, .int x2, .int x6] (sI u8.2 88 (((15 : Int32) * x1) + (4 : Int32)).toNatClampNeg ((u8.2.1 88 (((15 : Int32) * x1) + (4 : Int32)).toNatClampNeg) &&& (((1 : Int32) <<< (x6 &&& 31)) ^^^ (-1 : Int32))))).bind fun u9 => gd (0 ≤ ((((15 : Int32) * x1) + (5 : Int32)) + x6).toInt ∧ ((((15 : Int32) * x1) + (5 : Int32)) + x6).toInt < (181 : Nat)) (ev sO (d + 3) 276 81 [.ref 82, .int x1, .int x2, .int x3, .int x4, .int (x5 + (1 : Int32)), .int (x6 + (1 : Int32)), .int x2] [] (sI u9.2 88 ((((15 : Int32) * x1) + (5 : Int32)) + x6).toNatClampNeg u9.1)))))) else (ev sO (d + 3) 276 81 [.ref 82, .int x1, .int x2, .int x3, .int x4, .int x5, .int (x6 + (1 : Int32)), .int x2] [] u8.2))) else (some (some (.long x5.toInt64), σ)) := by
  refine (E_il c_276_81 rfl).trans ?_
  refine (E_ic (v := (11 : Int32)) c_276_83 (by decide)).trans ?_
  refine (E_br_ge (q := 203) c_276_85 rfl).trans (ax_ite ?_ ?_)
  · refine (E_al c_276_88 rfl (by decide)).trans ?_
    refine (E_il c_276_89 rfl).trans ?_
    refine (E_il c_276_90 rfl).trans ?_
    refine (E_il c_276_91 rfl).trans ?_
    refine (E_cIV c_276_93 mi_256 rfl rfl (sO_kl sh_82) (Nat.le_of_ble_eq_true rfl) (Nat.le_of_ble_eq_true rfl)).trans (ax_bnd fun u0 => ?_)
    refine (E_b0_ne (q := 111) c_276_96 rfl).trans (ax_ite ?_ ?_)
    · refine (E_al c_276_99 rfl (by decide)).trans ?_
      refine (E_il c_276_100 rfl).trans ?_
      refine (E_il c_276_101 rfl).trans ?_
      refine (E_il c_276_103 rfl).trans ?_
      refine (E_cIV c_276_105 mi_256 rfl rfl (sO_kl sh_82) (Nat.le_of_ble_eq_true rfl) (Nat.le_of_ble_eq_true rfl)).trans (ax_bnd fun u1 => ?_)
      refine (E_b0_eq (q := 115) c_276_108 rfl).trans (ax_ite ?_ ?_)
      · refine (E_al c_276_115 rfl (by decide)).trans ?_
        refine (E_il c_276_116 rfl).trans ?_
        refine (E_il c_276_117 rfl).trans ?_
        refine (E_il c_276_119 rfl).trans ?_
        refine (E_cIV c_276_121 mi_256 rfl rfl (sO_kl sh_82) (Nat.le_of_ble_eq_true rfl) (Nat.le_of_ble_eq_true rfl)).trans (ax_bnd fun u2 => ?_)
        refine (E_b0_eq (q := 131) c_276_124 rfl).trans (ax_ite ?_ ?_)
        · refine (E_ic (v := (-1000000 : Int32)) c_276_131 (by decide)).trans ?_
          refine (E_is (L' := [.ref 82, .int x1, .int x2, .int x3, .int x4, .int x5, .int x6, .int (-1000000 : Int32)]) c_276_133 (Nat.le_of_ble_eq_true rfl) rfl).trans ?_
          refine (E_al c_276_135 rfl (by decide)).trans ?_
          refine (E_il c_276_136 rfl).trans ?_
          refine (E_il c_276_137 rfl).trans ?_
          refine (E_cIV c_276_139 mi_234 rfl rfl (sO_kl sh_82) (Nat.le_of_ble_eq_true rfl) (Nat.le_of_ble_eq_true rfl)).trans (ax_bnd fun u3 => ?_)
          refine (E_b0_ne (q := 197) c_276_142 rfl).trans (ax_ite ?_ ?_)
          · refine (E_il c_276_145 rfl).trans ?_
            refine (E_ic (v := (-1000000 : Int32)) c_276_147 (by decide)).trans ?_
            refine (E_br_eq (q := 197) c_276_149 rfl).trans ?_
            refine (if_pos (by decide)).trans ?_
            refine (E_inc (v := (1 : Int32)) (L' := [.ref 82, .int x1, .int x2, .int x3, .int x4, .int x5, .int (x6 + (1 : Int32)), .int (-1000000 : Int32)]) c_276_197 rfl (by decide) rfl).trans ?_
            refine (E_goto (q := 81) c_276_200 rfl).trans ?_
            rfl
          · refine (E_inc (v := (1 : Int32)) (L' := [.ref 82, .int x1, .int x2, .int x3, .int x4, .int x5, .int (x6 + (1 : Int32)), .int (-1000000 : Int32)]) c_276_197 rfl (by decide) rfl).trans ?_
            refine (E_goto (q := 81) c_276_200 rfl).trans ?_
            rfl
        · refine (E_il c_276_127 rfl).trans ?_
          refine (E_goto (q := 133) c_276_128 rfl).trans ?_
          refine (E_is (L' := [.ref 82, .int x1, .int x2, .int x3, .int x4, .int x5, .int x6, .int x3]) c_276_133 (Nat.le_of_ble_eq_true rfl) rfl).trans ?_
          refine (E_al c_276_135 rfl (by decide)).trans ?_
          refine (E_il c_276_136 rfl).trans ?_
          refine (E_il c_276_137 rfl).trans ?_
          refine (E_cIV c_276_139 mi_234 rfl rfl (sO_kl sh_82) (Nat.le_of_ble_eq_true rfl) (Nat.le_of_ble_eq_true rfl)).trans (ax_bnd fun u4 => ?_)
          refine (E_b0_ne (q := 197) c_276_142 rfl).trans (ax_ite ?_ ?_)
          · refine (E_il c_276_145 rfl).trans ?_
            refine (E_ic (v := (-1000000 : Int32)) c_276_147 (by decide)).trans ?_
            refine (E_br_eq (q := 197) c_276_149 rfl).trans (ax_ite ?_ ?_)
            · refine (E_inc (v := (1 : Int32)) (L' := [.ref 82, .int x1, .int x2, .int x3, .int x4, .int x5, .int (x6 + (1 : Int32)), .int x3]) c_276_197 rfl (by decide) rfl).trans ?_
              refine (E_goto (q := 81) c_276_200 rfl).trans ?_
              rfl
            · refine (E_al c_276_152 rfl (by decide)).trans ?_
              refine (E_gfr (k := 8) (r := 88) c_276_153 sh_82 rfl rfl rfl).trans ?_
              refine (E_ic (v := (15 : Int32)) c_276_156 (by decide)).trans ?_
              refine (E_il c_276_158 rfl).trans ?_
              refine (E_imul c_276_159).trans ?_
              refine (E_ic (v := (4 : Int32)) c_276_160 (by decide)).trans ?_
              refine (E_iadd c_276_161).trans ?_
              refine (E_dup2 c_276_162 ⟨rfl, rfl⟩).trans ?_
              refine (E_ial c_276_163 sh_88).trans (ax_gd ?_)
              refine (E_ic (v := (1 : Int32)) c_276_164 (by decide)).trans ?_
              refine (E_il c_276_165 rfl).trans ?_
              refine (E_ishl c_276_167).trans ?_
              refine (E_ic (v := (-1 : Int32)) c_276_168 (by decide)).trans ?_
              refine (E_ixor c_276_169).trans ?_
              refine (E_iand c_276_170).trans ?_
              refine (E_ias (v := ((u4.2.1 88 (((15 : Int32) * x1) + (4 : Int32)).toNatClampNeg) &&& (((1 : Int32) <<< (x6 &&& 31)) ^^^ (-1 : Int32)))) c_276_171 sh_88 rfl).trans (ax_gd ?_)
              refine (E_al c_276_172 rfl (by decide)).trans ?_
              refine (E_gfr (k := 8) (r := 88) c_276_173 sh_82 rfl rfl rfl).trans ?_
              refine (E_ic (v := (15 : Int32)) c_276_176 (by decide)).trans ?_
              refine (E_il c_276_178 rfl).trans ?_
              refine (E_imul c_276_179).trans ?_
              refine (E_ic (v := (5 : Int32)) c_276_180 (by decide)).trans ?_
              refine (E_iadd c_276_181).trans ?_
              refine (E_il c_276_182 rfl).trans ?_
              refine (E_iadd c_276_184).trans ?_
              refine (E_al c_276_185 rfl (by decide)).trans ?_
              refine (E_il c_276_186 rfl).trans ?_
              refine (E_il c_276_188 rfl).trans ?_
              refine (E_cIV c_276_190 mi_235 rfl rfl (sO_kl sh_82) (Nat.le_of_ble_eq_true rfl) (Nat.le_of_ble_eq_true rfl)).trans (ax_bnd fun u5 => ?_)
              refine (E_ias (v := u5.1) c_276_193 sh_88 rfl).trans (ax_gd ?_)
              refine (E_inc (v := (1 : Int32)) (L' := [.ref 82, .int x1, .int x2, .int x3, .int x4, .int (x5 + (1 : Int32)), .int x6, .int x3]) c_276_194 rfl (by decide) rfl).trans ?_
              refine (E_inc (v := (1 : Int32)) (L' := [.ref 82, .int x1, .int x2, .int x3, .int x4, .int (x5 + (1 : Int32)), .int (x6 + (1 : Int32)), .int x3]) c_276_197 rfl (by decide) rfl).trans ?_
              refine (E_goto (q := 81) c_276_200 rfl).trans ?_
              rfl
          · refine (E_inc (v := (1 : Int32)) (L' := [.ref 82, .int x1, .int x2, .int x3, .int x4, .int x5, .int (x6 + (1 : Int32)), .int x3]) c_276_197 rfl (by decide) rfl).trans ?_
            refine (E_goto (q := 81) c_276_200 rfl).trans ?_
            rfl
      · refine (E_il c_276_111 rfl).trans ?_
        refine (E_goto (q := 133) c_276_112 rfl).trans ?_
        refine (E_is (L' := [.ref 82, .int x1, .int x2, .int x3, .int x4, .int x5, .int x6, .int x2]) c_276_133 (Nat.le_of_ble_eq_true rfl) rfl).trans ?_
        refine (E_al c_276_135 rfl (by decide)).trans ?_
        refine (E_il c_276_136 rfl).trans ?_
        refine (E_il c_276_137 rfl).trans ?_
        refine (E_cIV c_276_139 mi_234 rfl rfl (sO_kl sh_82) (Nat.le_of_ble_eq_true rfl) (Nat.le_of_ble_eq_true rfl)).trans (ax_bnd fun u6 => ?_)
        refine (E_b0_ne (q := 197) c_276_142 rfl).trans (ax_ite ?_ ?_)
        · refine (E_il c_276_145 rfl).trans ?_
          refine (E_ic (v := (-1000000 : Int32)) c_276_147 (by decide)).trans ?_
          refine (E_br_eq (q := 197) c_276_149 rfl).trans (ax_ite ?_ ?_)
          · refine (E_inc (v := (1 : Int32)) (L' := [.ref 82, .int x1, .int x2, .int x3, .int x4, .int x5, .int (x6 + (1 : Int32)), .int x2]) c_276_197 rfl (by decide) rfl).trans ?_
            refine (E_goto (q := 81) c_276_200 rfl).trans ?_
            rfl
          · refine (E_al c_276_152 rfl (by decide)).trans ?_
            refine (E_gfr (k := 8) (r := 88) c_276_153 sh_82 rfl rfl rfl).trans ?_
            refine (E_ic (v := (15 : Int32)) c_276_156 (by decide)).trans ?_
            refine (E_il c_276_158 rfl).trans ?_
            refine (E_imul c_276_159).trans ?_
            refine (E_ic (v := (4 : Int32)) c_276_160 (by decide)).trans ?_
            refine (E_iadd c_276_161).trans ?_
            refine (E_dup2 c_276_162 ⟨rfl, rfl⟩).trans ?_
            refine (E_ial c_276_163 sh_88).trans (ax_gd ?_)
            refine (E_ic (v := (1 : Int32)) c_276_164 (by decide)).trans ?_
            refine (E_il c_276_165 rfl).trans ?_
            refine (E_ishl c_276_167).trans ?_
            refine (E_ic (v := (-1 : Int32)) c_276_168 (by decide)).trans ?_
            refine (E_ixor c_276_169).trans ?_
            refine (E_iand c_276_170).trans ?_
            refine (E_ias (v := ((u6.2.1 88 (((15 : Int32) * x1) + (4 : Int32)).toNatClampNeg) &&& (((1 : Int32) <<< (x6 &&& 31)) ^^^ (-1 : Int32)))) c_276_171 sh_88 rfl).trans (ax_gd ?_)
            refine (E_al c_276_172 rfl (by decide)).trans ?_
            refine (E_gfr (k := 8) (r := 88) c_276_173 sh_82 rfl rfl rfl).trans ?_
            refine (E_ic (v := (15 : Int32)) c_276_176 (by decide)).trans ?_
            refine (E_il c_276_178 rfl).trans ?_
            refine (E_imul c_276_179).trans ?_
            refine (E_ic (v := (5 : Int32)) c_276_180 (by decide)).trans ?_
            refine (E_iadd c_276_181).trans ?_
            refine (E_il c_276_182 rfl).trans ?_
            refine (E_iadd c_276_184).trans ?_
            refine (E_al c_276_185 rfl (by decide)).trans ?_
            refine (E_il c_276_186 rfl).trans ?_
            refine (E_il c_276_188 rfl).trans ?_
            refine (E_cIV c_276_190 mi_235 rfl rfl (sO_kl sh_82) (Nat.le_of_ble_eq_true rfl) (Nat.le_of_ble_eq_true rfl)).trans (ax_bnd fun u7 => ?_)
            refine (E_ias (v := u7.1) c_276_193 sh_88 rfl).trans (ax_gd ?_)
            refine (E_inc (v := (1 : Int32)) (L' := [.ref 82, .int x1, .int x2, .int x3, .int x4, .int (x5 + (1 : Int32)), .int x6, .int x2]) c_276_194 rfl (by decide) rfl).trans ?_
            refine (E_inc (v := (1 : Int32)) (L' := [.ref 82, .int x1, .int x2, .int x3, .int x4, .int (x5 + (1 : Int32)), .int (x6 + (1 : Int32)), .int x2]) c_276_197 rfl (by decide) rfl).trans ?_
            refine (E_goto (q := 81) c_276_200 rfl).trans ?_
            rfl
        · refine (E_inc (v := (1 : Int32)) (L' := [.ref 82, .int x1, .int x2, .int x3, .int x4, .int x5, .int (x6 + (1 : Int32)), .int x2]) c_276_197 rfl (by decide) rfl).trans ?_
          refine (E_goto (q := 81) c_276_200 rfl).trans ?_
          rfl
    · refine (E_il c_276_111 rfl).trans ?_
      refine (E_goto (q := 133) c_276_112 rfl).trans ?_
      refine (E_is (L' := [.ref 82, .int x1, .int x2, .int x3, .int x4, .int x5, .int x6, .int x2]) c_276_133 (Nat.le_of_ble_eq_true rfl) rfl).trans ?_
      refine (E_al c_276_135 rfl (by decide)).trans ?_
      refine (E_il c_276_136 rfl).trans ?_
      refine (E_il c_276_137 rfl).trans ?_
      refine (E_cIV c_276_139 mi_234 rfl rfl (sO_kl sh_82) (Nat.le_of_ble_eq_true rfl) (Nat.le_of_ble_eq_true rfl)).trans (ax_bnd fun u8 => ?_)
      refine (E_b0_ne (q := 197) c_276_142 rfl).trans (ax_ite ?_ ?_)
      · refine (E_il c_276_145 rfl).trans ?_
        refine (E_ic (v := (-1000000 : Int32)) c_276_147 (by decide)).trans ?_
        refine (E_br_eq (q := 197) c_276_149 rfl).trans (ax_ite ?_ ?_)
        · refine (E_inc (v := (1 : Int32)) (L' := [.ref 82, .int x1, .int x2, .int x3, .int x4, .int x5, .int (x6 + (1 : Int32)), .int x2]) c_276_197 rfl (by decide) rfl).trans ?_
          refine (E_goto (q := 81) c_276_200 rfl).trans ?_
          rfl
        · refine (E_al c_276_152 rfl (by decide)).trans ?_
          refine (E_gfr (k := 8) (r := 88) c_276_153 sh_82 rfl rfl rfl).trans ?_
          refine (E_ic (v := (15 : Int32)) c_276_156 (by decide)).trans ?_
          refine (E_il c_276_158 rfl).trans ?_
          refine (E_imul c_276_159).trans ?_
          refine (E_ic (v := (4 : Int32)) c_276_160 (by decide)).trans ?_
          refine (E_iadd c_276_161).trans ?_
          refine (E_dup2 c_276_162 ⟨rfl, rfl⟩).trans ?_
          refine (E_ial c_276_163 sh_88).trans (ax_gd ?_)
          refine (E_ic (v := (1 : Int32)) c_276_164 (by decide)).trans ?_
          refine (E_il c_276_165 rfl).trans ?_
          refine (E_ishl c_276_167).trans ?_
          refine (E_ic (v := (-1 : Int32)) c_276_168 (by decide)).trans ?_
          refine (E_ixor c_276_169).trans ?_
          refine (E_iand c_276_170).trans ?_
          refine (E_ias (v := ((u8.2.1 88 (((15 : Int32) * x1) + (4 : Int32)).toNatClampNeg) &&& (((1 : Int32) <<< (x6 &&& 31)) ^^^ (-1 : Int32)))) c_276_171 sh_88 rfl).trans (ax_gd ?_)
          refine (E_al c_276_172 rfl (by decide)).trans ?_
          refine (E_gfr (k := 8) (r := 88) c_276_173 sh_82 rfl rfl rfl).trans ?_
          refine (E_ic (v := (15 : Int32)) c_276_176 (by decide)).trans ?_
          refine (E_il c_276_178 rfl).trans ?_
          refine (E_imul c_276_179).trans ?_
          refine (E_ic (v := (5 : Int32)) c_276_180 (by decide)).trans ?_
          refine (E_iadd c_276_181).trans ?_
          refine (E_il c_276_182 rfl).trans ?_
          refine (E_iadd c_276_184).trans ?_
          refine (E_al c_276_185 rfl (by decide)).trans ?_
          refine (E_il c_276_186 rfl).trans ?_
          refine (E_il c_276_188 rfl).trans ?_
          refine (E_cIV c_276_190 mi_235 rfl rfl (sO_kl sh_82) (Nat.le_of_ble_eq_true rfl) (Nat.le_of_ble_eq_true rfl)).trans (ax_bnd fun u9 => ?_)
          refine (E_ias (v := u9.1) c_276_193 sh_88 rfl).trans (ax_gd ?_)
          refine (E_inc (v := (1 : Int32)) (L' := [.ref 82, .int x1, .int x2, .int x3, .int x4, .int (x5 + (1 : Int32)), .int x6, .int x2]) c_276_194 rfl (by decide) rfl).trans ?_
          refine (E_inc (v := (1 : Int32)) (L' := [.ref 82, .int x1, .int x2, .int x3, .int x4, .int (x5 + (1 : Int32)), .int (x6 + (1 : Int32)), .int x2]) c_276_197 rfl (by decide) rfl).trans ?_
          refine (E_goto (q := 81) c_276_200 rfl).trans ?_
          rfl
      · refine (E_inc (v := (1 : Int32)) (L' := [.ref 82, .int x1, .int x2, .int x3, .int x4, .int x5, .int (x6 + (1 : Int32)), .int x2]) c_276_197 rfl (by decide) rfl).trans ?_
        refine (E_goto (q := 81) c_276_200 rfl).trans ?_
        rfl
  · refine (E_il c_276_203 rfl).trans ?_
    refine (E_i2l c_276_205).trans ?_
    exact E_rL c_276_206 mi_276
set_option maxHeartbeats 4000000 in
theorem u_170_0 (d : Nat) (σ : ax_S) (x1 : Int32) : ev sO (d + 6) 170 0 [.ref 0, .int x1] [] σ = if x1 < 0 then (some (some (.long (-9000000000000000001 : Int64)), σ)) else (if (11 : Int32) < x1 then (some (some (.long (-9000000000000000001 : Int64)), σ)) else ((cI sO (d + 5) 124 [.ref 17] σ).bind fun u0 => if u0.1 = 0 then (some (some (.long (-9000000000000000002 : Int64)), u0.2)) else ((cV sO (d + 5) 171 [.ref 63, .ref 17, .int x1] u0.2).bind fun u1 => (cI sO (d + 5) 122 [.ref 63] u1).bind fun u2 => some (some (.long u2.1.toInt64), u2.2)))) := by
  refine (E_il c_170_0 rfl).trans ?_
  refine (E_b0_lt (q := 10) c_170_1 rfl).trans (ax_ite ?_ ?_)
  · refine (E_l2 (v := (-9000000000000000001 : Int64)) c_170_10 (by decide)).trans ?_
    exact E_rL c_170_13 mi_170
  · refine (E_il c_170_4 rfl).trans ?_
    refine (E_ic (v := (11 : Int32)) c_170_5 (by decide)).trans ?_
    refine (E_br_le (q := 14) c_170_7 rfl).trans (ax_ite ?_ ?_)
    · refine (E_l2 (v := (-9000000000000000001 : Int64)) c_170_10 (by decide)).trans ?_
      exact E_rL c_170_13 mi_170
    · refine (E_al c_170_14 rfl (by decide)).trans ?_
      refine (E_gfr (k := 2) (r := 7) c_170_15 sh_0 rfl rfl rfl).trans ?_
      refine (E_gfr (k := 1) (r := 17) c_170_18 sh_7 rfl rfl rfl).trans ?_
      refine (E_cIV c_170_21 mi_124 rfl rfl (sO_kl sh_17) (Nat.le_of_ble_eq_true rfl) (Nat.le_of_ble_eq_true rfl)).trans (ax_bnd fun u0 => ?_)
      refine (E_b0_ne (q := 31) c_170_24 rfl).trans (ax_ite ?_ ?_)
      · refine (E_l2 (v := (-9000000000000000002 : Int64)) c_170_27 (by decide)).trans ?_
        exact E_rL c_170_30 mi_170
      · refine (E_al c_170_31 rfl (by decide)).trans ?_
        refine (E_gfr (k := 7) (r := 63) c_170_32 sh_0 rfl rfl rfl).trans ?_
        refine (E_al c_170_35 rfl (by decide)).trans ?_
        refine (E_gfr (k := 2) (r := 7) c_170_36 sh_0 rfl rfl rfl).trans ?_
        refine (E_gfr (k := 1) (r := 17) c_170_39 sh_7 rfl rfl rfl).trans ?_
        refine (E_il c_170_42 rfl).trans ?_
        refine (E_cVV c_170_43 mi_171 rfl (sO_kl sh_63) (Nat.le_of_ble_eq_true rfl) (Nat.le_of_ble_eq_true rfl)).trans (ax_bnd fun u1 => ?_)
        refine (E_al c_170_46 rfl (by decide)).trans ?_
        refine (E_gfr (k := 7) (r := 63) c_170_47 sh_0 rfl rfl rfl).trans ?_
        refine (E_cIV c_170_50 mi_122 rfl rfl (sO_kl sh_63) (Nat.le_of_ble_eq_true rfl) (Nat.le_of_ble_eq_true rfl)).trans (ax_bnd fun u2 => ?_)
        refine (E_i2l c_170_53).trans ?_
        exact E_rL c_170_54 mi_170
set_option maxHeartbeats 4000000 in
theorem u_277_82 (d : Nat) (σ : ax_S) (x1 : Int32) : ev sO (d + 4) 277 0 [.ref 82, .int x1, .null, .null, .null, .null, .null] [] σ = (cI sO (d + 3) 198 [.long x1.toInt64, .long (0 : Int64), .long (11 : Int64)] (sI σ 82 0 (0 : Int32))).bind fun u0 => if u0.1 = 0 then (some (some (.long (-9000000000000000001 : Int64)), u0.2)) else (if (u0.2.1 88 0) = 0 then (some (some (.long (-9000000000000000002 : Int64)), u0.2)) else (ev sO (d + 4) 277 36 [.ref 82, .int x1, .int (0 : Int32), .null, .null, .null, .null] [] u0.2)) := by
  refine (E_al c_277_0 rfl (by decide)).trans ?_
  refine (E_ic (v := (0 : Int32)) c_277_1 (by decide)).trans ?_
  refine (E_pfi (k := 0) c_277_2 sh_82 rfl rfl rfl).trans ?_
  refine (E_il c_277_5 rfl).trans ?_
  refine (E_i2l c_277_6).trans ?_
  refine (E_lc (v := (0 : Int64)) c_277_7 (by decide)).trans ?_
  refine (E_l2 (v := (11 : Int64)) c_277_8 (by decide)).trans ?_
  refine (E_cIS c_277_11 mi_198 rfl rfl (Nat.le_of_ble_eq_true rfl) (Nat.le_of_ble_eq_true rfl)).trans (ax_bnd fun u0 => ?_)
  refine (E_b0_ne (q := 21) c_277_14 rfl).trans (ax_ite ?_ ?_)
  · refine (E_l2 (v := (-9000000000000000001 : Int64)) c_277_17 (by decide)).trans ?_
    exact E_rL c_277_20 mi_277
  · refine (E_al c_277_21 rfl (by decide)).trans ?_
    refine (E_gfr (k := 8) (r := 88) c_277_22 sh_82 rfl rfl rfl).trans ?_
    refine (E_ic (v := (0 : Int32)) c_277_25 (by decide)).trans ?_
    refine (E_ialk (k := 0) c_277_26 sh_88 (by decide) (by decide)).trans ?_
    refine (E_b0_ne (q := 34) c_277_27 rfl).trans (ax_ite ?_ ?_)
    · refine (E_l2 (v := (-9000000000000000002 : Int64)) c_277_30 (by decide)).trans ?_
      exact E_rL c_277_33 mi_277
    · refine (E_ic (v := (0 : Int32)) c_277_34 (by decide)).trans ?_
      refine (E_is (L' := [.ref 82, .int x1, .int (0 : Int32), .null, .null, .null, .null]) c_277_35 (Nat.le_of_ble_eq_true rfl) rfl).trans ?_
      rfl
set_option maxHeartbeats 4000000 in
theorem u_277_82p36 (d : Nat) (σ : ax_S) (x1 : Int32) (x2 : Int32) (w3 : Value) (hw3 : w3.category = 1) (w4 : Value) (hw4 : w4.category = 1) (w5 : Value) (hw5 : w5.category = 1) (w6 : Value) (hw6 : w6.category = 1) : ev sO (d + 4) 277 36 [.ref 82, .int x1, .int x2, w3, w4, w5, w6] [] σ = if x2 < (σ.1 88 0) then (gd (0 ≤ x2.toInt ∧ x2.toInt < (12 : Nat)) (ev sO (d + 4) 277 57 [.ref 82, .int x1, .int x2, .int (0 : Int32), w4, w5, w6] [] (sI σ 100 x2.toNatClampNeg ((1 : Int32) <<< (x2 &&& 31))))) else (ev sO (d + 4) 277 121 [.ref 82, .int x1, .int (((1 : Int32) <<< ((σ.1 88 0) &&& 31)) - (1 : Int32)), .int (((1 : Int32) <<< ((σ.1 88 0) &&& 31)) - (1 : Int32)), .int (1 : Int32), w5, w6] [] σ) := by
  refine (E_il c_277_36 rfl).trans ?_
  refine (E_al c_277_37 rfl (by decide)).trans ?_
  refine (E_gfr (k := 8) (r := 88) c_277_38 sh_82 rfl rfl rfl).trans ?_
  refine (E_ic (v := (0 : Int32)) c_277_41 (by decide)).trans ?_
  refine (E_ialk (k := 0) c_277_42 sh_88 (by decide) (by decide)).trans ?_
  refine (E_br_ge (q := 105) c_277_43 rfl).trans (ax_ite ?_ ?_)
  · refine (E_al c_277_46 rfl (by decide)).trans ?_
    refine (E_gfr (k := 38) (r := 100) c_277_47 sh_82 rfl rfl rfl).trans ?_
    refine (E_il c_277_50 rfl).trans ?_
    refine (E_ic (v := (1 : Int32)) c_277_51 (by decide)).trans ?_
    refine (E_il c_277_52 rfl).trans ?_
    refine (E_ishl c_277_53).trans ?_
    refine (E_ias (v := ((1 : Int32) <<< (x2 &&& 31))) c_277_54 sh_100 rfl).trans (ax_gd ?_)
    refine (E_ic (v := (0 : Int32)) c_277_55 (by decide)).trans ?_
    refine (E_is (L' := [.ref 82, .int x1, .int x2, .int (0 : Int32), w4, w5, w6]) c_277_56 (Nat.le_of_ble_eq_true rfl) rfl).trans ?_
    rfl
  · refine (E_ic (v := (1 : Int32)) c_277_105 (by decide)).trans ?_
    refine (E_al c_277_106 rfl (by decide)).trans ?_
    refine (E_gfr (k := 8) (r := 88) c_277_107 sh_82 rfl rfl rfl).trans ?_
    refine (E_ic (v := (0 : Int32)) c_277_110 (by decide)).trans ?_
    refine (E_ialk (k := 0) c_277_111 sh_88 (by decide) (by decide)).trans ?_
    refine (E_ishl c_277_112).trans ?_
    refine (E_ic (v := (1 : Int32)) c_277_113 (by decide)).trans ?_
    refine (E_isub c_277_114).trans ?_
    refine (E_is (L' := [.ref 82, .int x1, .int (((1 : Int32) <<< ((σ.1 88 0) &&& 31)) - (1 : Int32)), w3, w4, w5, w6]) c_277_115 (Nat.le_of_ble_eq_true rfl) rfl).trans ?_
    refine (E_il c_277_116 rfl).trans ?_
    refine (E_is (L' := [.ref 82, .int x1, .int (((1 : Int32) <<< ((σ.1 88 0) &&& 31)) - (1 : Int32)), .int (((1 : Int32) <<< ((σ.1 88 0) &&& 31)) - (1 : Int32)), w4, w5, w6]) c_277_117 (Nat.le_of_ble_eq_true rfl) rfl).trans ?_
    refine (E_ic (v := (1 : Int32)) c_277_118 (by decide)).trans ?_
    refine (E_is (L' := [.ref 82, .int x1, .int (((1 : Int32) <<< ((σ.1 88 0) &&& 31)) - (1 : Int32)), .int (((1 : Int32) <<< ((σ.1 88 0) &&& 31)) - (1 : Int32)), .int (1 : Int32), w5, w6]) c_277_119 (Nat.le_of_ble_eq_true rfl) rfl).trans ?_
    rfl
set_option maxHeartbeats 4000000 in
theorem u_277_82p57 (d : Nat) (σ : ax_S) (x1 : Int32) (x2 : Int32) (x3 : Int32) (w4 : Value) (hw4 : w4.category = 1) (w5 : Value) (hw5 : w5.category = 1) (w6 : Value) (hw6 : w6.category = 1) : ev sO (d + 4) 277 57 [.ref 82, .int x1, .int x2, .int x3, w4, w5, w6] [] σ = if x3 < (σ.1 88 0) then (gd (0 ≤ x2.toInt ∧ x2.toInt < (12 : Nat)) ((cI sO (d + 3) 244 [.ref 82, .int x2, .int x3] σ).bind fun u0 => if x1 < u0.1 then (gd (0 ≤ x2.toInt ∧ x2.toInt < (12 : Nat)) (ev sO (d + 4) 277 57 [.ref 82, .int x1, .int x2, .int (x3 + (1 : Int32)), w4, w5, w6] [] (sI u0.2 100 x2.toNatClampNeg ((σ.1 100 x2.toNatClampNeg) ||| (0 : Int32))))) else (gd (0 ≤ x2.toInt ∧ x2.toInt < (12 : Nat)) (ev sO (d + 4) 277 57 [.ref 82, .int x1, .int x2, .int (x3 + (1 : Int32)), w4, w5, w6] [] (sI u0.2 100 x2.toNatClampNeg ((σ.1 100 x2.toNatClampNeg) ||| ((1 : Int32) <<< (x3 &&& 31)))))))) else (ev sO (d + 4) 277 36 [.ref 82, .int x1, .int (x2 + (1 : Int32)), .int x3, w4, w5, w6] [] σ) := by
  refine (E_il c_277_57 rfl).trans ?_
  refine (E_al c_277_58 rfl (by decide)).trans ?_
  refine (E_gfr (k := 8) (r := 88) c_277_59 sh_82 rfl rfl rfl).trans ?_
  refine (E_ic (v := (0 : Int32)) c_277_62 (by decide)).trans ?_
  refine (E_ialk (k := 0) c_277_63 sh_88 (by decide) (by decide)).trans ?_
  refine (E_br_ge (q := 99) c_277_64 rfl).trans (ax_ite ?_ ?_)
  · refine (E_al c_277_67 rfl (by decide)).trans ?_
    refine (E_gfr (k := 38) (r := 100) c_277_68 sh_82 rfl rfl rfl).trans ?_
    refine (E_il c_277_71 rfl).trans ?_
    refine (E_dup2 c_277_72 ⟨rfl, rfl⟩).trans ?_
    refine (E_ial c_277_73 sh_100).trans (ax_gd ?_)
    refine (E_al c_277_74 rfl (by decide)).trans ?_
    refine (E_il c_277_75 rfl).trans ?_
    refine (E_il c_277_76 rfl).trans ?_
    refine (E_cIV c_277_77 mi_244 rfl rfl (sO_kl sh_82) (Nat.le_of_ble_eq_true rfl) (Nat.le_of_ble_eq_true rfl)).trans (ax_bnd fun u0 => ?_)
    refine (E_il c_277_80 rfl).trans ?_
    refine (E_br_gt (q := 90) c_277_81 rfl).trans (ax_ite ?_ ?_)
    · refine (E_ic (v := (0 : Int32)) c_277_90 (by decide)).trans ?_
      refine (E_ior c_277_91).trans ?_
      refine (E_ias (v := ((σ.1 100 x2.toNatClampNeg) ||| (0 : Int32))) c_277_92 sh_100 rfl).trans (ax_gd ?_)
      refine (E_inc (v := (1 : Int32)) (L' := [.ref 82, .int x1, .int x2, .int (x3 + (1 : Int32)), w4, w5, w6]) c_277_93 rfl (by decide) rfl).trans ?_
      refine (E_goto (q := 57) c_277_96 rfl).trans ?_
      rfl
    · refine (E_ic (v := (1 : Int32)) c_277_84 (by decide)).trans ?_
      refine (E_il c_277_85 rfl).trans ?_
      refine (E_ishl c_277_86).trans ?_
      refine (E_goto (q := 91) c_277_87 rfl).trans ?_
      refine (E_ior c_277_91).trans ?_
      refine (E_ias (v := ((σ.1 100 x2.toNatClampNeg) ||| ((1 : Int32) <<< (x3 &&& 31)))) c_277_92 sh_100 rfl).trans (ax_gd ?_)
      refine (E_inc (v := (1 : Int32)) (L' := [.ref 82, .int x1, .int x2, .int (x3 + (1 : Int32)), w4, w5, w6]) c_277_93 rfl (by decide) rfl).trans ?_
      refine (E_goto (q := 57) c_277_96 rfl).trans ?_
      rfl
  · refine (E_inc (v := (1 : Int32)) (L' := [.ref 82, .int x1, .int (x2 + (1 : Int32)), .int x3, w4, w5, w6]) c_277_99 rfl (by decide) rfl).trans ?_
    refine (E_goto (q := 36) c_277_102 rfl).trans ?_
    rfl
set_option maxHeartbeats 4000000 in
theorem u_277_82p121 (d : Nat) (σ : ax_S) (w1 : Value) (hw1 : w1.category = 1) (x2 : Int32) (x3 : Int32) (x4 : Int32) (w5 : Value) (hw5 : w5.category = 1) (w6 : Value) (hw6 : w6.category = 1) : ev sO (d + 4) 277 121 [.ref 82, w1, .int x2, .int x3, .int x4, w5, w6] [] σ = if x4 < x2 then (ev sO (d + 4) 277 133 [.ref 82, w1, .int x2, .int x3, .int x4, .int (0 : Int32), .int (0 : Int32)] [] σ) else (some (some (.long x3.toInt64), σ)) := by
  refine (E_il c_277_121 rfl).trans ?_
  refine (E_il c_277_123 rfl).trans ?_
  refine (E_br_ge (q := 208) c_277_124 rfl).trans (ax_ite ?_ ?_)
  · refine (E_ic (v := (0 : Int32)) c_277_127 (by decide)).trans ?_
    refine (E_is (L' := [.ref 82, w1, .int x2, .int x3, .int x4, .int (0 : Int32), w6]) c_277_128 (Nat.le_of_ble_eq_true rfl) rfl).trans ?_
    refine (E_ic (v := (0 : Int32)) c_277_130 (by decide)).trans ?_
    refine (E_is (L' := [.ref 82, w1, .int x2, .int x3, .int x4, .int (0 : Int32), .int (0 : Int32)]) c_277_131 (Nat.le_of_ble_eq_true rfl) rfl).trans ?_
    rfl
  · refine (E_il c_277_208 rfl).trans ?_
    refine (E_i2l c_277_209).trans ?_
    exact E_rL c_277_210 mi_277
set_option maxHeartbeats 4000000 in
theorem u_277_82p133 (d : Nat) (σ : ax_S) (w1 : Value) (hw1 : w1.category = 1) (x2 : Int32) (x3 : Int32) (x4 : Int32) (x5 : Int32) (x6 : Int32) : ev sO (d + 4) 277 133 [.ref 82, w1, .int x2, .int x3, .int x4, .int x5, .int x6] [] σ = if x6 < (σ.1 88 0) then (if ((x4 >>> (x6 &&& 31)) &&& (1 : Int32)) = (1 : Int32) then (gd (0 ≤ x6.toInt ∧ x6.toInt < (12 : Nat)) (ev sO (d + 4) 277 133 [.ref 82, w1, .int x2, .int x3, .int x4, .int (x5 ||| (σ.1 100 x6.toNatClampNeg)), .int (x6 + (1 : Int32))] [] σ)) else (ev sO (d + 4) 277 133 [.ref 82, w1, .int x2, .int x3, .int x4, .int (x5 ||| (0 : Int32)), .int (x6 + (1 : Int32))] [] σ)) else (if x5 = x2 then ((cI sO (d + 3) 240 [.int x4] σ).bind fun u0 => (cI sO (d + 3) 240 [.int x3] u0.2).bind fun u1 => if u0.1 < u1.1 then (ev sO (d + 4) 277 121 [.ref 82, w1, .int x2, .int x4, .int (x4 + (1 : Int32)), .int x5, .int x6] [] u1.2) else (ev sO (d + 4) 277 121 [.ref 82, w1, .int x2, .int x3, .int (x4 + (1 : Int32)), .int x5, .int x6] [] u1.2)) else (ev sO (d + 4) 277 121 [.ref 82, w1, .int x2, .int x3, .int (x4 + (1 : Int32)), .int x5, .int x6] [] σ)) := by
  refine (E_il c_277_133 rfl).trans ?_
  refine (E_al c_277_135 rfl (by decide)).trans ?_
  refine (E_gfr (k := 8) (r := 88) c_277_136 sh_82 rfl rfl rfl).trans ?_
  refine (E_ic (v := (0 : Int32)) c_277_139 (by decide)).trans ?_
  refine (E_ialk (k := 0) c_277_140 sh_88 (by decide) (by decide)).trans ?_
  refine (E_br_ge (q := 177) c_277_141 rfl).trans (ax_ite ?_ ?_)
  · refine (E_il c_277_144 rfl).trans ?_
    refine (E_il c_277_146 rfl).trans ?_
    refine (E_il c_277_148 rfl).trans ?_
    refine (E_ishr c_277_150).trans ?_
    refine (E_ic (v := (1 : Int32)) c_277_151 (by decide)).trans ?_
    refine (E_iand c_277_152).trans ?_
    refine (E_ic (v := (1 : Int32)) c_277_153 (by decide)).trans ?_
    refine (E_br_ne (q := 167) c_277_154 rfl).trans (ax_ite ?_ ?_)
    · refine (E_al c_277_157 rfl (by decide)).trans ?_
      refine (E_gfr (k := 38) (r := 100) c_277_158 sh_82 rfl rfl rfl).trans ?_
      refine (E_il c_277_161 rfl).trans ?_
      refine (E_ial c_277_163 sh_100).trans (ax_gd ?_)
      refine (E_goto (q := 168) c_277_164 rfl).trans ?_
      refine (E_ior c_277_168).trans ?_
      refine (E_is (L' := [.ref 82, w1, .int x2, .int x3, .int x4, .int (x5 ||| (σ.1 100 x6.toNatClampNeg)), .int x6]) c_277_169 (Nat.le_of_ble_eq_true rfl) rfl).trans ?_
      refine (E_inc (v := (1 : Int32)) (L' := [.ref 82, w1, .int x2, .int x3, .int x4, .int (x5 ||| (σ.1 100 x6.toNatClampNeg)), .int (x6 + (1 : Int32))]) c_277_171 rfl (by decide) rfl).trans ?_
      refine (E_goto (q := 133) c_277_174 rfl).trans ?_
      rfl
    · refine (E_ic (v := (0 : Int32)) c_277_167 (by decide)).trans ?_
      refine (E_ior c_277_168).trans ?_
      refine (E_is (L' := [.ref 82, w1, .int x2, .int x3, .int x4, .int (x5 ||| (0 : Int32)), .int x6]) c_277_169 (Nat.le_of_ble_eq_true rfl) rfl).trans ?_
      refine (E_inc (v := (1 : Int32)) (L' := [.ref 82, w1, .int x2, .int x3, .int x4, .int (x5 ||| (0 : Int32)), .int (x6 + (1 : Int32))]) c_277_171 rfl (by decide) rfl).trans ?_
      refine (E_goto (q := 133) c_277_174 rfl).trans ?_
      rfl
  · refine (E_il c_277_177 rfl).trans ?_
    refine (E_il c_277_179 rfl).trans ?_
    refine (E_br_ne (q := 200) c_277_180 rfl).trans (ax_ite ?_ ?_)
    · refine (E_il c_277_183 rfl).trans ?_
      refine (E_cIS c_277_185 mi_240 rfl rfl (Nat.le_of_ble_eq_true rfl) (Nat.le_of_ble_eq_true rfl)).trans (ax_bnd fun u0 => ?_)
      refine (E_il c_277_188 rfl).trans ?_
      refine (E_cIS c_277_189 mi_240 rfl rfl (Nat.le_of_ble_eq_true rfl) (Nat.le_of_ble_eq_true rfl)).trans (ax_bnd fun u1 => ?_)
      refine (E_br_ge (q := 200) c_277_192 rfl).trans (ax_ite ?_ ?_)
      · refine (E_il c_277_195 rfl).trans ?_
        refine (E_goto (q := 201) c_277_197 rfl).trans ?_
        refine (E_is (L' := [.ref 82, w1, .int x2, .int x4, .int x4, .int x5, .int x6]) c_277_201 (Nat.le_of_ble_eq_true rfl) rfl).trans ?_
        refine (E_inc (v := (1 : Int32)) (L' := [.ref 82, w1, .int x2, .int x4, .int (x4 + (1 : Int32)), .int x5, .int x6]) c_277_202 rfl (by decide) rfl).trans ?_
        refine (E_goto (q := 121) c_277_205 rfl).trans ?_
        rfl
      · refine (E_il c_277_200 rfl).trans ?_
        refine (E_is (L' := [.ref 82, w1, .int x2, .int x3, .int x4, .int x5, .int x6]) c_277_201 (Nat.le_of_ble_eq_true rfl) rfl).trans ?_
        refine (E_inc (v := (1 : Int32)) (L' := [.ref 82, w1, .int x2, .int x3, .int (x4 + (1 : Int32)), .int x5, .int x6]) c_277_202 rfl (by decide) rfl).trans ?_
        refine (E_goto (q := 121) c_277_205 rfl).trans ?_
        rfl
    · refine (E_il c_277_200 rfl).trans ?_
      refine (E_is (L' := [.ref 82, w1, .int x2, .int x3, .int x4, .int x5, .int x6]) c_277_201 (Nat.le_of_ble_eq_true rfl) rfl).trans ?_
      refine (E_inc (v := (1 : Int32)) (L' := [.ref 82, w1, .int x2, .int x3, .int (x4 + (1 : Int32)), .int x5, .int x6]) c_277_202 rfl (by decide) rfl).trans ?_
      refine (E_goto (q := 121) c_277_205 rfl).trans ?_
      rfl
set_option maxHeartbeats 4000000 in
theorem u_173_0 (d : Nat) (σ : ax_S) (x1 : Int32) : ev sO (d + 2) 173 0 [.ref 0, .int x1] [] σ = if x1 < 0 then (some (some (.long (-9000000000000000001 : Int64)), σ)) else (if (1 : Int32) < x1 then (some (some (.long (-9000000000000000001 : Int64)), σ)) else ((cI sO (d + 1) 67 [.ref 8] σ).bind fun u0 => if u0.1 = 0 then (some (some (.long (-9000000000000000002 : Int64)), u0.2)) else (if x1 = 0 then ((cV sO (d + 1) 175 [.ref 22, .ref 7] u0.2).bind fun u1 => some (some (.long (1 : Int64)), u1)) else ((cV sO (d + 1) 175 [.ref 37, .ref 7] u0.2).bind fun u2 => some (some (.long (1 : Int64)), u2))))) := by
  refine (E_il c_173_0 rfl).trans ?_
  refine (E_b0_lt (q := 9) c_173_1 rfl).trans (ax_ite ?_ ?_)
  · refine (E_l2 (v := (-9000000000000000001 : Int64)) c_173_9 (by decide)).trans ?_
    exact E_rL c_173_12 mi_173
  · refine (E_il c_173_4 rfl).trans ?_
    refine (E_ic (v := (1 : Int32)) c_173_5 (by decide)).trans ?_
    refine (E_br_le (q := 13) c_173_6 rfl).trans (ax_ite ?_ ?_)
    · refine (E_l2 (v := (-9000000000000000001 : Int64)) c_173_9 (by decide)).trans ?_
      exact E_rL c_173_12 mi_173
    · refine (E_al c_173_13 rfl (by decide)).trans ?_
      refine (E_gfr (k := 2) (r := 7) c_173_14 sh_0 rfl rfl rfl).trans ?_
      refine (E_gfr (k := 0) (r := 8) c_173_17 sh_7 rfl rfl rfl).trans ?_
      refine (E_cIV c_173_20 mi_67 rfl rfl (sO_kl sh_8) (Nat.le_of_ble_eq_true rfl) (Nat.le_of_ble_eq_true rfl)).trans (ax_bnd fun u0 => ?_)
      refine (E_b0_ne (q := 30) c_173_23 rfl).trans (ax_ite ?_ ?_)
      · refine (E_l2 (v := (-9000000000000000002 : Int64)) c_173_26 (by decide)).trans ?_
        exact E_rL c_173_29 mi_173
      · refine (E_al c_173_30 rfl (by decide)).trans ?_
        refine (E_il c_173_31 rfl).trans ?_
        refine (E_img c_173_32 mi_174 (Nat.le_of_ble_eq_true rfl)).trans (ax_ite ?_ ?_)
        · refine (E_al c_173_35 rfl (by decide)).trans ?_
          refine (E_gfr (k := 2) (r := 7) c_173_36 sh_0 rfl rfl rfl).trans ?_
          refine (E_cVV c_173_39 mi_175 rfl (sO_kl sh_22) (Nat.le_of_ble_eq_true rfl) (Nat.le_of_ble_eq_true rfl)).trans (ax_bnd fun u1 => ?_)
          refine (E_lc (v := (1 : Int64)) c_173_42 (by decide)).trans ?_
          exact E_rL c_173_43 mi_173
        · refine (E_al c_173_35 rfl (by decide)).trans ?_
          refine (E_gfr (k := 2) (r := 7) c_173_36 sh_0 rfl rfl rfl).trans ?_
          refine (E_cVV c_173_39 mi_175 rfl (sO_kl sh_37) (Nat.le_of_ble_eq_true rfl) (Nat.le_of_ble_eq_true rfl)).trans (ax_bnd fun u2 => ?_)
          refine (E_lc (v := (1 : Int64)) c_173_42 (by decide)).trans ?_
          exact E_rL c_173_43 mi_173
set_option maxHeartbeats 4000000 in
theorem u_278_82 (d : Nat) (σ : ax_S) (x1 : Int32) : ev sO (d + 1) 278 0 [.ref 82, .int x1, .null] [] σ = (cI sO d 198 [.long x1.toInt64, .long (0 : Int64), .long (1 : Int64)] (sI σ 82 0 (0 : Int32))).bind fun u0 => if u0.1 = 0 then (some (some (.long (-9000000000000000001 : Int64)), u0.2)) else (if (u0.2.1 82 7) = 0 then (some (some (.long (-9000000000000000002 : Int64)), u0.2)) else (ev sO (d + 1) 278 32 [.ref 82, .int x1, .int (0 : Int32)] [] u0.2)) := by
  refine (E_al c_278_0 rfl (by decide)).trans ?_
  refine (E_ic (v := (0 : Int32)) c_278_1 (by decide)).trans ?_
  refine (E_pfi (k := 0) c_278_2 sh_82 rfl rfl rfl).trans ?_
  refine (E_il c_278_5 rfl).trans ?_
  refine (E_i2l c_278_6).trans ?_
  refine (E_lc (v := (0 : Int64)) c_278_7 (by decide)).trans ?_
  refine (E_lc (v := (1 : Int64)) c_278_8 (by decide)).trans ?_
  refine (E_cIS c_278_9 mi_198 rfl rfl (Nat.le_of_ble_eq_true rfl) (Nat.le_of_ble_eq_true rfl)).trans (ax_bnd fun u0 => ?_)
  refine (E_b0_ne (q := 19) c_278_12 rfl).trans (ax_ite ?_ ?_)
  · refine (E_l2 (v := (-9000000000000000001 : Int64)) c_278_15 (by decide)).trans ?_
    exact E_rL c_278_18 mi_278
  · refine (E_al c_278_19 rfl (by decide)).trans ?_
    refine (E_gfi (k := 7) c_278_20 sh_82 rfl rfl rfl (by decide)).trans ?_
    refine (E_b0_ne (q := 30) c_278_23 rfl).trans (ax_ite ?_ ?_)
    · refine (E_l2 (v := (-9000000000000000002 : Int64)) c_278_26 (by decide)).trans ?_
      exact E_rL c_278_29 mi_278
    · refine (E_ic (v := (0 : Int32)) c_278_30 (by decide)).trans ?_
      refine (E_is (L' := [.ref 82, .int x1, .int (0 : Int32)]) c_278_31 (Nat.le_of_ble_eq_true rfl) rfl).trans ?_
      rfl
set_option maxHeartbeats 4000000 in
theorem u_278_82p32 (d : Nat) (σ : ax_S) (x1 : Int32) (x2 : Int32) : ev sO (d + 1) 278 32 [.ref 82, .int x1, .int x2] [] σ = if x2 < (102 : Int32) then (gd (0 ≤ x2.toInt ∧ x2.toInt < (102 : Nat)) (gd (0 ≤ (((102 : Int32) * x1) + x2).toInt ∧ (((102 : Int32) * x1) + x2).toInt < (204 : Nat)) (ev sO (d + 1) 278 32 [.ref 82, .int x1, .int (x2 + (1 : Int32))] [] (sI σ 102 (((102 : Int32) * x1) + x2).toNatClampNeg (σ.1 86 x2.toNatClampNeg))))) else (ev sO (d + 1) 278 63 [.ref 82, .int x1, .int (0 : Int32)] [] σ) := by
  refine (E_il c_278_32 rfl).trans ?_
  refine (E_ic (v := (102 : Int32)) c_278_33 (by decide)).trans ?_
  refine (E_br_ge (q := 61) c_278_35 rfl).trans (ax_ite ?_ ?_)
  · refine (E_al c_278_38 rfl (by decide)).trans ?_
    refine (E_gfr (k := 40) (r := 102) c_278_39 sh_82 rfl rfl rfl).trans ?_
    refine (E_ic (v := (102 : Int32)) c_278_42 (by decide)).trans ?_
    refine (E_il c_278_44 rfl).trans ?_
    refine (E_imul c_278_45).trans ?_
    refine (E_il c_278_46 rfl).trans ?_
    refine (E_iadd c_278_47).trans ?_
    refine (E_al c_278_48 rfl (by decide)).trans ?_
    refine (E_gfr (k := 5) (r := 86) c_278_49 sh_82 rfl rfl rfl).trans ?_
    refine (E_il c_278_52 rfl).trans ?_
    refine (E_ial c_278_53 sh_86).trans (ax_gd ?_)
    refine (E_ias (v := (σ.1 86 x2.toNatClampNeg)) c_278_54 sh_102 rfl).trans (ax_gd ?_)
    refine (E_inc (v := (1 : Int32)) (L' := [.ref 82, .int x1, .int (x2 + (1 : Int32))]) c_278_55 rfl (by decide) rfl).trans ?_
    refine (E_goto (q := 32) c_278_58 rfl).trans ?_
    rfl
  · refine (E_ic (v := (0 : Int32)) c_278_61 (by decide)).trans ?_
    refine (E_is (L' := [.ref 82, .int x1, .int (0 : Int32)]) c_278_62 (Nat.le_of_ble_eq_true rfl) rfl).trans ?_
    rfl
set_option maxHeartbeats 4000000 in
theorem u_278_82p63 (d : Nat) (σ : ax_S) (x1 : Int32) (x2 : Int32) : ev sO (d + 1) 278 63 [.ref 82, .int x1, .int x2] [] σ = if x2 < (181 : Int32) then (gd (0 ≤ x2.toInt ∧ x2.toInt < (181 : Nat)) (gd (0 ≤ (((181 : Int32) * x1) + x2).toInt ∧ (((181 : Int32) * x1) + x2).toInt < (362 : Nat)) (ev sO (d + 1) 278 63 [.ref 82, .int x1, .int (x2 + (1 : Int32))] [] (sI σ 103 (((181 : Int32) * x1) + x2).toNatClampNeg (σ.1 88 x2.toNatClampNeg))))) else (gd (0 ≤ x1.toInt ∧ x1.toInt < (2 : Nat)) (some (some (.long (1 : Int64)), (sI σ 101 x1.toNatClampNeg (1 : Int32))))) := by
  refine (E_il c_278_63 rfl).trans ?_
  refine (E_ic (v := (181 : Int32)) c_278_64 (by decide)).trans ?_
  refine (E_br_ge (q := 94) c_278_67 rfl).trans (ax_ite ?_ ?_)
  · refine (E_al c_278_70 rfl (by decide)).trans ?_
    refine (E_gfr (k := 41) (r := 103) c_278_71 sh_82 rfl rfl rfl).trans ?_
    refine (E_ic (v := (181 : Int32)) c_278_74 (by decide)).trans ?_
    refine (E_il c_278_77 rfl).trans ?_
    refine (E_imul c_278_78).trans ?_
    refine (E_il c_278_79 rfl).trans ?_
    refine (E_iadd c_278_80).trans ?_
    refine (E_al c_278_81 rfl (by decide)).trans ?_
    refine (E_gfr (k := 8) (r := 88) c_278_82 sh_82 rfl rfl rfl).trans ?_
    refine (E_il c_278_85 rfl).trans ?_
    refine (E_ial c_278_86 sh_88).trans (ax_gd ?_)
    refine (E_ias (v := (σ.1 88 x2.toNatClampNeg)) c_278_87 sh_103 rfl).trans (ax_gd ?_)
    refine (E_inc (v := (1 : Int32)) (L' := [.ref 82, .int x1, .int (x2 + (1 : Int32))]) c_278_88 rfl (by decide) rfl).trans ?_
    refine (E_goto (q := 63) c_278_91 rfl).trans ?_
    rfl
  · refine (E_al c_278_94 rfl (by decide)).trans ?_
    refine (E_gfr (k := 39) (r := 101) c_278_95 sh_82 rfl rfl rfl).trans ?_
    refine (E_il c_278_98 rfl).trans ?_
    refine (E_ic (v := (1 : Int32)) c_278_99 (by decide)).trans ?_
    refine (E_basz (v := (1 : Int32)) c_278_100 sh_101 (by decide)).trans (ax_gd ?_)
    refine (E_lc (v := (1 : Int64)) c_278_101 (by decide)).trans ?_
    exact E_rL c_278_102 mi_278
set_option maxHeartbeats 4000000 in
theorem u_177_0 (d : Nat) (σ : ax_S) (x1 : Int32) : ev sO (d + 2) 177 0 [.ref 0, .int x1] [] σ = if x1 < 0 then (some (some (.long (-9000000000000000001 : Int64)), σ)) else (if (1 : Int32) < x1 then (some (some (.long (-9000000000000000001 : Int64)), σ)) else (if x1 = 0 then ((cI sO (d + 1) 67 [.ref 23] σ).bind fun u0 => if u0.1 = 0 then (some (some (.long (-9000000000000000002 : Int64)), u0.2)) else (if x1 = 0 then ((cV sO (d + 1) 175 [.ref 7, .ref 22] u0.2).bind fun u1 => some (some (.long (1 : Int64)), u1)) else ((cV sO (d + 1) 175 [.ref 7, .ref 37] u0.2).bind fun u2 => some (some (.long (1 : Int64)), u2)))) else ((cI sO (d + 1) 67 [.ref 38] σ).bind fun u3 => if u3.1 = 0 then (some (some (.long (-9000000000000000002 : Int64)), u3.2)) else (if x1 = 0 then ((cV sO (d + 1) 175 [.ref 7, .ref 22] u3.2).bind fun u4 => some (some (.long (1 : Int64)), u4)) else ((cV sO (d + 1) 175 [.ref 7, .ref 37] u3.2).bind fun u5 => some (some (.long (1 : Int64)), u5)))))) := by
  refine (E_il c_177_0 rfl).trans ?_
  refine (E_b0_lt (q := 9) c_177_1 rfl).trans (ax_ite ?_ ?_)
  · refine (E_l2 (v := (-9000000000000000001 : Int64)) c_177_9 (by decide)).trans ?_
    exact E_rL c_177_12 mi_177
  · refine (E_il c_177_4 rfl).trans ?_
    refine (E_ic (v := (1 : Int32)) c_177_5 (by decide)).trans ?_
    refine (E_br_le (q := 13) c_177_6 rfl).trans (ax_ite ?_ ?_)
    · refine (E_l2 (v := (-9000000000000000001 : Int64)) c_177_9 (by decide)).trans ?_
      exact E_rL c_177_12 mi_177
    · refine (E_al c_177_13 rfl (by decide)).trans ?_
      refine (E_il c_177_14 rfl).trans ?_
      refine (E_img c_177_15 mi_174 (Nat.le_of_ble_eq_true rfl)).trans (ax_ite ?_ ?_)
      · refine (E_gfr (k := 0) (r := 23) c_177_18 sh_22 rfl rfl rfl).trans ?_
        refine (E_cIV c_177_21 mi_67 rfl rfl (sO_kl sh_23) (Nat.le_of_ble_eq_true rfl) (Nat.le_of_ble_eq_true rfl)).trans (ax_bnd fun u0 => ?_)
        refine (E_b0_ne (q := 31) c_177_24 rfl).trans (ax_ite ?_ ?_)
        · refine (E_l2 (v := (-9000000000000000002 : Int64)) c_177_27 (by decide)).trans ?_
          exact E_rL c_177_30 mi_177
        · refine (E_al c_177_31 rfl (by decide)).trans ?_
          refine (E_gfr (k := 2) (r := 7) c_177_32 sh_0 rfl rfl rfl).trans ?_
          refine (E_al c_177_35 rfl (by decide)).trans ?_
          refine (E_il c_177_36 rfl).trans ?_
          refine (E_img c_177_37 mi_174 (Nat.le_of_ble_eq_true rfl)).trans (ax_ite ?_ ?_)
          · refine (E_cVV c_177_40 mi_175 rfl (sO_kl sh_7) (Nat.le_of_ble_eq_true rfl) (Nat.le_of_ble_eq_true rfl)).trans (ax_bnd fun u1 => ?_)
            refine (E_lc (v := (1 : Int64)) c_177_43 (by decide)).trans ?_
            exact E_rL c_177_44 mi_177
          · refine (E_cVV c_177_40 mi_175 rfl (sO_kl sh_7) (Nat.le_of_ble_eq_true rfl) (Nat.le_of_ble_eq_true rfl)).trans (ax_bnd fun u2 => ?_)
            refine (E_lc (v := (1 : Int64)) c_177_43 (by decide)).trans ?_
            exact E_rL c_177_44 mi_177
      · refine (E_gfr (k := 0) (r := 38) c_177_18 sh_37 rfl rfl rfl).trans ?_
        refine (E_cIV c_177_21 mi_67 rfl rfl (sO_kl sh_38) (Nat.le_of_ble_eq_true rfl) (Nat.le_of_ble_eq_true rfl)).trans (ax_bnd fun u3 => ?_)
        refine (E_b0_ne (q := 31) c_177_24 rfl).trans (ax_ite ?_ ?_)
        · refine (E_l2 (v := (-9000000000000000002 : Int64)) c_177_27 (by decide)).trans ?_
          exact E_rL c_177_30 mi_177
        · refine (E_al c_177_31 rfl (by decide)).trans ?_
          refine (E_gfr (k := 2) (r := 7) c_177_32 sh_0 rfl rfl rfl).trans ?_
          refine (E_al c_177_35 rfl (by decide)).trans ?_
          refine (E_il c_177_36 rfl).trans ?_
          refine (E_img c_177_37 mi_174 (Nat.le_of_ble_eq_true rfl)).trans (ax_ite ?_ ?_)
          · refine (E_cVV c_177_40 mi_175 rfl (sO_kl sh_7) (Nat.le_of_ble_eq_true rfl) (Nat.le_of_ble_eq_true rfl)).trans (ax_bnd fun u4 => ?_)
            refine (E_lc (v := (1 : Int64)) c_177_43 (by decide)).trans ?_
            exact E_rL c_177_44 mi_177
          · refine (E_cVV c_177_40 mi_175 rfl (sO_kl sh_7) (Nat.le_of_ble_eq_true rfl) (Nat.le_of_ble_eq_true rfl)).trans (ax_bnd fun u5 => ?_)
            refine (E_lc (v := (1 : Int64)) c_177_43 (by decide)).trans ?_
            exact E_rL c_177_44 mi_177
set_option maxHeartbeats 4000000 in
theorem u_279_82 (d : Nat) (σ : ax_S) (x1 : Int32) : ev sO (d + 1) 279 0 [.ref 82, .int x1, .null] [] σ = (cI sO d 198 [.long x1.toInt64, .long (0 : Int64), .long (1 : Int64)] (sI σ 82 0 (0 : Int32))).bind fun u0 => if u0.1 = 0 then (some (some (.long (-9000000000000000001 : Int64)), u0.2)) else (gd (0 ≤ x1.toInt ∧ x1.toInt < (2 : Nat)) (if (u0.2.1 101 x1.toNatClampNeg) = 0 then (some (some (.long (-9000000000000000002 : Int64)), u0.2)) else (ev sO (d + 1) 279 34 [.ref 82, .int x1, .int (0 : Int32)] [] u0.2))) := by
  refine (E_al c_279_0 rfl (by decide)).trans ?_
  refine (E_ic (v := (0 : Int32)) c_279_1 (by decide)).trans ?_
  refine (E_pfi (k := 0) c_279_2 sh_82 rfl rfl rfl).trans ?_
  refine (E_il c_279_5 rfl).trans ?_
  refine (E_i2l c_279_6).trans ?_
  refine (E_lc (v := (0 : Int64)) c_279_7 (by decide)).trans ?_
  refine (E_lc (v := (1 : Int64)) c_279_8 (by decide)).trans ?_
  refine (E_cIS c_279_9 mi_198 rfl rfl (Nat.le_of_ble_eq_true rfl) (Nat.le_of_ble_eq_true rfl)).trans (ax_bnd fun u0 => ?_)
  refine (E_b0_ne (q := 19) c_279_12 rfl).trans (ax_ite ?_ ?_)
  · refine (E_l2 (v := (-9000000000000000001 : Int64)) c_279_15 (by decide)).trans ?_
    exact E_rL c_279_18 mi_279
  · refine (E_al c_279_19 rfl (by decide)).trans ?_
    refine (E_gfr (k := 39) (r := 101) c_279_20 sh_82 rfl rfl rfl).trans ?_
    refine (E_il c_279_23 rfl).trans ?_
    refine (E_balz c_279_24 sh_101).trans (ax_gd ?_)
    refine (E_b0_ne (q := 32) c_279_25 rfl).trans (ax_ite ?_ ?_)
    · refine (E_l2 (v := (-9000000000000000002 : Int64)) c_279_28 (by decide)).trans ?_
      exact E_rL c_279_31 mi_279
    · refine (E_ic (v := (0 : Int32)) c_279_32 (by decide)).trans ?_
      refine (E_is (L' := [.ref 82, .int x1, .int (0 : Int32)]) c_279_33 (Nat.le_of_ble_eq_true rfl) rfl).trans ?_
      rfl
set_option maxHeartbeats 4000000 in
theorem u_279_82p34 (d : Nat) (σ : ax_S) (x1 : Int32) (x2 : Int32) : ev sO (d + 1) 279 34 [.ref 82, .int x1, .int x2] [] σ = if x2 < (102 : Int32) then (gd (0 ≤ (((102 : Int32) * x1) + x2).toInt ∧ (((102 : Int32) * x1) + x2).toInt < (204 : Nat)) (gd (0 ≤ x2.toInt ∧ x2.toInt < (102 : Nat)) (ev sO (d + 1) 279 34 [.ref 82, .int x1, .int (x2 + (1 : Int32))] [] (sI σ 86 x2.toNatClampNeg (σ.1 102 (((102 : Int32) * x1) + x2).toNatClampNeg))))) else (ev sO (d + 1) 279 65 [.ref 82, .int x1, .int (0 : Int32)] [] σ) := by
  refine (E_il c_279_34 rfl).trans ?_
  refine (E_ic (v := (102 : Int32)) c_279_35 (by decide)).trans ?_
  refine (E_br_ge (q := 63) c_279_37 rfl).trans (ax_ite ?_ ?_)
  · refine (E_al c_279_40 rfl (by decide)).trans ?_
    refine (E_gfr (k := 5) (r := 86) c_279_41 sh_82 rfl rfl rfl).trans ?_
    refine (E_il c_279_44 rfl).trans ?_
    refine (E_al c_279_45 rfl (by decide)).trans ?_
    refine (E_gfr (k := 40) (r := 102) c_279_46 sh_82 rfl rfl rfl).trans ?_
    refine (E_ic (v := (102 : Int32)) c_279_49 (by decide)).trans ?_
    refine (E_il c_279_51 rfl).trans ?_
    refine (E_imul c_279_52).trans ?_
    refine (E_il c_279_53 rfl).trans ?_
    refine (E_iadd c_279_54).trans ?_
    refine (E_ial c_279_55 sh_102).trans (ax_gd ?_)
    refine (E_ias (v := (σ.1 102 (((102 : Int32) * x1) + x2).toNatClampNeg)) c_279_56 sh_86 rfl).trans (ax_gd ?_)
    refine (E_inc (v := (1 : Int32)) (L' := [.ref 82, .int x1, .int (x2 + (1 : Int32))]) c_279_57 rfl (by decide) rfl).trans ?_
    refine (E_goto (q := 34) c_279_60 rfl).trans ?_
    rfl
  · refine (E_ic (v := (0 : Int32)) c_279_63 (by decide)).trans ?_
    refine (E_is (L' := [.ref 82, .int x1, .int (0 : Int32)]) c_279_64 (Nat.le_of_ble_eq_true rfl) rfl).trans ?_
    rfl
set_option maxHeartbeats 4000000 in
theorem u_279_82p65 (d : Nat) (σ : ax_S) (x1 : Int32) (x2 : Int32) : ev sO (d + 1) 279 65 [.ref 82, .int x1, .int x2] [] σ = if x2 < (181 : Int32) then (gd (0 ≤ (((181 : Int32) * x1) + x2).toInt ∧ (((181 : Int32) * x1) + x2).toInt < (362 : Nat)) (gd (0 ≤ x2.toInt ∧ x2.toInt < (181 : Nat)) (ev sO (d + 1) 279 65 [.ref 82, .int x1, .int (x2 + (1 : Int32))] [] (sI σ 88 x2.toNatClampNeg (σ.1 103 (((181 : Int32) * x1) + x2).toNatClampNeg))))) else (some (some (.long (1 : Int64)), σ)) := by
  refine (E_il c_279_65 rfl).trans ?_
  refine (E_ic (v := (181 : Int32)) c_279_66 (by decide)).trans ?_
  refine (E_br_ge (q := 96) c_279_69 rfl).trans (ax_ite ?_ ?_)
  · refine (E_al c_279_72 rfl (by decide)).trans ?_
    refine (E_gfr (k := 8) (r := 88) c_279_73 sh_82 rfl rfl rfl).trans ?_
    refine (E_il c_279_76 rfl).trans ?_
    refine (E_al c_279_77 rfl (by decide)).trans ?_
    refine (E_gfr (k := 41) (r := 103) c_279_78 sh_82 rfl rfl rfl).trans ?_
    refine (E_ic (v := (181 : Int32)) c_279_81 (by decide)).trans ?_
    refine (E_il c_279_84 rfl).trans ?_
    refine (E_imul c_279_85).trans ?_
    refine (E_il c_279_86 rfl).trans ?_
    refine (E_iadd c_279_87).trans ?_
    refine (E_ial c_279_88 sh_103).trans (ax_gd ?_)
    refine (E_ias (v := (σ.1 103 (((181 : Int32) * x1) + x2).toNatClampNeg)) c_279_89 sh_88 rfl).trans (ax_gd ?_)
    refine (E_inc (v := (1 : Int32)) (L' := [.ref 82, .int x1, .int (x2 + (1 : Int32))]) c_279_90 rfl (by decide) rfl).trans ?_
    refine (E_goto (q := 65) c_279_93 rfl).trans ?_
    rfl
  · refine (E_lc (v := (1 : Int64)) c_279_96 (by decide)).trans ?_
    exact E_rL c_279_97 mi_279
set_option maxHeartbeats 4000000 in
theorem u_178_0 (d : Nat) (σ : ax_S) (x1 : Int32) : ev sO (d + 5) 178 0 [.ref 0, .int x1] [] σ = (cI sO (d + 4) 84 [.ref 17, .int x1] σ).bind fun u0 => if u0.1 = 0 then (some (some (.long (-9000000000000000001 : Int64)), u0.2)) else ((cI sO (d + 4) 179 [.ref 7, .int x1] u0.2).bind fun u1 => some (some (.long u1.1.toInt64), u1.2)) := by
  refine (E_al c_178_0 rfl (by decide)).trans ?_
  refine (E_gfr (k := 2) (r := 7) c_178_1 sh_0 rfl rfl rfl).trans ?_
  refine (E_gfr (k := 1) (r := 17) c_178_4 sh_7 rfl rfl rfl).trans ?_
  refine (E_il c_178_7 rfl).trans ?_
  refine (E_cIV c_178_8 mi_84 rfl rfl (sO_kl sh_17) (Nat.le_of_ble_eq_true rfl) (Nat.le_of_ble_eq_true rfl)).trans (ax_bnd fun u0 => ?_)
  refine (E_b0_ne (q := 18) c_178_11 rfl).trans (ax_ite ?_ ?_)
  · refine (E_l2 (v := (-9000000000000000001 : Int64)) c_178_14 (by decide)).trans ?_
    exact E_rL c_178_17 mi_178
  · refine (E_al c_178_18 rfl (by decide)).trans ?_
    refine (E_gfr (k := 2) (r := 7) c_178_19 sh_0 rfl rfl rfl).trans ?_
    refine (E_il c_178_22 rfl).trans ?_
    refine (E_cIV c_178_23 mi_179 rfl rfl (sO_kl sh_7) (Nat.le_of_ble_eq_true rfl) (Nat.le_of_ble_eq_true rfl)).trans (ax_bnd fun u1 => ?_)
    refine (E_i2l c_178_26).trans ?_
    exact E_rL c_178_27 mi_178
set_option maxHeartbeats 4000000 in
theorem u_280_82 (d : Nat) (σ : ax_S) (x1 : Int32) : ev sO (d + 5) 280 0 [.ref 82, .int x1] [] σ = (cI sO (d + 4) 231 [.ref 82, .int x1] (sI σ 82 0 (0 : Int32))).bind fun u0 => if u0.1 = 0 then (some (some (.long (-9000000000000000001 : Int64)), u0.2)) else ((cI sO (d + 4) 281 [.ref 82, .int x1] u0.2).bind fun u1 => some (some (.long u1.1.toInt64), u1.2)) := by
  refine (E_al c_280_0 rfl (by decide)).trans ?_
  refine (E_ic (v := (0 : Int32)) c_280_1 (by decide)).trans ?_
  refine (E_pfi (k := 0) c_280_2 sh_82 rfl rfl rfl).trans ?_
  refine (E_al c_280_5 rfl (by decide)).trans ?_
  refine (E_il c_280_6 rfl).trans ?_
  refine (E_cIV c_280_7 mi_231 rfl rfl (sO_kl sh_82) (Nat.le_of_ble_eq_true rfl) (Nat.le_of_ble_eq_true rfl)).trans (ax_bnd fun u0 => ?_)
  refine (E_b0_eq (q := 22) c_280_10 rfl).trans (ax_ite ?_ ?_)
  · refine (E_l2 (v := (-9000000000000000001 : Int64)) c_280_22 (by decide)).trans ?_
    exact E_rL c_280_25 mi_280
  · refine (E_al c_280_13 rfl (by decide)).trans ?_
    refine (E_il c_280_14 rfl).trans ?_
    refine (E_cIV c_280_15 mi_281 rfl rfl (sO_kl sh_82) (Nat.le_of_ble_eq_true rfl) (Nat.le_of_ble_eq_true rfl)).trans (ax_bnd fun u1 => ?_)
    refine (E_i2l c_280_18).trans ?_
    refine (E_goto (q := 25) c_280_19 rfl).trans ?_
    exact E_rL c_280_25 mi_280
set_option maxHeartbeats 4000000 in
theorem u_180_0 (d : Nat) (σ : ax_S) (x1 : Int32) (x2 : Int32) : ev sO (d + 5) 180 0 [.ref 0, .int x1, .int x2] [] σ = (cI sO (d + 4) 84 [.ref 17, .int x1] σ).bind fun u0 => if u0.1 = 0 then (some (some (.long (-9000000000000000001 : Int64)), u0.2)) else (if x2 < 0 then (some (some (.long (-9000000000000000001 : Int64)), u0.2)) else (if (5 : Int32) < x2 then (some (some (.long (-9000000000000000001 : Int64)), u0.2)) else ((cI sO (d + 4) 179 [.ref 7, .int x1] u0.2).bind fun u1 => (cI sO (d + 4) 181 [.int u1.1, .int x2] u1.2).bind fun u2 => if u2.1 = 0 then ((cL sO (d + 4) 14 [.ref 0, .int (3 : Int32)] u2.2).bind fun u3 => some (some (.long u3.1), u3.2)) else ((cL sO (d + 4) 16 [.ref 0, .long x1.toInt64] u2.2).bind fun u4 => some (some (.long u4.1), u4.2))))) := by
  refine (E_al c_180_0 rfl (by decide)).trans ?_
  refine (E_gfr (k := 2) (r := 7) c_180_1 sh_0 rfl rfl rfl).trans ?_
  refine (E_gfr (k := 1) (r := 17) c_180_4 sh_7 rfl rfl rfl).trans ?_
  refine (E_il c_180_7 rfl).trans ?_
  refine (E_cIV c_180_8 mi_84 rfl rfl (sO_kl sh_17) (Nat.le_of_ble_eq_true rfl) (Nat.le_of_ble_eq_true rfl)).trans (ax_bnd fun u0 => ?_)
  refine (E_b0_eq (q := 23) c_180_11 rfl).trans (ax_ite ?_ ?_)
  · refine (E_l2 (v := (-9000000000000000001 : Int64)) c_180_23 (by decide)).trans ?_
    exact E_rL c_180_26 mi_180
  · refine (E_il c_180_14 rfl).trans ?_
    refine (E_b0_lt (q := 23) c_180_15 rfl).trans (ax_ite ?_ ?_)
    · refine (E_l2 (v := (-9000000000000000001 : Int64)) c_180_23 (by decide)).trans ?_
      exact E_rL c_180_26 mi_180
    · refine (E_il c_180_18 rfl).trans ?_
      refine (E_ic (v := (5 : Int32)) c_180_19 (by decide)).trans ?_
      refine (E_br_le (q := 27) c_180_20 rfl).trans (ax_ite ?_ ?_)
      · refine (E_l2 (v := (-9000000000000000001 : Int64)) c_180_23 (by decide)).trans ?_
        exact E_rL c_180_26 mi_180
      · refine (E_al c_180_27 rfl (by decide)).trans ?_
        refine (E_gfr (k := 2) (r := 7) c_180_28 sh_0 rfl rfl rfl).trans ?_
        refine (E_il c_180_31 rfl).trans ?_
        refine (E_cIV c_180_32 mi_179 rfl rfl (sO_kl sh_7) (Nat.le_of_ble_eq_true rfl) (Nat.le_of_ble_eq_true rfl)).trans (ax_bnd fun u1 => ?_)
        refine (E_il c_180_35 rfl).trans ?_
        refine (E_cIS c_180_36 mi_181 rfl rfl (Nat.le_of_ble_eq_true rfl) (Nat.le_of_ble_eq_true rfl)).trans (ax_bnd fun u2 => ?_)
        refine (E_b0_ne (q := 48) c_180_39 rfl).trans (ax_ite ?_ ?_)
        · refine (E_al c_180_42 rfl (by decide)).trans ?_
          refine (E_ic (v := (3 : Int32)) c_180_43 (by decide)).trans ?_
          refine (E_cLV c_180_44 mi_14 rfl (sO_kl sh_0) (Nat.le_of_ble_eq_true rfl) (Nat.le_of_ble_eq_true rfl)).trans (ax_bnd fun u3 => ?_)
          exact E_rL c_180_47 mi_180
        · refine (E_al c_180_48 rfl (by decide)).trans ?_
          refine (E_il c_180_49 rfl).trans ?_
          refine (E_i2l c_180_50).trans ?_
          refine (E_cLV c_180_51 mi_16 rfl (sO_kl sh_0) (Nat.le_of_ble_eq_true rfl) (Nat.le_of_ble_eq_true rfl)).trans (ax_bnd fun u4 => ?_)
          exact E_rL c_180_54 mi_180
set_option maxHeartbeats 4000000 in
theorem u_282_82 (d : Nat) (σ : ax_S) (x1 : Int32) (x2 : Int32) : ev sO (d + 5) 282 0 [.ref 82, .int x1, .int x2] [] σ = (cI sO (d + 4) 231 [.ref 82, .int x1] (sI σ 82 0 (0 : Int32))).bind fun u0 => if u0.1 = 0 then (some (some (.long (-9000000000000000001 : Int64)), u0.2)) else ((cI sO (d + 4) 198 [.long x2.toInt64, .long (0 : Int64), .long (5 : Int64)] u0.2).bind fun u1 => if u1.1 = 0 then (some (some (.long (-9000000000000000001 : Int64)), u1.2)) else ((cI sO (d + 4) 281 [.ref 82, .int x1] (sI u1.2 82 1 (0 : Int32))).bind fun u2 => (cI sO (d + 4) 283 [.int u2.1, .int x2] u2.2).bind fun u3 => if u3.1 = 0 then ((cL sO (d + 4) 199 [.ref 82, .int (3 : Int32)] u3.2).bind fun u4 => some (some (.long u4.1), u4.2)) else (some (some (.long x1.toInt64), u3.2)))) := by
  refine (E_al c_282_0 rfl (by decide)).trans ?_
  refine (E_ic (v := (0 : Int32)) c_282_1 (by decide)).trans ?_
  refine (E_pfi (k := 0) c_282_2 sh_82 rfl rfl rfl).trans ?_
  refine (E_al c_282_5 rfl (by decide)).trans ?_
  refine (E_il c_282_6 rfl).trans ?_
  refine (E_cIV c_282_7 mi_231 rfl rfl (sO_kl sh_82) (Nat.le_of_ble_eq_true rfl) (Nat.le_of_ble_eq_true rfl)).trans (ax_bnd fun u0 => ?_)
  refine (E_b0_eq (q := 25) c_282_10 rfl).trans (ax_ite ?_ ?_)
  · refine (E_l2 (v := (-9000000000000000001 : Int64)) c_282_25 (by decide)).trans ?_
    exact E_rL c_282_28 mi_282
  · refine (E_il c_282_13 rfl).trans ?_
    refine (E_i2l c_282_14).trans ?_
    refine (E_lc (v := (0 : Int64)) c_282_15 (by decide)).trans ?_
    refine (E_l2 (v := (5 : Int64)) c_282_16 (by decide)).trans ?_
    refine (E_cIS c_282_19 mi_198 rfl rfl (Nat.le_of_ble_eq_true rfl) (Nat.le_of_ble_eq_true rfl)).trans (ax_bnd fun u1 => ?_)
    refine (E_b0_ne (q := 29) c_282_22 rfl).trans (ax_ite ?_ ?_)
    · refine (E_l2 (v := (-9000000000000000001 : Int64)) c_282_25 (by decide)).trans ?_
      exact E_rL c_282_28 mi_282
    · refine (E_al c_282_29 rfl (by decide)).trans ?_
      refine (E_ic (v := (0 : Int32)) c_282_30 (by decide)).trans ?_
      refine (E_pfi (k := 1) c_282_31 sh_82 rfl rfl rfl).trans ?_
      refine (E_al c_282_34 rfl (by decide)).trans ?_
      refine (E_il c_282_35 rfl).trans ?_
      refine (E_cIV c_282_36 mi_281 rfl rfl (sO_kl sh_82) (Nat.le_of_ble_eq_true rfl) (Nat.le_of_ble_eq_true rfl)).trans (ax_bnd fun u2 => ?_)
      refine (E_il c_282_39 rfl).trans ?_
      refine (E_cIS c_282_40 mi_283 rfl rfl (Nat.le_of_ble_eq_true rfl) (Nat.le_of_ble_eq_true rfl)).trans (ax_bnd fun u3 => ?_)
      refine (E_b0_eq (q := 51) c_282_43 rfl).trans (ax_ite ?_ ?_)
      · refine (E_al c_282_51 rfl (by decide)).trans ?_
        refine (E_ic (v := (3 : Int32)) c_282_52 (by decide)).trans ?_
        refine (E_cLV c_282_53 mi_199 rfl (sO_kl sh_82) (Nat.le_of_ble_eq_true rfl) (Nat.le_of_ble_eq_true rfl)).trans (ax_bnd fun u4 => ?_)
        exact E_rL c_282_56 mi_282
      · refine (E_il c_282_46 rfl).trans ?_
        refine (E_i2l c_282_47).trans ?_
        refine (E_goto (q := 56) c_282_48 rfl).trans ?_
        exact E_rL c_282_56 mi_282
set_option maxHeartbeats 4000000 in
theorem u_182_0 (d : Nat) (σ : ax_S) (x1 : Int32) (x2 : Int32) : ev sO (d + 6) 182 0 [.ref 0, .int x1, .int x2] [] σ = (cI sO (d + 5) 84 [.ref 17, .int x1] σ).bind fun u0 => if u0.1 = 0 then (some (some (.long (-9000000000000000001 : Int64)), u0.2)) else (if x2 < 0 then (some (some (.long (-9000000000000000001 : Int64)), u0.2)) else (if (1 : Int32) < x2 then (some (some (.long (-9000000000000000001 : Int64)), u0.2)) else ((cI sO (d + 5) 183 [.ref 80, .ref 7, .int x1, .int x2] u0.2).bind fun u1 => some (some (.long u1.1.toInt64), u1.2)))) := by
  refine (E_al c_182_0 rfl (by decide)).trans ?_
  refine (E_gfr (k := 2) (r := 7) c_182_1 sh_0 rfl rfl rfl).trans ?_
  refine (E_gfr (k := 1) (r := 17) c_182_4 sh_7 rfl rfl rfl).trans ?_
  refine (E_il c_182_7 rfl).trans ?_
  refine (E_cIV c_182_8 mi_84 rfl rfl (sO_kl sh_17) (Nat.le_of_ble_eq_true rfl) (Nat.le_of_ble_eq_true rfl)).trans (ax_bnd fun u0 => ?_)
  refine (E_b0_eq (q := 23) c_182_11 rfl).trans (ax_ite ?_ ?_)
  · refine (E_l2 (v := (-9000000000000000001 : Int64)) c_182_23 (by decide)).trans ?_
    exact E_rL c_182_26 mi_182
  · refine (E_il c_182_14 rfl).trans ?_
    refine (E_b0_lt (q := 23) c_182_15 rfl).trans (ax_ite ?_ ?_)
    · refine (E_l2 (v := (-9000000000000000001 : Int64)) c_182_23 (by decide)).trans ?_
      exact E_rL c_182_26 mi_182
    · refine (E_il c_182_18 rfl).trans ?_
      refine (E_ic (v := (1 : Int32)) c_182_19 (by decide)).trans ?_
      refine (E_br_le (q := 27) c_182_20 rfl).trans (ax_ite ?_ ?_)
      · refine (E_l2 (v := (-9000000000000000001 : Int64)) c_182_23 (by decide)).trans ?_
        exact E_rL c_182_26 mi_182
      · refine (E_al c_182_27 rfl (by decide)).trans ?_
        refine (E_gfr (k := 9) (r := 80) c_182_28 sh_0 rfl rfl rfl).trans ?_
        refine (E_al c_182_31 rfl (by decide)).trans ?_
        refine (E_gfr (k := 2) (r := 7) c_182_32 sh_0 rfl rfl rfl).trans ?_
        refine (E_il c_182_35 rfl).trans ?_
        refine (E_il c_182_36 rfl).trans ?_
        refine (E_cIV c_182_37 mi_183 rfl rfl (sO_kl sh_80) (Nat.le_of_ble_eq_true rfl) (Nat.le_of_ble_eq_true rfl)).trans (ax_bnd fun u1 => ?_)
        refine (E_i2l c_182_40).trans ?_
        exact E_rL c_182_41 mi_182
set_option maxHeartbeats 4000000 in
theorem u_284_82 (d : Nat) (σ : ax_S) (x1 : Int32) (x2 : Int32) : ev sO (d + 7) 284 0 [.ref 82, .int x1, .int x2] [] σ = (cI sO (d + 6) 231 [.ref 82, .int x1] (sI σ 82 0 (0 : Int32))).bind fun u0 => if u0.1 = 0 then (some (some (.long (-9000000000000000001 : Int64)), u0.2)) else ((cI sO (d + 6) 198 [.long x2.toInt64, .long (0 : Int64), .long (1 : Int64)] u0.2).bind fun u1 => if u1.1 = 0 then (some (some (.long (-9000000000000000001 : Int64)), u1.2)) else (if x2 = 0 then ((cI sO (d + 6) 281 [.ref 82, .int x1] (sI u1.2 82 43 (0 : Int32))).bind fun u2 => (cI sO (d + 6) 285 [.ref 82, .int x1, .int u2.1] u2.2).bind fun u3 => some (some (.long u3.1.toInt64), u3.2)) else ((cI sO (d + 6) 281 [.ref 82, .int x1] (sI u1.2 82 43 (0 : Int32))).bind fun u4 => (cI sO (d + 6) 289 [.ref 82, .int x1, .int u4.1] u4.2).bind fun u5 => some (some (.long u5.1.toInt64), u5.2)))) := by
  refine (E_al c_284_0 rfl (by decide)).trans ?_
  refine (E_ic (v := (0 : Int32)) c_284_1 (by decide)).trans ?_
  refine (E_pfi (k := 0) c_284_2 sh_82 rfl rfl rfl).trans ?_
  refine (E_al c_284_5 rfl (by decide)).trans ?_
  refine (E_il c_284_6 rfl).trans ?_
  refine (E_cIV c_284_7 mi_231 rfl rfl (sO_kl sh_82) (Nat.le_of_ble_eq_true rfl) (Nat.le_of_ble_eq_true rfl)).trans (ax_bnd fun u0 => ?_)
  refine (E_b0_eq (q := 23) c_284_10 rfl).trans (ax_ite ?_ ?_)
  · refine (E_l2 (v := (-9000000000000000001 : Int64)) c_284_23 (by decide)).trans ?_
    exact E_rL c_284_26 mi_284
  · refine (E_il c_284_13 rfl).trans ?_
    refine (E_i2l c_284_14).trans ?_
    refine (E_lc (v := (0 : Int64)) c_284_15 (by decide)).trans ?_
    refine (E_lc (v := (1 : Int64)) c_284_16 (by decide)).trans ?_
    refine (E_cIS c_284_17 mi_198 rfl rfl (Nat.le_of_ble_eq_true rfl) (Nat.le_of_ble_eq_true rfl)).trans (ax_bnd fun u1 => ?_)
    refine (E_b0_ne (q := 27) c_284_20 rfl).trans (ax_ite ?_ ?_)
    · refine (E_l2 (v := (-9000000000000000001 : Int64)) c_284_23 (by decide)).trans ?_
      exact E_rL c_284_26 mi_284
    · refine (E_al c_284_27 rfl (by decide)).trans ?_
      refine (E_ic (v := (0 : Int32)) c_284_28 (by decide)).trans ?_
      refine (E_pfi (k := 43) c_284_29 sh_82 rfl rfl rfl).trans ?_
      refine (E_il c_284_32 rfl).trans ?_
      refine (E_b0_ne (q := 50) c_284_33 rfl).trans (ax_ite ?_ ?_)
      · refine (E_al c_284_36 rfl (by decide)).trans ?_
        refine (E_il c_284_37 rfl).trans ?_
        refine (E_al c_284_38 rfl (by decide)).trans ?_
        refine (E_il c_284_39 rfl).trans ?_
        refine (E_cIV c_284_40 mi_281 rfl rfl (sO_kl sh_82) (Nat.le_of_ble_eq_true rfl) (Nat.le_of_ble_eq_true rfl)).trans (ax_bnd fun u2 => ?_)
        refine (E_cIV c_284_43 mi_285 rfl rfl (sO_kl sh_82) (Nat.le_of_ble_eq_true rfl) (Nat.le_of_ble_eq_true rfl)).trans (ax_bnd fun u3 => ?_)
        refine (E_i2l c_284_46).trans ?_
        refine (E_goto (q := 61) c_284_47 rfl).trans ?_
        exact E_rL c_284_61 mi_284
      · refine (E_al c_284_50 rfl (by decide)).trans ?_
        refine (E_il c_284_51 rfl).trans ?_
        refine (E_al c_284_52 rfl (by decide)).trans ?_
        refine (E_il c_284_53 rfl).trans ?_
        refine (E_cIV c_284_54 mi_281 rfl rfl (sO_kl sh_82) (Nat.le_of_ble_eq_true rfl) (Nat.le_of_ble_eq_true rfl)).trans (ax_bnd fun u4 => ?_)
        refine (E_cIV c_284_57 mi_289 rfl rfl (sO_kl sh_82) (Nat.le_of_ble_eq_true rfl) (Nat.le_of_ble_eq_true rfl)).trans (ax_bnd fun u5 => ?_)
        refine (E_i2l c_284_60).trans ?_
        exact E_rL c_284_61 mi_284
set_option maxHeartbeats 4000000 in
theorem u_188_0 (d : Nat) (σ : ax_S) (x1 : Int32) : ev sO (d + 1) 188 0 [.ref 0, .int x1] [] σ = (cI sO d 189 [.ref 80, .int x1] σ).bind fun u0 => some (some (.int u0.1), u0.2) := by
  refine (E_al c_188_0 rfl (by decide)).trans ?_
  refine (E_gfr (k := 9) (r := 80) c_188_1 sh_0 rfl rfl rfl).trans ?_
  refine (E_il c_188_4 rfl).trans ?_
  refine (E_cIV c_188_5 mi_189 rfl rfl (sO_kl sh_80) (Nat.le_of_ble_eq_true rfl) (Nat.le_of_ble_eq_true rfl)).trans (ax_bnd fun u0 => ?_)
  exact E_rI c_188_8 mi_188
set_option maxHeartbeats 4000000 in
theorem u_290_82 (d : Nat) (σ : ax_S) (x1 : Int32) : ev sO (d + 1) 290 0 [.ref 82, .int x1] [] σ = (cI sO d 198 [.long x1.toInt64, .long (0 : Int64), .long ((((sI σ 82 0 (0 : Int32)).1 82 43) - (1 : Int32)).toInt64)] (sI σ 82 0 (0 : Int32))).bind fun u0 => if u0.1 = 0 then (some (some (.int (-1000000 : Int32)), u0.2)) else (gd (0 ≤ x1.toInt ∧ x1.toInt < (16 : Nat)) (some (some (.int (u0.2.1 104 x1.toNatClampNeg)), u0.2))) := by
  refine (E_al c_290_0 rfl (by decide)).trans ?_
  refine (E_ic (v := (0 : Int32)) c_290_1 (by decide)).trans ?_
  refine (E_pfi (k := 0) c_290_2 sh_82 rfl rfl rfl).trans ?_
  refine (E_il c_290_5 rfl).trans ?_
  refine (E_i2l c_290_6).trans ?_
  refine (E_lc (v := (0 : Int64)) c_290_7 (by decide)).trans ?_
  refine (E_al c_290_8 rfl (by decide)).trans ?_
  refine (E_gfi (k := 43) c_290_9 sh_82 rfl rfl rfl (by decide)).trans ?_
  refine (E_ic (v := (1 : Int32)) c_290_12 (by decide)).trans ?_
  refine (E_isub c_290_13).trans ?_
  refine (E_i2l c_290_14).trans ?_
  refine (E_cIS c_290_15 mi_198 rfl rfl (Nat.le_of_ble_eq_true rfl) (Nat.le_of_ble_eq_true rfl)).trans (ax_bnd fun u0 => ?_)
  refine (E_b0_eq (q := 30) c_290_18 rfl).trans (ax_ite ?_ ?_)
  · refine (E_ic (v := (-1000000 : Int32)) c_290_30 (by decide)).trans ?_
    exact E_rI c_290_32 mi_290
  · refine (E_al c_290_21 rfl (by decide)).trans ?_
    refine (E_gfr (k := 42) (r := 104) c_290_22 sh_82 rfl rfl rfl).trans ?_
    refine (E_il c_290_25 rfl).trans ?_
    refine (E_ial c_290_26 sh_104).trans (ax_gd ?_)
    refine (E_goto (q := 32) c_290_27 rfl).trans ?_
    exact E_rI c_290_32 mi_290
set_option maxHeartbeats 4000000 in
theorem u_190_0 (d : Nat) (σ : ax_S) (x1 : Int32) : ev sO (d + 4) 190 0 [.ref 0, .int x1] [] σ = if x1 = (0 : Int32) then ((cI sO (d + 3) 191 [.ref 1] σ).bind fun u0 => some (some (.long u0.1.toInt64), u0.2)) else (if x1 = (1 : Int32) then ((cI sO (d + 3) 64 [.ref 8] σ).bind fun u1 => some (some (.long u1.1.toInt64), u1.2)) else (if x1 = (2 : Int32) then ((cI sO (d + 3) 65 [.ref 8] σ).bind fun u2 => some (some (.long u2.1.toInt64), u2.2)) else (if x1 = (3 : Int32) then ((cI sO (d + 3) 124 [.ref 17] σ).bind fun u3 => some (some (.long u3.1.toInt64), u3.2)) else (if x1 = (4 : Int32) then ((cI sO (d + 3) 192 [.ref 17] σ).bind fun u4 => some (some (.long u4.1.toInt64), u4.2)) else (if x1 = (5 : Int32) then ((cI sO (d + 3) 193 [.ref 5] σ).bind fun u5 => some (some (.long u5.1.toInt64), u5.2)) else (some (some (.long (-9000000000000000001 : Int64)), σ))))))) := by
  refine (E_il c_190_0 rfl).trans ?_
  refine (E_sw c_190_1 [((0 : Int32), 40), ((1 : Int32), 49), ((2 : Int32), 61), ((3 : Int32), 73), ((4 : Int32), 85), ((5 : Int32), 97)] (q := 106) rfl (by decide) (by decide) (by decide)).trans ?_
  refine ev_sw1.trans (ax_ite ?_ ?_)
  · refine (E_al c_190_40 rfl (by decide)).trans ?_
    refine (E_gfr (k := 0) (r := 1) c_190_41 sh_0 rfl rfl rfl).trans ?_
    refine (E_cIV c_190_44 mi_191 rfl rfl (sO_kl sh_1) (Nat.le_of_ble_eq_true rfl) (Nat.le_of_ble_eq_true rfl)).trans (ax_bnd fun u0 => ?_)
    refine (E_i2l c_190_47).trans ?_
    exact E_rL c_190_48 mi_190
  · refine ev_sw1.trans (ax_ite ?_ ?_)
    · refine (E_al c_190_49 rfl (by decide)).trans ?_
      refine (E_gfr (k := 2) (r := 7) c_190_50 sh_0 rfl rfl rfl).trans ?_
      refine (E_gfr (k := 0) (r := 8) c_190_53 sh_7 rfl rfl rfl).trans ?_
      refine (E_cIV c_190_56 mi_64 rfl rfl (sO_kl sh_8) (Nat.le_of_ble_eq_true rfl) (Nat.le_of_ble_eq_true rfl)).trans (ax_bnd fun u1 => ?_)
      refine (E_i2l c_190_59).trans ?_
      exact E_rL c_190_60 mi_190
    · refine ev_sw1.trans (ax_ite ?_ ?_)
      · refine (E_al c_190_61 rfl (by decide)).trans ?_
        refine (E_gfr (k := 2) (r := 7) c_190_62 sh_0 rfl rfl rfl).trans ?_
        refine (E_gfr (k := 0) (r := 8) c_190_65 sh_7 rfl rfl rfl).trans ?_
        refine (E_cIV c_190_68 mi_65 rfl rfl (sO_kl sh_8) (Nat.le_of_ble_eq_true rfl) (Nat.le_of_ble_eq_true rfl)).trans (ax_bnd fun u2 => ?_)
        refine (E_i2l c_190_71).trans ?_
        exact E_rL c_190_72 mi_190
      · refine ev_sw1.trans (ax_ite ?_ ?_)
        · refine (E_al c_190_73 rfl (by decide)).trans ?_
          refine (E_gfr (k := 2) (r := 7) c_190_74 sh_0 rfl rfl rfl).trans ?_
          refine (E_gfr (k := 1) (r := 17) c_190_77 sh_7 rfl rfl rfl).trans ?_
          refine (E_cIV c_190_80 mi_124 rfl rfl (sO_kl sh_17) (Nat.le_of_ble_eq_true rfl) (Nat.le_of_ble_eq_true rfl)).trans (ax_bnd fun u3 => ?_)
          refine (E_i2l c_190_83).trans ?_
          exact E_rL c_190_84 mi_190
        · refine ev_sw1.trans (ax_ite ?_ ?_)
          · refine (E_al c_190_85 rfl (by decide)).trans ?_
            refine (E_gfr (k := 2) (r := 7) c_190_86 sh_0 rfl rfl rfl).trans ?_
            refine (E_gfr (k := 1) (r := 17) c_190_89 sh_7 rfl rfl rfl).trans ?_
            refine (E_cIV c_190_92 mi_192 rfl rfl (sO_kl sh_17) (Nat.le_of_ble_eq_true rfl) (Nat.le_of_ble_eq_true rfl)).trans (ax_bnd fun u4 => ?_)
            refine (E_i2l c_190_95).trans ?_
            exact E_rL c_190_96 mi_190
          · refine ev_sw1.trans (ax_ite ?_ ?_)
            · refine (E_al c_190_97 rfl (by decide)).trans ?_
              refine (E_gfr (k := 1) (r := 5) c_190_98 sh_0 rfl rfl rfl).trans ?_
              refine (E_cIV c_190_101 mi_193 rfl rfl (sO_kl sh_5) (Nat.le_of_ble_eq_true rfl) (Nat.le_of_ble_eq_true rfl)).trans (ax_bnd fun u5 => ?_)
              refine (E_i2l c_190_104).trans ?_
              exact E_rL c_190_105 mi_190
            · refine ev_sw0.trans ?_
              refine (E_l2 (v := (-9000000000000000001 : Int64)) c_190_106 (by decide)).trans ?_
              exact E_rL c_190_109 mi_190
set_option maxHeartbeats 4000000 in
theorem u_291_82 (d : Nat) (σ : ax_S) (x1 : Int32) : ev sO (d + 1) 291 0 [.ref 82, .int x1, .null, .null] [] σ = if x1 = (0 : Int32) then (ev sO (d + 1) 291 50 [.ref 82, .int x1, .int (0 : Int32), .int (0 : Int32)] [] (sI σ 82 0 (0 : Int32))) else (if x1 = (1 : Int32) then (gd (0 ≤ (x1 - (1 : Int32)).toInt ∧ (x1 - (1 : Int32)).toInt < (102 : Nat)) (some (some (.long (((sI σ 82 0 (0 : Int32)).1 86 (x1 - (1 : Int32)).toNatClampNeg).toInt64)), (sI σ 82 0 (0 : Int32))))) else (if x1 = (2 : Int32) then (gd (0 ≤ (x1 - (1 : Int32)).toInt ∧ (x1 - (1 : Int32)).toInt < (102 : Nat)) (some (some (.long (((sI σ 82 0 (0 : Int32)).1 86 (x1 - (1 : Int32)).toNatClampNeg).toInt64)), (sI σ 82 0 (0 : Int32))))) else (if x1 = (3 : Int32) then (some (some (.long (((sI σ 82 0 (0 : Int32)).1 88 0).toInt64)), (sI σ 82 0 (0 : Int32)))) else (if x1 = (4 : Int32) then (ev sO (d + 1) 291 102 [.ref 82, .int x1, .int (0 : Int32), .int (0 : Int32)] [] (sI σ 82 0 (0 : Int32))) else (if x1 = (5 : Int32) then (some (some (.long (((sI σ 82 0 (0 : Int32)).1 82 10).toInt64)), (sI σ 82 0 (0 : Int32)))) else (some (some (.long (-9000000000000000001 : Int64)), (sI σ 82 0 (0 : Int32))))))))) := by
  refine (E_al c_291_0 rfl (by decide)).trans ?_
  refine (E_ic (v := (0 : Int32)) c_291_1 (by decide)).trans ?_
  refine (E_pfi (k := 0) c_291_2 sh_82 rfl rfl rfl).trans ?_
  refine (E_ic (v := (0 : Int32)) c_291_5 (by decide)).trans ?_
  refine (E_is (L' := [.ref 82, .int x1, .int (0 : Int32), .null]) c_291_6 (Nat.le_of_ble_eq_true rfl) rfl).trans ?_
  refine (E_il c_291_7 rfl).trans ?_
  refine (E_sw c_291_8 [((0 : Int32), 48), ((1 : Int32), 82), ((2 : Int32), 82), ((3 : Int32), 92), ((4 : Int32), 100), ((5 : Int32), 133)] (q := 139) rfl (by decide) (by decide) (by decide)).trans ?_
  refine ev_sw1.trans (ax_ite ?_ ?_)
  · refine (E_ic (v := (0 : Int32)) c_291_48 (by decide)).trans ?_
    refine (E_is (L' := [.ref 82, .int x1, .int (0 : Int32), .int (0 : Int32)]) c_291_49 (Nat.le_of_ble_eq_true rfl) rfl).trans ?_
    rfl
  · refine ev_sw1.trans (ax_ite ?_ ?_)
    · refine (E_al c_291_82 rfl (by decide)).trans ?_
      refine (E_gfr (k := 5) (r := 86) c_291_83 sh_82 rfl rfl rfl).trans ?_
      refine (E_il c_291_86 rfl).trans ?_
      refine (E_ic (v := (1 : Int32)) c_291_87 (by decide)).trans ?_
      refine (E_isub c_291_88).trans ?_
      refine (E_ial c_291_89 sh_86).trans (ax_gd ?_)
      refine (E_i2l c_291_90).trans ?_
      exact E_rL c_291_91 mi_291
    · refine ev_sw1.trans (ax_ite ?_ ?_)
      · refine (E_al c_291_82 rfl (by decide)).trans ?_
        refine (E_gfr (k := 5) (r := 86) c_291_83 sh_82 rfl rfl rfl).trans ?_
        refine (E_il c_291_86 rfl).trans ?_
        refine (E_ic (v := (1 : Int32)) c_291_87 (by decide)).trans ?_
        refine (E_isub c_291_88).trans ?_
        refine (E_ial c_291_89 sh_86).trans (ax_gd ?_)
        refine (E_i2l c_291_90).trans ?_
        exact E_rL c_291_91 mi_291
      · refine ev_sw1.trans (ax_ite ?_ ?_)
        · refine (E_al c_291_92 rfl (by decide)).trans ?_
          refine (E_gfr (k := 8) (r := 88) c_291_93 sh_82 rfl rfl rfl).trans ?_
          refine (E_ic (v := (0 : Int32)) c_291_96 (by decide)).trans ?_
          refine (E_ialk (k := 0) c_291_97 sh_88 (by decide) (by decide)).trans ?_
          refine (E_i2l c_291_98).trans ?_
          exact E_rL c_291_99 mi_291
        · refine ev_sw1.trans (ax_ite ?_ ?_)
          · refine (E_ic (v := (0 : Int32)) c_291_100 (by decide)).trans ?_
            refine (E_is (L' := [.ref 82, .int x1, .int (0 : Int32), .int (0 : Int32)]) c_291_101 (Nat.le_of_ble_eq_true rfl) rfl).trans ?_
            rfl
          · refine ev_sw1.trans (ax_ite ?_ ?_)
            · refine (E_al c_291_133 rfl (by decide)).trans ?_
              refine (E_gfi (k := 10) c_291_134 sh_82 rfl rfl rfl (by decide)).trans ?_
              refine (E_i2l c_291_137).trans ?_
              exact E_rL c_291_138 mi_291
            · refine ev_sw0.trans ?_
              refine (E_l2 (v := (-9000000000000000001 : Int64)) c_291_139 (by decide)).trans ?_
              exact E_rL c_291_142 mi_291
set_option maxHeartbeats 4000000 in
theorem u_291_82p50 (d : Nat) (σ : ax_S) (w1 : Value) (hw1 : w1.category = 1) (x2 : Int32) (x3 : Int32) : ev sO (d + 1) 291 50 [.ref 82, w1, .int x2, .int x3] [] σ = if x3 < (8 : Int32) then (gd (0 ≤ x3.toInt ∧ x3.toInt < (8 : Nat)) (if (σ.1 83 x3.toNatClampNeg) < 0 then (ev sO (d + 1) 291 50 [.ref 82, w1, .int (x2 + (0 : Int32)), .int (x3 + (1 : Int32))] [] σ) else (ev sO (d + 1) 291 50 [.ref 82, w1, .int (x2 + (1 : Int32)), .int (x3 + (1 : Int32))] [] σ))) else (some (some (.long x2.toInt64), σ)) := by
  refine (E_il c_291_50 rfl).trans ?_
  refine (E_ic (v := (8 : Int32)) c_291_51 (by decide)).trans ?_
  refine (E_br_ge (q := 79) c_291_53 rfl).trans (ax_ite ?_ ?_)
  · refine (E_il c_291_56 rfl).trans ?_
    refine (E_al c_291_57 rfl (by decide)).trans ?_
    refine (E_gfr (k := 2) (r := 83) c_291_58 sh_82 rfl rfl rfl).trans ?_
    refine (E_il c_291_61 rfl).trans ?_
    refine (E_ial c_291_62 sh_83).trans (ax_gd ?_)
    refine (E_b0_lt (q := 70) c_291_63 rfl).trans (ax_ite ?_ ?_)
    · refine (E_ic (v := (0 : Int32)) c_291_70 (by decide)).trans ?_
      refine (E_iadd c_291_71).trans ?_
      refine (E_is (L' := [.ref 82, w1, .int (x2 + (0 : Int32)), .int x3]) c_291_72 (Nat.le_of_ble_eq_true rfl) (by simp [ax_st1, ax_st2, ax_drp, hw1])).trans ?_
      refine (E_inc (v := (1 : Int32)) (L' := [.ref 82, w1, .int (x2 + (0 : Int32)), .int (x3 + (1 : Int32))]) c_291_73 rfl (by decide) rfl).trans ?_
      refine (E_goto (q := 50) c_291_76 rfl).trans ?_
      rfl
    · refine (E_ic (v := (1 : Int32)) c_291_66 (by decide)).trans ?_
      refine (E_goto (q := 71) c_291_67 rfl).trans ?_
      refine (E_iadd c_291_71).trans ?_
      refine (E_is (L' := [.ref 82, w1, .int (x2 + (1 : Int32)), .int x3]) c_291_72 (Nat.le_of_ble_eq_true rfl) (by simp [ax_st1, ax_st2, ax_drp, hw1])).trans ?_
      refine (E_inc (v := (1 : Int32)) (L' := [.ref 82, w1, .int (x2 + (1 : Int32)), .int (x3 + (1 : Int32))]) c_291_73 rfl (by decide) rfl).trans ?_
      refine (E_goto (q := 50) c_291_76 rfl).trans ?_
      rfl
  · refine (E_il c_291_79 rfl).trans ?_
    refine (E_i2l c_291_80).trans ?_
    exact E_rL c_291_81 mi_291
set_option maxHeartbeats 4000000 in
theorem u_291_82p102 (d : Nat) (σ : ax_S) (w1 : Value) (hw1 : w1.category = 1) (x2 : Int32) (x3 : Int32) : ev sO (d + 1) 291 102 [.ref 82, w1, .int x2, .int x3] [] σ = if x3 < (σ.1 88 0) then ((cI sO d 232 [.ref 82, .int x3, .int (4 : Int32)] σ).bind fun u0 => (cI sO d 240 [.int u0.1] u0.2).bind fun u1 => ev sO (d + 1) 291 102 [.ref 82, w1, .int (x2 + u1.1), .int (x3 + (1 : Int32))] [] u1.2) else (some (some (.long x2.toInt64), σ)) := by
  refine (E_il c_291_102 rfl).trans ?_
  refine (E_al c_291_103 rfl (by decide)).trans ?_
  refine (E_gfr (k := 8) (r := 88) c_291_104 sh_82 rfl rfl rfl).trans ?_
  refine (E_ic (v := (0 : Int32)) c_291_107 (by decide)).trans ?_
  refine (E_ialk (k := 0) c_291_108 sh_88 (by decide) (by decide)).trans ?_
  refine (E_br_ge (q := 130) c_291_109 rfl).trans (ax_ite ?_ ?_)
  · refine (E_il c_291_112 rfl).trans ?_
    refine (E_al c_291_113 rfl (by decide)).trans ?_
    refine (E_il c_291_114 rfl).trans ?_
    refine (E_ic (v := (4 : Int32)) c_291_115 (by decide)).trans ?_
    refine (E_cIV c_291_116 mi_232 rfl rfl (sO_kl sh_82) (Nat.le_of_ble_eq_true rfl) (Nat.le_of_ble_eq_true rfl)).trans (ax_bnd fun u0 => ?_)
    refine (E_cIS c_291_119 mi_240 rfl rfl (Nat.le_of_ble_eq_true rfl) (Nat.le_of_ble_eq_true rfl)).trans (ax_bnd fun u1 => ?_)
    refine (E_iadd c_291_122).trans ?_
    refine (E_is (L' := [.ref 82, w1, .int (x2 + u1.1), .int x3]) c_291_123 (Nat.le_of_ble_eq_true rfl) (by simp [ax_st1, ax_st2, ax_drp, hw1])).trans ?_
    refine (E_inc (v := (1 : Int32)) (L' := [.ref 82, w1, .int (x2 + u1.1), .int (x3 + (1 : Int32))]) c_291_124 rfl (by decide) rfl).trans ?_
    refine (E_goto (q := 102) c_291_127 rfl).trans ?_
    rfl
  · refine (E_il c_291_130 rfl).trans ?_
    refine (E_i2l c_291_131).trans ?_
    exact E_rL c_291_132 mi_291
set_option maxHeartbeats 4000000 in
theorem u_194_0 (d : Nat) (σ : ax_S) : ev sO d 194 0 [.ref 0] [] σ = some (some (.int (σ.1 0 10)), σ) := by
  refine (E_al c_194_0 rfl (by decide)).trans ?_
  refine (E_gfi (k := 10) c_194_1 sh_0 rfl rfl rfl (by decide)).trans ?_
  exact E_rI c_194_4 mi_194
set_option maxHeartbeats 4000000 in
theorem u_292_82 (d : Nat) (σ : ax_S) : ev sO d 292 0 [.ref 82] [] σ = some (some (.int ((sI σ 82 0 (0 : Int32)).1 82 1)), (sI σ 82 0 (0 : Int32))) := by
  refine (E_al c_292_0 rfl (by decide)).trans ?_
  refine (E_ic (v := (0 : Int32)) c_292_1 (by decide)).trans ?_
  refine (E_pfi (k := 0) c_292_2 sh_82 rfl rfl rfl).trans ?_
  refine (E_al c_292_5 rfl (by decide)).trans ?_
  refine (E_gfi (k := 1) c_292_6 sh_82 rfl rfl rfl (by decide)).trans ?_
  exact E_rI c_292_9 mi_292
set_option maxHeartbeats 4000000 in
theorem u_13 (d : Nat) (σ : ax_S) (x0 : Int32) : ev sO d 13 0 [.int x0] [] σ = if x0 < 0 then (some (some (.int (0 : Int32)), σ)) else (if x0 < (8 : Int32) then (some (some (.int (1 : Int32)), σ)) else (some (some (.int (0 : Int32)), σ))) := by
  refine (E_il c_13_0 rfl).trans ?_
  refine (E_b0_lt (q := 14) c_13_1 rfl).trans (ax_ite ?_ ?_)
  · refine (E_ic (v := (0 : Int32)) c_13_14 (by decide)).trans ?_
    exact E_rZ (v := (0 : Int32)) c_13_15 mi_13 (by decide)
  · refine (E_il c_13_4 rfl).trans ?_
    refine (E_ic (v := (8 : Int32)) c_13_5 (by decide)).trans ?_
    refine (E_br_ge (q := 14) c_13_7 rfl).trans (ax_ite ?_ ?_)
    · refine (E_ic (v := (1 : Int32)) c_13_10 (by decide)).trans ?_
      refine (E_goto (q := 15) c_13_11 rfl).trans ?_
      exact E_rZ (v := (1 : Int32)) c_13_15 mi_13 (by decide)
    · refine (E_ic (v := (0 : Int32)) c_13_14 (by decide)).trans ?_
      exact E_rZ (v := (0 : Int32)) c_13_15 mi_13 (by decide)
set_option maxHeartbeats 4000000 in
theorem u_14_0 (d : Nat) (σ : ax_S) (x1 : Int32) : ev sO d 14 0 [.ref 0, .int x1] [] σ = some (some (.long ((-9000000000000000010 : Int64) - x1.toInt64)), (sI σ 0 10 x1)) := by
  refine (E_al c_14_0 rfl (by decide)).trans ?_
  refine (E_il c_14_1 rfl).trans ?_
  refine (E_pfi (k := 10) c_14_2 sh_0 rfl rfl rfl).trans ?_
  refine (E_l2 (v := (-9000000000000000010 : Int64)) c_14_5 (by decide)).trans ?_
  refine (E_il c_14_8 rfl).trans ?_
  refine (E_i2l c_14_9).trans ?_
  refine (E_lsub c_14_10).trans ?_
  exact E_rL c_14_11 mi_14
set_option maxHeartbeats 4000000 in
theorem u_15_1 (d : Nat) (σ : ax_S) (x1 : Int32) (x2 : Int32) (x3 : Int32) : ev sO (d + 1) 15 0 [.ref 1, .int x1, .int x2, .int x3, .null] [] σ = (cI sO d 13 [.int x1] σ).bind fun u0 => if u0.1 = 0 then (some (none, u0.2)) else (if x3 < 0 then (some (none, u0.2)) else (if (40 : Int32) < x3 then (some (none, u0.2)) else (gd (0 ≤ x1.toInt ∧ x1.toInt < (8 : Nat)) (gd (0 ≤ x1.toInt ∧ x1.toInt < (8 : Nat)) (ev sO (d + 1) 15 35 [.ref 1, .int x1, .int x2, .int x3, .int (0 : Int32)] [] (sI (sI u0.2 2 x1.toNatClampNeg x2) 3 x1.toNatClampNeg x3)))))) := by
  refine (E_il c_15_0 rfl).trans ?_
  refine (E_cIS c_15_1 mi_13 rfl rfl (Nat.le_of_ble_eq_true rfl) (Nat.le_of_ble_eq_true rfl)).trans (ax_bnd fun u0 => ?_)
  refine (E_b0_eq (q := 17) c_15_4 rfl).trans (ax_ite ?_ ?_)
  · exact E_rV c_15_17 mi_15
  · refine (E_il c_15_7 rfl).trans ?_
    refine (E_b0_lt (q := 17) c_15_8 rfl).trans (ax_ite ?_ ?_)
    · exact E_rV c_15_17 mi_15
    · refine (E_il c_15_11 rfl).trans ?_
      refine (E_ic (v := (40 : Int32)) c_15_12 (by decide)).trans ?_
      refine (E_br_le (q := 18) c_15_14 rfl).trans (ax_ite ?_ ?_)
      · exact E_rV c_15_17 mi_15
      · refine (E_al c_15_18 rfl (by decide)).trans ?_
        refine (E_gfr (k := 0) (r := 2) c_15_19 sh_1 rfl rfl rfl).trans ?_
        refine (E_il c_15_22 rfl).trans ?_
        refine (E_il c_15_23 rfl).trans ?_
        refine (E_ias (v := x2) c_15_24 sh_2 rfl).trans (ax_gd ?_)
        refine (E_al c_15_25 rfl (by decide)).trans ?_
        refine (E_gfr (k := 1) (r := 3) c_15_26 sh_1 rfl rfl rfl).trans ?_
        refine (E_il c_15_29 rfl).trans ?_
        refine (E_il c_15_30 rfl).trans ?_
        refine (E_ias (v := x3) c_15_31 sh_3 rfl).trans (ax_gd ?_)
        refine (E_ic (v := (0 : Int32)) c_15_32 (by decide)).trans ?_
        refine (E_is (L' := [.ref 1, .int x1, .int x2, .int x3, .int (0 : Int32)]) c_15_33 (Nat.le_of_ble_eq_true rfl) rfl).trans ?_
        rfl
set_option maxHeartbeats 4000000 in
theorem u_15_1p35 (d : Nat) (σ : ax_S) (x1 : Int32) (w2 : Value) (hw2 : w2.category = 1) (x3 : Int32) (x4 : Int32) : ev sO (d + 1) 15 35 [.ref 1, .int x1, w2, .int x3, .int x4] [] σ = if x4 < x3 then (gd (0 ≤ ((x1 * (40 : Int32)) + x4).toInt ∧ ((x1 * (40 : Int32)) + x4).toInt < (320 : Nat)) (ev sO (d + 1) 15 35 [.ref 1, .int x1, w2, .int x3, .int (x4 + (1 : Int32))] [] (sI σ 4 ((x1 * (40 : Int32)) + x4).toNatClampNeg (0 : Int32)))) else (some (none, σ)) := by
  refine (E_il c_15_35 rfl).trans ?_
  refine (E_il c_15_37 rfl).trans ?_
  refine (E_br_ge (q := 60) c_15_38 rfl).trans (ax_ite ?_ ?_)
  · refine (E_al c_15_41 rfl (by decide)).trans ?_
    refine (E_gfr (k := 2) (r := 4) c_15_42 sh_1 rfl rfl rfl).trans ?_
    refine (E_il c_15_45 rfl).trans ?_
    refine (E_ic (v := (40 : Int32)) c_15_46 (by decide)).trans ?_
    refine (E_imul c_15_48).trans ?_
    refine (E_il c_15_49 rfl).trans ?_
    refine (E_iadd c_15_51).trans ?_
    refine (E_ic (v := (0 : Int32)) c_15_52 (by decide)).trans ?_
    refine (E_ias (v := (0 : Int32)) c_15_53 sh_4 rfl).trans (ax_gd ?_)
    refine (E_inc (v := (1 : Int32)) (L' := [.ref 1, .int x1, w2, .int x3, .int (x4 + (1 : Int32))]) c_15_54 rfl (by decide) rfl).trans ?_
    refine (E_goto (q := 35) c_15_57 rfl).trans ?_
    rfl
  · exact E_rV c_15_60 mi_15
set_option maxHeartbeats 4000000 in
theorem u_16_0 (d : Nat) (σ : ax_S) (x1 : Int64) : ev sO d 16 0 [.ref 0, .long x1, .null] [] σ = some (some (.long x1), (sI σ 0 10 (0 : Int32))) := by
  refine (E_al c_16_0 rfl (by decide)).trans ?_
  refine (E_ic (v := (0 : Int32)) c_16_1 (by decide)).trans ?_
  refine (E_pfi (k := 10) c_16_2 sh_0 rfl rfl rfl).trans ?_
  refine (E_ll c_16_5 rfl).trans ?_
  exact E_rL c_16_6 mi_16
set_option maxHeartbeats 4000000 in
theorem u_197 (d : Nat) (σ : ax_S) (x0 : Int32) : ev sO (d + 1) 197 0 [.int x0] [] σ = (cI sO d 198 [.long x0.toInt64, .long (0 : Int64), .long (7 : Int64)] σ).bind fun u0 => some (some (.int (u0.1 &&& 1)), u0.2) := by
  refine (E_il c_197_0 rfl).trans ?_
  refine (E_i2l c_197_1).trans ?_
  refine (E_lc (v := (0 : Int64)) c_197_2 (by decide)).trans ?_
  refine (E_l2 (v := (7 : Int64)) c_197_3 (by decide)).trans ?_
  refine (E_cIS c_197_6 mi_198 rfl rfl (Nat.le_of_ble_eq_true rfl) (Nat.le_of_ble_eq_true rfl)).trans (ax_bnd fun u0 => ?_)
  exact E_rZ (v := (u0.1 &&& 1)) c_197_9 mi_197 rfl
set_option maxHeartbeats 4000000 in
theorem u_198 (d : Nat) (σ : ax_S) (x0 : Int64) (x1 : Int64) (x2 : Int64) : ev sO d 198 0 [.long x0, .null, .long x1, .null, .long x2, .null] [] σ = if (lg_cmp x0 x1) < 0 then (some (some (.int (0 : Int32)), σ)) else (if 0 < (lg_cmp x0 x2) then (some (some (.int (0 : Int32)), σ)) else (some (some (.int (1 : Int32)), σ))) := by
  refine (E_ll c_198_0 rfl).trans ?_
  refine (E_ll c_198_1 rfl).trans ?_
  refine (E_lcmp c_198_2).trans ?_
  refine (E_b0_lt (q := 17) c_198_3 rfl).trans (ax_ite ?_ ?_)
  · refine (E_ic (v := (0 : Int32)) c_198_17 (by decide)).trans ?_
    exact E_rZ (v := (0 : Int32)) c_198_18 mi_198 (by decide)
  · refine (E_ll c_198_6 rfl).trans ?_
    refine (E_ll c_198_7 rfl).trans ?_
    refine (E_lcmp c_198_9).trans ?_
    refine (E_b0_gt (q := 17) c_198_10 rfl).trans (ax_ite ?_ ?_)
    · refine (E_ic (v := (0 : Int32)) c_198_17 (by decide)).trans ?_
      exact E_rZ (v := (0 : Int32)) c_198_18 mi_198 (by decide)
    · refine (E_ic (v := (1 : Int32)) c_198_13 (by decide)).trans ?_
      refine (E_goto (q := 18) c_198_14 rfl).trans ?_
      exact E_rZ (v := (1 : Int32)) c_198_18 mi_198 (by decide)
set_option maxHeartbeats 4000000 in
theorem u_199_82 (d : Nat) (σ : ax_S) (x1 : Int32) : ev sO d 199 0 [.ref 82, .int x1] [] σ = some (some (.long ((-9000000000000000010 : Int64) - x1.toInt64)), (sI σ 82 1 x1)) := by
  refine (E_al c_199_0 rfl (by decide)).trans ?_
  refine (E_il c_199_1 rfl).trans ?_
  refine (E_pfi (k := 1) c_199_2 sh_82 rfl rfl rfl).trans ?_
  refine (E_l2 (v := (-9000000000000000010 : Int64)) c_199_5 (by decide)).trans ?_
  refine (E_il c_199_8 rfl).trans ?_
  refine (E_i2l c_199_9).trans ?_
  refine (E_lsub c_199_10).trans ?_
  exact E_rL c_199_11 mi_199
set_option maxHeartbeats 4000000 in
theorem u_18_1 (d : Nat) (σ : ax_S) (x1 : Int32) : ev sO (d + 2) 18 0 [.ref 1, .int x1] [] σ = (cI sO (d + 1) 19 [.ref 1, .int x1] σ).bind fun u0 => if u0.1 = (-1 : Int32) then (some (some (.int (1 : Int32)), u0.2)) else (some (some (.int (0 : Int32)), u0.2)) := by
  refine (E_al c_18_0 rfl (by decide)).trans ?_
  refine (E_il c_18_1 rfl).trans ?_
  refine (E_cIV c_18_2 mi_19 rfl rfl (sO_kl sh_1) (Nat.le_of_ble_eq_true rfl) (Nat.le_of_ble_eq_true rfl)).trans (ax_bnd fun u0 => ?_)
  refine (E_ic (v := (-1 : Int32)) c_18_5 (by decide)).trans ?_
  refine (E_br_ne (q := 13) c_18_6 rfl).trans (ax_ite ?_ ?_)
  · refine (E_ic (v := (1 : Int32)) c_18_9 (by decide)).trans ?_
    refine (E_goto (q := 14) c_18_10 rfl).trans ?_
    exact E_rZ (v := (1 : Int32)) c_18_14 mi_18 (by decide)
  · refine (E_ic (v := (0 : Int32)) c_18_13 (by decide)).trans ?_
    exact E_rZ (v := (0 : Int32)) c_18_14 mi_18 (by decide)
set_option maxHeartbeats 4000000 in
theorem u_20_1 (d : Nat) (σ : ax_S) (x1 : Int32) (x2 : Int32) (x3 : Int32) : ev sO (d + 2) 20 0 [.ref 1, .int x1, .int x2, .int x3] [] σ = if x2 < 0 then (some (some (.int (0 : Int32)), σ)) else (if x3 < 0 then (some (some (.int (0 : Int32)), σ)) else ((cI sO (d + 1) 19 [.ref 1, .int x1] σ).bind fun u0 => if (u0.1 - x3) < x2 then (some (some (.int (0 : Int32)), u0.2)) else (some (some (.int (1 : Int32)), u0.2)))) := by
  refine (E_il c_20_0 rfl).trans ?_
  refine (E_b0_lt (q := 23) c_20_1 rfl).trans (ax_ite ?_ ?_)
  · refine (E_ic (v := (0 : Int32)) c_20_23 (by decide)).trans ?_
    exact E_rZ (v := (0 : Int32)) c_20_24 mi_20 (by decide)
  · refine (E_il c_20_4 rfl).trans ?_
    refine (E_b0_lt (q := 23) c_20_5 rfl).trans (ax_ite ?_ ?_)
    · refine (E_ic (v := (0 : Int32)) c_20_23 (by decide)).trans ?_
      exact E_rZ (v := (0 : Int32)) c_20_24 mi_20 (by decide)
    · refine (E_il c_20_8 rfl).trans ?_
      refine (E_al c_20_9 rfl (by decide)).trans ?_
      refine (E_il c_20_10 rfl).trans ?_
      refine (E_cIV c_20_11 mi_19 rfl rfl (sO_kl sh_1) (Nat.le_of_ble_eq_true rfl) (Nat.le_of_ble_eq_true rfl)).trans (ax_bnd fun u0 => ?_)
      refine (E_il c_20_14 rfl).trans ?_
      refine (E_isub c_20_15).trans ?_
      refine (E_br_gt (q := 23) c_20_16 rfl).trans (ax_ite ?_ ?_)
      · refine (E_ic (v := (0 : Int32)) c_20_23 (by decide)).trans ?_
        exact E_rZ (v := (0 : Int32)) c_20_24 mi_20 (by decide)
      · refine (E_ic (v := (1 : Int32)) c_20_19 (by decide)).trans ?_
        refine (E_goto (q := 24) c_20_20 rfl).trans ?_
        exact E_rZ (v := (1 : Int32)) c_20_24 mi_20 (by decide)
set_option maxHeartbeats 4000000 in
theorem u_21_1 (d : Nat) (σ : ax_S) (x1 : Int32) (x2 : Int32) (x3 : Int32) : ev sO (d + 3) 21 0 [.ref 1, .int x1, .int x2, .int x3, .null, .null] [] σ = (cI sO (d + 2) 20 [.ref 1, .int x1, .int x2, .int (1 : Int32)] σ).bind fun u0 => if u0.1 = 0 then (some (some (.int (0 : Int32)), u0.2)) else (gd (0 ≤ x1.toInt ∧ x1.toInt < (8 : Nat)) (if (u0.2.1 2 x1.toNatClampNeg) = 0 then (gd (0 ≤ ((x1 * (40 : Int32)) + x2).toInt ∧ ((x1 * (40 : Int32)) + x2).toInt < (320 : Nat)) (some (some (.int x3.toInt8.toInt32), (sI u0.2 4 ((x1 * (40 : Int32)) + x2).toNatClampNeg x3.toInt8.toInt32)))) else (if (u0.2.1 2 x1.toNatClampNeg) = (1 : Int32) then (gd (0 ≤ ((x1 * (40 : Int32)) + x2).toInt ∧ ((x1 * (40 : Int32)) + x2).toInt < (320 : Nat)) (some (some (.int x3.toInt16.toInt32), (sI u0.2 4 ((x1 * (40 : Int32)) + x2).toNatClampNeg x3.toInt16.toInt32)))) else (gd (0 ≤ ((x1 * (40 : Int32)) + x2).toInt ∧ ((x1 * (40 : Int32)) + x2).toInt < (320 : Nat)) (some (some (.int x3), (sI u0.2 4 ((x1 * (40 : Int32)) + x2).toNatClampNeg x3))))))) := by
  refine (E_al c_21_0 rfl (by decide)).trans ?_
  refine (E_il c_21_1 rfl).trans ?_
  refine (E_il c_21_2 rfl).trans ?_
  refine (E_ic (v := (1 : Int32)) c_21_3 (by decide)).trans ?_
  refine (E_cIV c_21_4 mi_20 rfl rfl (sO_kl sh_1) (Nat.le_of_ble_eq_true rfl) (Nat.le_of_ble_eq_true rfl)).trans (ax_bnd fun u0 => ?_)
  refine (E_b0_ne (q := 12) c_21_7 rfl).trans (ax_ite ?_ ?_)
  · refine (E_ic (v := (0 : Int32)) c_21_10 (by decide)).trans ?_
    exact E_rI c_21_11 mi_21
  · refine (E_al c_21_12 rfl (by decide)).trans ?_
    refine (E_gfr (k := 0) (r := 2) c_21_13 sh_1 rfl rfl rfl).trans ?_
    refine (E_il c_21_16 rfl).trans ?_
    refine (E_ial c_21_17 sh_2).trans (ax_gd ?_)
    refine (E_is (L' := [.ref 1, .int x1, .int x2, .int x3, .int (u0.2.1 2 x1.toNatClampNeg), .null]) c_21_18 (Nat.le_of_ble_eq_true rfl) rfl).trans ?_
    refine (E_il c_21_20 rfl).trans ?_
    refine (E_b0_ne (q := 30) c_21_22 rfl).trans (ax_ite ?_ ?_)
    · refine (E_il c_21_25 rfl).trans ?_
      refine (E_i2b c_21_26).trans ?_
      refine (E_goto (q := 42) c_21_27 rfl).trans ?_
      refine (E_is (L' := [.ref 1, .int x1, .int x2, .int x3, .int (u0.2.1 2 x1.toNatClampNeg), .int x3.toInt8.toInt32]) c_21_42 (Nat.le_of_ble_eq_true rfl) rfl).trans ?_
      refine (E_al c_21_44 rfl (by decide)).trans ?_
      refine (E_gfr (k := 2) (r := 4) c_21_45 sh_1 rfl rfl rfl).trans ?_
      refine (E_il c_21_48 rfl).trans ?_
      refine (E_ic (v := (40 : Int32)) c_21_49 (by decide)).trans ?_
      refine (E_imul c_21_51).trans ?_
      refine (E_il c_21_52 rfl).trans ?_
      refine (E_iadd c_21_53).trans ?_
      refine (E_il c_21_54 rfl).trans ?_
      refine (E_ias (v := x3.toInt8.toInt32) c_21_56 sh_4 rfl).trans (ax_gd ?_)
      refine (E_il c_21_57 rfl).trans ?_
      exact E_rI c_21_59 mi_21
    · refine (E_il c_21_30 rfl).trans ?_
      refine (E_ic (v := (1 : Int32)) c_21_32 (by decide)).trans ?_
      refine (E_br_ne (q := 41) c_21_33 rfl).trans (ax_ite ?_ ?_)
      · refine (E_il c_21_36 rfl).trans ?_
        refine (E_i2s c_21_37).trans ?_
        refine (E_goto (q := 42) c_21_38 rfl).trans ?_
        refine (E_is (L' := [.ref 1, .int x1, .int x2, .int x3, .int (u0.2.1 2 x1.toNatClampNeg), .int x3.toInt16.toInt32]) c_21_42 (Nat.le_of_ble_eq_true rfl) rfl).trans ?_
        refine (E_al c_21_44 rfl (by decide)).trans ?_
        refine (E_gfr (k := 2) (r := 4) c_21_45 sh_1 rfl rfl rfl).trans ?_
        refine (E_il c_21_48 rfl).trans ?_
        refine (E_ic (v := (40 : Int32)) c_21_49 (by decide)).trans ?_
        refine (E_imul c_21_51).trans ?_
        refine (E_il c_21_52 rfl).trans ?_
        refine (E_iadd c_21_53).trans ?_
        refine (E_il c_21_54 rfl).trans ?_
        refine (E_ias (v := x3.toInt16.toInt32) c_21_56 sh_4 rfl).trans (ax_gd ?_)
        refine (E_il c_21_57 rfl).trans ?_
        exact E_rI c_21_59 mi_21
      · refine (E_il c_21_41 rfl).trans ?_
        refine (E_is (L' := [.ref 1, .int x1, .int x2, .int x3, .int (u0.2.1 2 x1.toNatClampNeg), .int x3]) c_21_42 (Nat.le_of_ble_eq_true rfl) rfl).trans ?_
        refine (E_al c_21_44 rfl (by decide)).trans ?_
        refine (E_gfr (k := 2) (r := 4) c_21_45 sh_1 rfl rfl rfl).trans ?_
        refine (E_il c_21_48 rfl).trans ?_
        refine (E_ic (v := (40 : Int32)) c_21_49 (by decide)).trans ?_
        refine (E_imul c_21_51).trans ?_
        refine (E_il c_21_52 rfl).trans ?_
        refine (E_iadd c_21_53).trans ?_
        refine (E_il c_21_54 rfl).trans ?_
        refine (E_ias (v := x3) c_21_56 sh_4 rfl).trans (ax_gd ?_)
        refine (E_il c_21_57 rfl).trans ?_
        exact E_rI c_21_59 mi_21
