set_option maxHeartbeats 4000000 in
theorem u_99_0 (d : Nat) (σ : ax_S) (x1 : Int32) (x2 : Int32) : ev sO (d + 2) 99 0 [.ref 0, .int x1, .int x2] [] σ = (cI sO (d + 1) 84 [.ref 17, .int x1] σ).bind fun u0 => if u0.1 = 0 then (some (some (.long (-9000000000000000001 : Int64)), u0.2)) else ((cI sO (d + 1) 82 [.int x2] u0.2).bind fun u1 => if u1.1 = 0 then (some (some (.long (-9000000000000000001 : Int64)), u1.2)) else ((cI sO (d + 1) 97 [.ref 17, .int x1, .int x2] u1.2).bind fun u2 => some (some (.long u2.1.toInt64), u2.2))) := by
  refine (E_al c_99_0 rfl (by decide)).trans ?_
  refine (E_gfr (k := 2) (r := 7) c_99_1 sh_0 rfl rfl rfl).trans ?_
  refine (E_gfr (k := 1) (r := 17) c_99_4 sh_7 rfl rfl rfl).trans ?_
  refine (E_il c_99_7 rfl).trans ?_
  refine (E_cIV c_99_8 mi_84 rfl rfl (sO_kl sh_17) (Nat.le_of_ble_eq_true rfl) (Nat.le_of_ble_eq_true rfl)).trans (ax_bnd fun u0 => ?_)
  refine (E_b0_eq (q := 21) c_99_11 rfl).trans (ax_ite ?_ ?_)
  · refine (E_l2 (v := (-9000000000000000001 : Int64)) c_99_21 (by decide)).trans ?_
    exact E_rL c_99_24 mi_99
  · refine (E_il c_99_14 rfl).trans ?_
    refine (E_cIS c_99_15 mi_82 rfl rfl (Nat.le_of_ble_eq_true rfl) (Nat.le_of_ble_eq_true rfl)).trans (ax_bnd fun u1 => ?_)
    refine (E_b0_ne (q := 25) c_99_18 rfl).trans (ax_ite ?_ ?_)
    · refine (E_l2 (v := (-9000000000000000001 : Int64)) c_99_21 (by decide)).trans ?_
      exact E_rL c_99_24 mi_99
    · refine (E_al c_99_25 rfl (by decide)).trans ?_
      refine (E_gfr (k := 2) (r := 7) c_99_26 sh_0 rfl rfl rfl).trans ?_
      refine (E_gfr (k := 1) (r := 17) c_99_29 sh_7 rfl rfl rfl).trans ?_
      refine (E_il c_99_32 rfl).trans ?_
      refine (E_il c_99_33 rfl).trans ?_
      refine (E_cIV c_99_34 mi_97 rfl rfl (sO_kl sh_17) (Nat.le_of_ble_eq_true rfl) (Nat.le_of_ble_eq_true rfl)).trans (ax_bnd fun u2 => ?_)
      refine (E_i2l c_99_37).trans ?_
      exact E_rL c_99_38 mi_99
set_option maxHeartbeats 4000000 in
theorem u_236_82 (d : Nat) (σ : ax_S) (x1 : Int32) (x2 : Int32) : ev sO (d + 2) 236 0 [.ref 82, .int x1, .int x2] [] σ = (cI sO (d + 1) 231 [.ref 82, .int x1] (sI σ 82 0 (0 : Int32))).bind fun u0 => if u0.1 = 0 then (some (some (.long (-9000000000000000001 : Int64)), u0.2)) else ((cI sO (d + 1) 237 [.int x2] u0.2).bind fun u1 => if u1.1 = 0 then (some (some (.long (-9000000000000000001 : Int64)), u1.2)) else ((cI sO (d + 1) 234 [.ref 82, .int x1, .int x2] u1.2).bind fun u2 => if u2.1 = 0 then (some (some (.long (-1000000 : Int64)), u2.2)) else ((cI sO (d + 1) 235 [.ref 82, .int x1, .int x2] u2.2).bind fun u3 => some (some (.long u3.1.toInt64), u3.2)))) := by
  refine (E_al c_236_0 rfl (by decide)).trans ?_
  refine (E_ic (v := (0 : Int32)) c_236_1 (by decide)).trans ?_
  refine (E_pfi (k := 0) c_236_2 sh_82 rfl rfl rfl).trans ?_
  refine (E_al c_236_5 rfl (by decide)).trans ?_
  refine (E_il c_236_6 rfl).trans ?_
  refine (E_cIV c_236_7 mi_231 rfl rfl (sO_kl sh_82) (Nat.le_of_ble_eq_true rfl) (Nat.le_of_ble_eq_true rfl)).trans (ax_bnd fun u0 => ?_)
  refine (E_b0_eq (q := 20) c_236_10 rfl).trans (ax_ite ?_ ?_)
  · refine (E_l2 (v := (-9000000000000000001 : Int64)) c_236_20 (by decide)).trans ?_
    refine (E_goto (q := 48) c_236_23 rfl).trans ?_
    exact E_rL c_236_48 mi_236
  · refine (E_il c_236_13 rfl).trans ?_
    refine (E_cIS c_236_14 mi_237 rfl rfl (Nat.le_of_ble_eq_true rfl) (Nat.le_of_ble_eq_true rfl)).trans (ax_bnd fun u1 => ?_)
    refine (E_b0_ne (q := 26) c_236_17 rfl).trans (ax_ite ?_ ?_)
    · refine (E_l2 (v := (-9000000000000000001 : Int64)) c_236_20 (by decide)).trans ?_
      refine (E_goto (q := 48) c_236_23 rfl).trans ?_
      exact E_rL c_236_48 mi_236
    · refine (E_al c_236_26 rfl (by decide)).trans ?_
      refine (E_il c_236_27 rfl).trans ?_
      refine (E_il c_236_28 rfl).trans ?_
      refine (E_cIV c_236_29 mi_234 rfl rfl (sO_kl sh_82) (Nat.le_of_ble_eq_true rfl) (Nat.le_of_ble_eq_true rfl)).trans (ax_bnd fun u2 => ?_)
      refine (E_b0_eq (q := 45) c_236_32 rfl).trans (ax_ite ?_ ?_)
      · refine (E_l2 (v := (-1000000 : Int64)) c_236_45 (by decide)).trans ?_
        exact E_rL c_236_48 mi_236
      · refine (E_al c_236_35 rfl (by decide)).trans ?_
        refine (E_il c_236_36 rfl).trans ?_
        refine (E_il c_236_37 rfl).trans ?_
        refine (E_cIV c_236_38 mi_235 rfl rfl (sO_kl sh_82) (Nat.le_of_ble_eq_true rfl) (Nat.le_of_ble_eq_true rfl)).trans (ax_bnd fun u3 => ?_)
        refine (E_i2l c_236_41).trans ?_
        refine (E_goto (q := 48) c_236_42 rfl).trans ?_
        exact E_rL c_236_48 mi_236
set_option maxHeartbeats 4000000 in
theorem u_100_0 (d : Nat) (σ : ax_S) (x1 : Int32) (x2 : Int32) : ev sO (d + 3) 100 0 [.ref 0, .int x1, .int x2] [] σ = (cI sO (d + 2) 84 [.ref 17, .int x1] σ).bind fun u0 => if u0.1 = 0 then (some (some (.long (-9000000000000000001 : Int64)), u0.2)) else (if x2 = (0 : Int32) then ((cI sO (d + 2) 101 [.ref 17, .int x1] u0.2).bind fun u1 => some (some (.long u1.1.toInt64), u1.2)) else (if x2 = (1 : Int32) then ((cI sO (d + 2) 91 [.ref 17, .int x1] u0.2).bind fun u2 => some (some (.long u2.1.toInt64), u2.2)) else (if x2 = (2 : Int32) then ((cI sO (d + 2) 102 [.ref 17, .int x1] u0.2).bind fun u3 => some (some (.long u3.1.toInt64), u3.2)) else (if x2 = (3 : Int32) then ((cI sO (d + 2) 103 [.ref 17, .int x1] u0.2).bind fun u4 => some (some (.long u4.1.toInt64), u4.2)) else (if x2 = (4 : Int32) then ((cI sO (d + 2) 104 [.ref 17, .int x1] u0.2).bind fun u5 => some (some (.long u5.1.toInt64), u5.2)) else (some (some (.long (-9000000000000000001 : Int64)), u0.2))))))) := by
  refine (E_al c_100_0 rfl (by decide)).trans ?_
  refine (E_gfr (k := 2) (r := 7) c_100_1 sh_0 rfl rfl rfl).trans ?_
  refine (E_gfr (k := 1) (r := 17) c_100_4 sh_7 rfl rfl rfl).trans ?_
  refine (E_il c_100_7 rfl).trans ?_
  refine (E_cIV c_100_8 mi_84 rfl rfl (sO_kl sh_17) (Nat.le_of_ble_eq_true rfl) (Nat.le_of_ble_eq_true rfl)).trans (ax_bnd fun u0 => ?_)
  refine (E_b0_ne (q := 18) c_100_11 rfl).trans (ax_ite ?_ ?_)
  · refine (E_l2 (v := (-9000000000000000001 : Int64)) c_100_14 (by decide)).trans ?_
    exact E_rL c_100_17 mi_100
  · refine (E_il c_100_18 rfl).trans ?_
    refine (E_sw c_100_19 [((0 : Int32), 52), ((1 : Int32), 65), ((2 : Int32), 78), ((3 : Int32), 91), ((4 : Int32), 104)] (q := 117) rfl (by decide) (by decide) (by decide)).trans ?_
    refine ev_sw1.trans (ax_ite ?_ ?_)
    · refine (E_al c_100_52 rfl (by decide)).trans ?_
      refine (E_gfr (k := 2) (r := 7) c_100_53 sh_0 rfl rfl rfl).trans ?_
      refine (E_gfr (k := 1) (r := 17) c_100_56 sh_7 rfl rfl rfl).trans ?_
      refine (E_il c_100_59 rfl).trans ?_
      refine (E_cIV c_100_60 mi_101 rfl rfl (sO_kl sh_17) (Nat.le_of_ble_eq_true rfl) (Nat.le_of_ble_eq_true rfl)).trans (ax_bnd fun u1 => ?_)
      refine (E_i2l c_100_63).trans ?_
      exact E_rL c_100_64 mi_100
    · refine ev_sw1.trans (ax_ite ?_ ?_)
      · refine (E_al c_100_65 rfl (by decide)).trans ?_
        refine (E_gfr (k := 2) (r := 7) c_100_66 sh_0 rfl rfl rfl).trans ?_
        refine (E_gfr (k := 1) (r := 17) c_100_69 sh_7 rfl rfl rfl).trans ?_
        refine (E_il c_100_72 rfl).trans ?_
        refine (E_cIV c_100_73 mi_91 rfl rfl (sO_kl sh_17) (Nat.le_of_ble_eq_true rfl) (Nat.le_of_ble_eq_true rfl)).trans (ax_bnd fun u2 => ?_)
        refine (E_i2l c_100_76).trans ?_
        exact E_rL c_100_77 mi_100
      · refine ev_sw1.trans (ax_ite ?_ ?_)
        · refine (E_al c_100_78 rfl (by decide)).trans ?_
          refine (E_gfr (k := 2) (r := 7) c_100_79 sh_0 rfl rfl rfl).trans ?_
          refine (E_gfr (k := 1) (r := 17) c_100_82 sh_7 rfl rfl rfl).trans ?_
          refine (E_il c_100_85 rfl).trans ?_
          refine (E_cIV c_100_86 mi_102 rfl rfl (sO_kl sh_17) (Nat.le_of_ble_eq_true rfl) (Nat.le_of_ble_eq_true rfl)).trans (ax_bnd fun u3 => ?_)
          refine (E_i2l c_100_89).trans ?_
          exact E_rL c_100_90 mi_100
        · refine ev_sw1.trans (ax_ite ?_ ?_)
          · refine (E_al c_100_91 rfl (by decide)).trans ?_
            refine (E_gfr (k := 2) (r := 7) c_100_92 sh_0 rfl rfl rfl).trans ?_
            refine (E_gfr (k := 1) (r := 17) c_100_95 sh_7 rfl rfl rfl).trans ?_
            refine (E_il c_100_98 rfl).trans ?_
            refine (E_cIV c_100_99 mi_103 rfl rfl (sO_kl sh_17) (Nat.le_of_ble_eq_true rfl) (Nat.le_of_ble_eq_true rfl)).trans (ax_bnd fun u4 => ?_)
            refine (E_i2l c_100_102).trans ?_
            exact E_rL c_100_103 mi_100
          · refine ev_sw1.trans (ax_ite ?_ ?_)
            · refine (E_al c_100_104 rfl (by decide)).trans ?_
              refine (E_gfr (k := 2) (r := 7) c_100_105 sh_0 rfl rfl rfl).trans ?_
              refine (E_gfr (k := 1) (r := 17) c_100_108 sh_7 rfl rfl rfl).trans ?_
              refine (E_il c_100_111 rfl).trans ?_
              refine (E_cIV c_100_112 mi_104 rfl rfl (sO_kl sh_17) (Nat.le_of_ble_eq_true rfl) (Nat.le_of_ble_eq_true rfl)).trans (ax_bnd fun u5 => ?_)
              refine (E_i2l c_100_115).trans ?_
              exact E_rL c_100_116 mi_100
            · refine ev_sw0.trans ?_
              refine (E_l2 (v := (-9000000000000000001 : Int64)) c_100_117 (by decide)).trans ?_
              exact E_rL c_100_120 mi_100
set_option maxHeartbeats 4000000 in
theorem u_238_82 (d : Nat) (σ : ax_S) (x1 : Int32) (x2 : Int32) : ev sO (d + 2) 238 0 [.ref 82, .int x1, .int x2, .null, .null] [] σ = (cI sO (d + 1) 231 [.ref 82, .int x1] (sI σ 82 0 (0 : Int32))).bind fun u0 => if u0.1 = 0 then (some (some (.long (-9000000000000000001 : Int64)), u0.2)) else ((cI sO (d + 1) 198 [.long x2.toInt64, .long (0 : Int64), .long (4 : Int64)] u0.2).bind fun u1 => if u1.1 = 0 then (some (some (.long (-9000000000000000001 : Int64)), u1.2)) else (ev sO (d + 2) 238 34 [.ref 82, .int x1, .int x2, .int (0 : Int32), .int (0 : Int32)] [] u1.2)) := by
  refine (E_al c_238_0 rfl (by decide)).trans ?_
  refine (E_ic (v := (0 : Int32)) c_238_1 (by decide)).trans ?_
  refine (E_pfi (k := 0) c_238_2 sh_82 rfl rfl rfl).trans ?_
  refine (E_al c_238_5 rfl (by decide)).trans ?_
  refine (E_il c_238_6 rfl).trans ?_
  refine (E_cIV c_238_7 mi_231 rfl rfl (sO_kl sh_82) (Nat.le_of_ble_eq_true rfl) (Nat.le_of_ble_eq_true rfl)).trans (ax_bnd fun u0 => ?_)
  refine (E_b0_eq (q := 25) c_238_10 rfl).trans (ax_ite ?_ ?_)
  · refine (E_l2 (v := (-9000000000000000001 : Int64)) c_238_25 (by decide)).trans ?_
    exact E_rL c_238_28 mi_238
  · refine (E_il c_238_13 rfl).trans ?_
    refine (E_i2l c_238_14).trans ?_
    refine (E_lc (v := (0 : Int64)) c_238_15 (by decide)).trans ?_
    refine (E_l2 (v := (4 : Int64)) c_238_16 (by decide)).trans ?_
    refine (E_cIS c_238_19 mi_198 rfl rfl (Nat.le_of_ble_eq_true rfl) (Nat.le_of_ble_eq_true rfl)).trans (ax_bnd fun u1 => ?_)
    refine (E_b0_ne (q := 29) c_238_22 rfl).trans (ax_ite ?_ ?_)
    · refine (E_l2 (v := (-9000000000000000001 : Int64)) c_238_25 (by decide)).trans ?_
      exact E_rL c_238_28 mi_238
    · refine (E_ic (v := (0 : Int32)) c_238_29 (by decide)).trans ?_
      refine (E_is (L' := [.ref 82, .int x1, .int x2, .int (0 : Int32), .null]) c_238_30 (Nat.le_of_ble_eq_true rfl) rfl).trans ?_
      refine (E_ic (v := (0 : Int32)) c_238_31 (by decide)).trans ?_
      refine (E_is (L' := [.ref 82, .int x1, .int x2, .int (0 : Int32), .int (0 : Int32)]) c_238_32 (Nat.le_of_ble_eq_true rfl) rfl).trans ?_
      rfl
set_option maxHeartbeats 4000000 in
theorem u_238_82p34 (d : Nat) (σ : ax_S) (x1 : Int32) (x2 : Int32) (x3 : Int32) (x4 : Int32) : ev sO (d + 2) 238 34 [.ref 82, .int x1, .int x2, .int x3, .int x4] [] σ = if x4 < (σ.1 88 0) then ((cI sO (d + 1) 232 [.ref 82, .int x4, .int (3 : Int32)] σ).bind fun u0 => if u0.1 = x1 then (ev sO (d + 2) 238 34 [.ref 82, .int x1, .int x2, .int (x3 + (1 : Int32)), .int (x4 + (1 : Int32))] [] u0.2) else (ev sO (d + 2) 238 34 [.ref 82, .int x1, .int x2, .int (x3 + (0 : Int32)), .int (x4 + (1 : Int32))] [] u0.2)) else (if x2 = (0 : Int32) then ((cI sO (d + 1) 232 [.ref 82, .int x1, .int ((1 : Int32) + x2)] σ).bind fun u1 => some (some (.long u1.1.toInt64), u1.2)) else (if x2 = (1 : Int32) then ((cI sO (d + 1) 232 [.ref 82, .int x1, .int ((1 : Int32) + x2)] σ).bind fun u2 => some (some (.long u2.1.toInt64), u2.2)) else (if x2 = (2 : Int32) then ((cI sO (d + 1) 239 [.ref 82, .int x1, .int (-1000000 : Int32)] σ).bind fun u3 => some (some (.long u3.1.toInt64), u3.2)) else (if x2 = (3 : Int32) then ((cI sO (d + 1) 232 [.ref 82, .int x1, .int (4 : Int32)] σ).bind fun u4 => (cI sO (d + 1) 240 [.int u4.1] u4.2).bind fun u5 => some (some (.long u5.1.toInt64), u5.2)) else (some (some (.long x3.toInt64), σ)))))) := by
  refine (E_il c_238_34 rfl).trans ?_
  refine (E_al c_238_36 rfl (by decide)).trans ?_
  refine (E_gfr (k := 8) (r := 88) c_238_37 sh_82 rfl rfl rfl).trans ?_
  refine (E_ic (v := (0 : Int32)) c_238_40 (by decide)).trans ?_
  refine (E_ialk (k := 0) c_238_41 sh_88 (by decide) (by decide)).trans ?_
  refine (E_br_ge (q := 70) c_238_42 rfl).trans (ax_ite ?_ ?_)
  · refine (E_il c_238_45 rfl).trans ?_
    refine (E_al c_238_46 rfl (by decide)).trans ?_
    refine (E_il c_238_47 rfl).trans ?_
    refine (E_ic (v := (3 : Int32)) c_238_49 (by decide)).trans ?_
    refine (E_cIV c_238_50 mi_232 rfl rfl (sO_kl sh_82) (Nat.le_of_ble_eq_true rfl) (Nat.le_of_ble_eq_true rfl)).trans (ax_bnd fun u0 => ?_)
    refine (E_il c_238_53 rfl).trans ?_
    refine (E_br_ne (q := 61) c_238_54 rfl).trans (ax_ite ?_ ?_)
    · refine (E_ic (v := (1 : Int32)) c_238_57 (by decide)).trans ?_
      refine (E_goto (q := 62) c_238_58 rfl).trans ?_
      refine (E_iadd c_238_62).trans ?_
      refine (E_is (L' := [.ref 82, .int x1, .int x2, .int (x3 + (1 : Int32)), .int x4]) c_238_63 (Nat.le_of_ble_eq_true rfl) rfl).trans ?_
      refine (E_inc (v := (1 : Int32)) (L' := [.ref 82, .int x1, .int x2, .int (x3 + (1 : Int32)), .int (x4 + (1 : Int32))]) c_238_64 rfl (by decide) rfl).trans ?_
      refine (E_goto (q := 34) c_238_67 rfl).trans ?_
      rfl
    · refine (E_ic (v := (0 : Int32)) c_238_61 (by decide)).trans ?_
      refine (E_iadd c_238_62).trans ?_
      refine (E_is (L' := [.ref 82, .int x1, .int x2, .int (x3 + (0 : Int32)), .int x4]) c_238_63 (Nat.le_of_ble_eq_true rfl) rfl).trans ?_
      refine (E_inc (v := (1 : Int32)) (L' := [.ref 82, .int x1, .int x2, .int (x3 + (0 : Int32)), .int (x4 + (1 : Int32))]) c_238_64 rfl (by decide) rfl).trans ?_
      refine (E_goto (q := 34) c_238_67 rfl).trans ?_
      rfl
  · refine (E_il c_238_70 rfl).trans ?_
    refine (E_sw c_238_71 [((0 : Int32), 100), ((1 : Int32), 100), ((2 : Int32), 110), ((3 : Int32), 119)] (q := 130) rfl (by decide) (by decide) (by decide)).trans ?_
    refine ev_sw1.trans (ax_ite ?_ ?_)
    · refine (E_al c_238_100 rfl (by decide)).trans ?_
      refine (E_il c_238_101 rfl).trans ?_
      refine (E_ic (v := (1 : Int32)) c_238_102 (by decide)).trans ?_
      refine (E_il c_238_103 rfl).trans ?_
      refine (E_iadd c_238_104).trans ?_
      refine (E_cIV c_238_105 mi_232 rfl rfl (sO_kl sh_82) (Nat.le_of_ble_eq_true rfl) (Nat.le_of_ble_eq_true rfl)).trans (ax_bnd fun u1 => ?_)
      refine (E_i2l c_238_108).trans ?_
      exact E_rL c_238_109 mi_238
    · refine ev_sw1.trans (ax_ite ?_ ?_)
      · refine (E_al c_238_100 rfl (by decide)).trans ?_
        refine (E_il c_238_101 rfl).trans ?_
        refine (E_ic (v := (1 : Int32)) c_238_102 (by decide)).trans ?_
        refine (E_il c_238_103 rfl).trans ?_
        refine (E_iadd c_238_104).trans ?_
        refine (E_cIV c_238_105 mi_232 rfl rfl (sO_kl sh_82) (Nat.le_of_ble_eq_true rfl) (Nat.le_of_ble_eq_true rfl)).trans (ax_bnd fun u2 => ?_)
        refine (E_i2l c_238_108).trans ?_
        exact E_rL c_238_109 mi_238
      · refine ev_sw1.trans (ax_ite ?_ ?_)
        · refine (E_al c_238_110 rfl (by decide)).trans ?_
          refine (E_il c_238_111 rfl).trans ?_
          refine (E_ic (v := (-1000000 : Int32)) c_238_112 (by decide)).trans ?_
          refine (E_cIV c_238_114 mi_239 rfl rfl (sO_kl sh_82) (Nat.le_of_ble_eq_true rfl) (Nat.le_of_ble_eq_true rfl)).trans (ax_bnd fun u3 => ?_)
          refine (E_i2l c_238_117).trans ?_
          exact E_rL c_238_118 mi_238
        · refine ev_sw1.trans (ax_ite ?_ ?_)
          · refine (E_al c_238_119 rfl (by decide)).trans ?_
            refine (E_il c_238_120 rfl).trans ?_
            refine (E_ic (v := (4 : Int32)) c_238_121 (by decide)).trans ?_
            refine (E_cIV c_238_122 mi_232 rfl rfl (sO_kl sh_82) (Nat.le_of_ble_eq_true rfl) (Nat.le_of_ble_eq_true rfl)).trans (ax_bnd fun u4 => ?_)
            refine (E_cIS c_238_125 mi_240 rfl rfl (Nat.le_of_ble_eq_true rfl) (Nat.le_of_ble_eq_true rfl)).trans (ax_bnd fun u5 => ?_)
            refine (E_i2l c_238_128).trans ?_
            exact E_rL c_238_129 mi_238
          · refine ev_sw0.trans ?_
            refine (E_il c_238_130 rfl).trans ?_
            refine (E_i2l c_238_131).trans ?_
            exact E_rL c_238_132 mi_238
set_option maxHeartbeats 4000000 in
theorem u_105_0 (d : Nat) (σ : ax_S) (x1 : Int32) (x2 : Int32) : ev sO (d + 2) 105 0 [.ref 0, .int x1, .int x2] [] σ = (cI sO (d + 1) 84 [.ref 17, .int x1] σ).bind fun u0 => if u0.1 = 0 then (some (some (.long (-9000000000000000001 : Int64)), u0.2)) else ((cI sO (d + 1) 82 [.int x2] u0.2).bind fun u1 => if u1.1 = 0 then (some (some (.long (-9000000000000000001 : Int64)), u1.2)) else ((cI sO (d + 1) 97 [.ref 17, .int x1, .int x2] u1.2).bind fun u2 => if u2.1 = (-1000000 : Int32) then (some (some (.long (0 : Int64)), u2.2)) else ((cV sO (d + 1) 83 [.ref 17, .int x1, .int x2, .int (-1000000 : Int32)] u2.2).bind fun u3 => some (some (.long (1 : Int64)), u3)))) := by
  refine (E_al c_105_0 rfl (by decide)).trans ?_
  refine (E_gfr (k := 2) (r := 7) c_105_1 sh_0 rfl rfl rfl).trans ?_
  refine (E_gfr (k := 1) (r := 17) c_105_4 sh_7 rfl rfl rfl).trans ?_
  refine (E_il c_105_7 rfl).trans ?_
  refine (E_cIV c_105_8 mi_84 rfl rfl (sO_kl sh_17) (Nat.le_of_ble_eq_true rfl) (Nat.le_of_ble_eq_true rfl)).trans (ax_bnd fun u0 => ?_)
  refine (E_b0_eq (q := 21) c_105_11 rfl).trans (ax_ite ?_ ?_)
  · refine (E_l2 (v := (-9000000000000000001 : Int64)) c_105_21 (by decide)).trans ?_
    exact E_rL c_105_24 mi_105
  · refine (E_il c_105_14 rfl).trans ?_
    refine (E_cIS c_105_15 mi_82 rfl rfl (Nat.le_of_ble_eq_true rfl) (Nat.le_of_ble_eq_true rfl)).trans (ax_bnd fun u1 => ?_)
    refine (E_b0_ne (q := 25) c_105_18 rfl).trans (ax_ite ?_ ?_)
    · refine (E_l2 (v := (-9000000000000000001 : Int64)) c_105_21 (by decide)).trans ?_
      exact E_rL c_105_24 mi_105
    · refine (E_al c_105_25 rfl (by decide)).trans ?_
      refine (E_gfr (k := 2) (r := 7) c_105_26 sh_0 rfl rfl rfl).trans ?_
      refine (E_gfr (k := 1) (r := 17) c_105_29 sh_7 rfl rfl rfl).trans ?_
      refine (E_il c_105_32 rfl).trans ?_
      refine (E_il c_105_33 rfl).trans ?_
      refine (E_cIV c_105_34 mi_97 rfl rfl (sO_kl sh_17) (Nat.le_of_ble_eq_true rfl) (Nat.le_of_ble_eq_true rfl)).trans (ax_bnd fun u2 => ?_)
      refine (E_ic (v := (-1000000 : Int32)) c_105_37 (by decide)).trans ?_
      refine (E_br_ne (q := 44) c_105_39 rfl).trans (ax_ite ?_ ?_)
      · refine (E_lc (v := (0 : Int64)) c_105_42 (by decide)).trans ?_
        exact E_rL c_105_43 mi_105
      · refine (E_al c_105_44 rfl (by decide)).trans ?_
        refine (E_gfr (k := 2) (r := 7) c_105_45 sh_0 rfl rfl rfl).trans ?_
        refine (E_gfr (k := 1) (r := 17) c_105_48 sh_7 rfl rfl rfl).trans ?_
        refine (E_il c_105_51 rfl).trans ?_
        refine (E_il c_105_52 rfl).trans ?_
        refine (E_ic (v := (-1000000 : Int32)) c_105_53 (by decide)).trans ?_
        refine (E_cVV c_105_55 mi_83 rfl (sO_kl sh_17) (Nat.le_of_ble_eq_true rfl) (Nat.le_of_ble_eq_true rfl)).trans (ax_bnd fun u3 => ?_)
        refine (E_lc (v := (1 : Int64)) c_105_58 (by decide)).trans ?_
        exact E_rL c_105_59 mi_105
set_option maxHeartbeats 4000000 in
theorem u_241_82 (d : Nat) (σ : ax_S) (x1 : Int32) (x2 : Int32) : ev sO (d + 2) 241 0 [.ref 82, .int x1, .int x2, .null] [] σ = (cI sO (d + 1) 231 [.ref 82, .int x1] (sI σ 82 0 (0 : Int32))).bind fun u0 => if u0.1 = 0 then (some (some (.long (-9000000000000000001 : Int64)), u0.2)) else ((cI sO (d + 1) 237 [.int x2] u0.2).bind fun u1 => if u1.1 = 0 then (some (some (.long (-9000000000000000001 : Int64)), u1.2)) else ((cI sO (d + 1) 234 [.ref 82, .int x1, .int x2] u1.2).bind fun u2 => if u2.1 = 0 then (gd (0 ≤ (((15 : Int32) * x1) + (4 : Int32)).toInt ∧ (((15 : Int32) * x1) + (4 : Int32)).toInt < (181 : Nat)) (gd (0 ≤ (((15 : Int32) * x1) + (4 : Int32)).toInt ∧ (((15 : Int32) * x1) + (4 : Int32)).toInt < (181 : Nat)) (gd (0 ≤ ((((15 : Int32) * x1) + (5 : Int32)) + x2).toInt ∧ ((((15 : Int32) * x1) + (5 : Int32)) + x2).toInt < (181 : Nat)) (some (some (.long ((0 : Int32).toInt64)), (sI (sI u2.2 88 (((15 : Int32) * x1) + (4 : Int32)).toNatClampNeg ((u2.2.1 88 (((15 : Int32) * x1) + (4 : Int32)).toNatClampNeg) ||| ((1 : Int32) <<< (x2 &&& 31)))) 88 ((((15 : Int32) * x1) + (5 : Int32)) + x2).toNatClampNeg (0 : Int32))))))) else (gd (0 ≤ (((15 : Int32) * x1) + (4 : Int32)).toInt ∧ (((15 : Int32) * x1) + (4 : Int32)).toInt < (181 : Nat)) (gd (0 ≤ (((15 : Int32) * x1) + (4 : Int32)).toInt ∧ (((15 : Int32) * x1) + (4 : Int32)).toInt < (181 : Nat)) (gd (0 ≤ ((((15 : Int32) * x1) + (5 : Int32)) + x2).toInt ∧ ((((15 : Int32) * x1) + (5 : Int32)) + x2).toInt < (181 : Nat)) (some (some (.long ((1 : Int32).toInt64)), (sI (sI u2.2 88 (((15 : Int32) * x1) + (4 : Int32)).toNatClampNeg ((u2.2.1 88 (((15 : Int32) * x1) + (4 : Int32)).toNatClampNeg) ||| ((1 : Int32) <<< (x2 &&& 31)))) 88 ((((15 : Int32) * x1) + (5 : Int32)) + x2).toNatClampNeg (0 : Int32))))))))) := by
  refine (E_al c_241_0 rfl (by decide)).trans ?_
  refine (E_ic (v := (0 : Int32)) c_241_1 (by decide)).trans ?_
  refine (E_pfi (k := 0) c_241_2 sh_82 rfl rfl rfl).trans ?_
  refine (E_al c_241_5 rfl (by decide)).trans ?_
  refine (E_il c_241_6 rfl).trans ?_
  refine (E_cIV c_241_7 mi_231 rfl rfl (sO_kl sh_82) (Nat.le_of_ble_eq_true rfl) (Nat.le_of_ble_eq_true rfl)).trans (ax_bnd fun u0 => ?_)
  refine (E_b0_eq (q := 20) c_241_10 rfl).trans (ax_ite ?_ ?_)
  · refine (E_l2 (v := (-9000000000000000001 : Int64)) c_241_20 (by decide)).trans ?_
    exact E_rL c_241_23 mi_241
  · refine (E_il c_241_13 rfl).trans ?_
    refine (E_cIS c_241_14 mi_237 rfl rfl (Nat.le_of_ble_eq_true rfl) (Nat.le_of_ble_eq_true rfl)).trans (ax_bnd fun u1 => ?_)
    refine (E_b0_ne (q := 24) c_241_17 rfl).trans (ax_ite ?_ ?_)
    · refine (E_l2 (v := (-9000000000000000001 : Int64)) c_241_20 (by decide)).trans ?_
      exact E_rL c_241_23 mi_241
    · refine (E_al c_241_24 rfl (by decide)).trans ?_
      refine (E_il c_241_25 rfl).trans ?_
      refine (E_il c_241_26 rfl).trans ?_
      refine (E_cIV c_241_27 mi_234 rfl rfl (sO_kl sh_82) (Nat.le_of_ble_eq_true rfl) (Nat.le_of_ble_eq_true rfl)).trans (ax_bnd fun u2 => ?_)
      refine (E_b0_eq (q := 37) c_241_30 rfl).trans (ax_ite ?_ ?_)
      · refine (E_ic (v := (0 : Int32)) c_241_37 (by decide)).trans ?_
        refine (E_is (L' := [.ref 82, .int x1, .int x2, .int (0 : Int32)]) c_241_38 (Nat.le_of_ble_eq_true rfl) rfl).trans ?_
        refine (E_al c_241_39 rfl (by decide)).trans ?_
        refine (E_gfr (k := 8) (r := 88) c_241_40 sh_82 rfl rfl rfl).trans ?_
        refine (E_ic (v := (15 : Int32)) c_241_43 (by decide)).trans ?_
        refine (E_il c_241_45 rfl).trans ?_
        refine (E_imul c_241_46).trans ?_
        refine (E_ic (v := (4 : Int32)) c_241_47 (by decide)).trans ?_
        refine (E_iadd c_241_48).trans ?_
        refine (E_dup2 c_241_49 ⟨rfl, rfl⟩).trans ?_
        refine (E_ial c_241_50 sh_88).trans (ax_gd ?_)
        refine (E_ic (v := (1 : Int32)) c_241_51 (by decide)).trans ?_
        refine (E_il c_241_52 rfl).trans ?_
        refine (E_ishl c_241_53).trans ?_
        refine (E_ior c_241_54).trans ?_
        refine (E_ias (v := ((u2.2.1 88 (((15 : Int32) * x1) + (4 : Int32)).toNatClampNeg) ||| ((1 : Int32) <<< (x2 &&& 31)))) c_241_55 sh_88 rfl).trans (ax_gd ?_)
        refine (E_al c_241_56 rfl (by decide)).trans ?_
        refine (E_gfr (k := 8) (r := 88) c_241_57 sh_82 rfl rfl rfl).trans ?_
        refine (E_ic (v := (15 : Int32)) c_241_60 (by decide)).trans ?_
        refine (E_il c_241_62 rfl).trans ?_
        refine (E_imul c_241_63).trans ?_
        refine (E_ic (v := (5 : Int32)) c_241_64 (by decide)).trans ?_
        refine (E_iadd c_241_65).trans ?_
        refine (E_il c_241_66 rfl).trans ?_
        refine (E_iadd c_241_67).trans ?_
        refine (E_ic (v := (0 : Int32)) c_241_68 (by decide)).trans ?_
        refine (E_ias (v := (0 : Int32)) c_241_69 sh_88 rfl).trans (ax_gd ?_)
        refine (E_il c_241_70 rfl).trans ?_
        refine (E_i2l c_241_71).trans ?_
        exact E_rL c_241_72 mi_241
      · refine (E_ic (v := (1 : Int32)) c_241_33 (by decide)).trans ?_
        refine (E_goto (q := 38) c_241_34 rfl).trans ?_
        refine (E_is (L' := [.ref 82, .int x1, .int x2, .int (1 : Int32)]) c_241_38 (Nat.le_of_ble_eq_true rfl) rfl).trans ?_
        refine (E_al c_241_39 rfl (by decide)).trans ?_
        refine (E_gfr (k := 8) (r := 88) c_241_40 sh_82 rfl rfl rfl).trans ?_
        refine (E_ic (v := (15 : Int32)) c_241_43 (by decide)).trans ?_
        refine (E_il c_241_45 rfl).trans ?_
        refine (E_imul c_241_46).trans ?_
        refine (E_ic (v := (4 : Int32)) c_241_47 (by decide)).trans ?_
        refine (E_iadd c_241_48).trans ?_
        refine (E_dup2 c_241_49 ⟨rfl, rfl⟩).trans ?_
        refine (E_ial c_241_50 sh_88).trans (ax_gd ?_)
        refine (E_ic (v := (1 : Int32)) c_241_51 (by decide)).trans ?_
        refine (E_il c_241_52 rfl).trans ?_
        refine (E_ishl c_241_53).trans ?_
        refine (E_ior c_241_54).trans ?_
        refine (E_ias (v := ((u2.2.1 88 (((15 : Int32) * x1) + (4 : Int32)).toNatClampNeg) ||| ((1 : Int32) <<< (x2 &&& 31)))) c_241_55 sh_88 rfl).trans (ax_gd ?_)
        refine (E_al c_241_56 rfl (by decide)).trans ?_
        refine (E_gfr (k := 8) (r := 88) c_241_57 sh_82 rfl rfl rfl).trans ?_
        refine (E_ic (v := (15 : Int32)) c_241_60 (by decide)).trans ?_
        refine (E_il c_241_62 rfl).trans ?_
        refine (E_imul c_241_63).trans ?_
        refine (E_ic (v := (5 : Int32)) c_241_64 (by decide)).trans ?_
        refine (E_iadd c_241_65).trans ?_
        refine (E_il c_241_66 rfl).trans ?_
        refine (E_iadd c_241_67).trans ?_
        refine (E_ic (v := (0 : Int32)) c_241_68 (by decide)).trans ?_
        refine (E_ias (v := (0 : Int32)) c_241_69 sh_88 rfl).trans (ax_gd ?_)
        refine (E_il c_241_70 rfl).trans ?_
        refine (E_i2l c_241_71).trans ?_
        exact E_rL c_241_72 mi_241
set_option maxHeartbeats 4000000 in
theorem u_106_0 (d : Nat) (σ : ax_S) (x1 : Int32) (x2 : Int32) (x3 : Int32) : ev sO (d + 1) 106 0 [.ref 0, .int x1, .int x2, .int x3] [] σ = if x1 < 0 then (some (some (.long (-9000000000000000001 : Int64)), σ)) else (if x1 < (4 : Int32) then ((cI sO d 88 [.int x2] σ).bind fun u0 => if u0.1 = 0 then (some (some (.long (-9000000000000000001 : Int64)), u0.2)) else ((cI sO d 89 [.int x3] u0.2).bind fun u1 => if u1.1 = 0 then (some (some (.long (-9000000000000000001 : Int64)), u1.2)) else ((cI sO d 67 [.ref 8] u1.2).bind fun u2 => if u2.1 = 0 then (some (some (.long (-9000000000000000002 : Int64)), u2.2)) else ((cI sO d 75 [.ref 8, .int x1, .int x2, .int x3] u2.2).bind fun u3 => some (some (.long u3.1.toInt64), u3.2))))) else (some (some (.long (-9000000000000000001 : Int64)), σ))) := by
  refine (E_il c_106_0 rfl).trans ?_
  refine (E_b0_lt (q := 23) c_106_1 rfl).trans (ax_ite ?_ ?_)
  · refine (E_l2 (v := (-9000000000000000001 : Int64)) c_106_23 (by decide)).trans ?_
    exact E_rL c_106_26 mi_106
  · refine (E_il c_106_4 rfl).trans ?_
    refine (E_ic (v := (4 : Int32)) c_106_5 (by decide)).trans ?_
    refine (E_br_ge (q := 23) c_106_6 rfl).trans (ax_ite ?_ ?_)
    · refine (E_il c_106_9 rfl).trans ?_
      refine (E_cIS c_106_10 mi_88 rfl rfl (Nat.le_of_ble_eq_true rfl) (Nat.le_of_ble_eq_true rfl)).trans (ax_bnd fun u0 => ?_)
      refine (E_b0_eq (q := 23) c_106_13 rfl).trans (ax_ite ?_ ?_)
      · refine (E_l2 (v := (-9000000000000000001 : Int64)) c_106_23 (by decide)).trans ?_
        exact E_rL c_106_26 mi_106
      · refine (E_il c_106_16 rfl).trans ?_
        refine (E_cIS c_106_17 mi_89 rfl rfl (Nat.le_of_ble_eq_true rfl) (Nat.le_of_ble_eq_true rfl)).trans (ax_bnd fun u1 => ?_)
        refine (E_b0_ne (q := 27) c_106_20 rfl).trans (ax_ite ?_ ?_)
        · refine (E_l2 (v := (-9000000000000000001 : Int64)) c_106_23 (by decide)).trans ?_
          exact E_rL c_106_26 mi_106
        · refine (E_al c_106_27 rfl (by decide)).trans ?_
          refine (E_gfr (k := 2) (r := 7) c_106_28 sh_0 rfl rfl rfl).trans ?_
          refine (E_gfr (k := 0) (r := 8) c_106_31 sh_7 rfl rfl rfl).trans ?_
          refine (E_cIV c_106_34 mi_67 rfl rfl (sO_kl sh_8) (Nat.le_of_ble_eq_true rfl) (Nat.le_of_ble_eq_true rfl)).trans (ax_bnd fun u2 => ?_)
          refine (E_b0_ne (q := 44) c_106_37 rfl).trans (ax_ite ?_ ?_)
          · refine (E_l2 (v := (-9000000000000000002 : Int64)) c_106_40 (by decide)).trans ?_
            exact E_rL c_106_43 mi_106
          · refine (E_al c_106_44 rfl (by decide)).trans ?_
            refine (E_gfr (k := 2) (r := 7) c_106_45 sh_0 rfl rfl rfl).trans ?_
            refine (E_gfr (k := 0) (r := 8) c_106_48 sh_7 rfl rfl rfl).trans ?_
            refine (E_il c_106_51 rfl).trans ?_
            refine (E_il c_106_52 rfl).trans ?_
            refine (E_il c_106_53 rfl).trans ?_
            refine (E_cIV c_106_54 mi_75 rfl rfl (sO_kl sh_8) (Nat.le_of_ble_eq_true rfl) (Nat.le_of_ble_eq_true rfl)).trans (ax_bnd fun u3 => ?_)
            refine (E_i2l c_106_57).trans ?_
            exact E_rL c_106_58 mi_106
    · refine (E_l2 (v := (-9000000000000000001 : Int64)) c_106_23 (by decide)).trans ?_
      exact E_rL c_106_26 mi_106
set_option maxHeartbeats 4000000 in
theorem u_242_82 (d : Nat) (σ : ax_S) (x1 : Int32) (x2 : Int32) (x3 : Int32) : ev sO (d + 2) 242 0 [.ref 82, .int x1, .int x2, .int x3] [] σ = (cI sO (d + 1) 198 [.long x1.toInt64, .long (0 : Int64), .long (3 : Int64)] (sI σ 82 0 (0 : Int32))).bind fun u0 => if u0.1 = 0 then (some (some (.long (-9000000000000000001 : Int64)), u0.2)) else ((cI sO (d + 1) 229 [.int x2] u0.2).bind fun u1 => if u1.1 = 0 then (some (some (.long (-9000000000000000001 : Int64)), u1.2)) else ((cI sO (d + 1) 230 [.int x3] u1.2).bind fun u2 => if u2.1 = 0 then (some (some (.long (-9000000000000000001 : Int64)), u2.2)) else (if (u2.2.1 82 7) = 0 then (some (some (.long (-9000000000000000002 : Int64)), u2.2)) else ((cI sO (d + 1) 224 [.ref 82, .int x1, .int x2, .int x3] u2.2).bind fun u3 => some (some (.long u3.1.toInt64), u3.2))))) := by
  refine (E_al c_242_0 rfl (by decide)).trans ?_
  refine (E_ic (v := (0 : Int32)) c_242_1 (by decide)).trans ?_
  refine (E_pfi (k := 0) c_242_2 sh_82 rfl rfl rfl).trans ?_
  refine (E_il c_242_5 rfl).trans ?_
  refine (E_i2l c_242_6).trans ?_
  refine (E_lc (v := (0 : Int64)) c_242_7 (by decide)).trans ?_
  refine (E_l2 (v := (3 : Int64)) c_242_8 (by decide)).trans ?_
  refine (E_cIS c_242_11 mi_198 rfl rfl (Nat.le_of_ble_eq_true rfl) (Nat.le_of_ble_eq_true rfl)).trans (ax_bnd fun u0 => ?_)
  refine (E_b0_eq (q := 31) c_242_14 rfl).trans (ax_ite ?_ ?_)
  · refine (E_l2 (v := (-9000000000000000001 : Int64)) c_242_31 (by decide)).trans ?_
    refine (E_goto (q := 58) c_242_34 rfl).trans ?_
    exact E_rL c_242_58 mi_242
  · refine (E_il c_242_17 rfl).trans ?_
    refine (E_cIS c_242_18 mi_229 rfl rfl (Nat.le_of_ble_eq_true rfl) (Nat.le_of_ble_eq_true rfl)).trans (ax_bnd fun u1 => ?_)
    refine (E_b0_eq (q := 31) c_242_21 rfl).trans (ax_ite ?_ ?_)
    · refine (E_l2 (v := (-9000000000000000001 : Int64)) c_242_31 (by decide)).trans ?_
      refine (E_goto (q := 58) c_242_34 rfl).trans ?_
      exact E_rL c_242_58 mi_242
    · refine (E_il c_242_24 rfl).trans ?_
      refine (E_cIS c_242_25 mi_230 rfl rfl (Nat.le_of_ble_eq_true rfl) (Nat.le_of_ble_eq_true rfl)).trans (ax_bnd fun u2 => ?_)
      refine (E_b0_ne (q := 37) c_242_28 rfl).trans (ax_ite ?_ ?_)
      · refine (E_l2 (v := (-9000000000000000001 : Int64)) c_242_31 (by decide)).trans ?_
        refine (E_goto (q := 58) c_242_34 rfl).trans ?_
        exact E_rL c_242_58 mi_242
      · refine (E_al c_242_37 rfl (by decide)).trans ?_
        refine (E_gfi (k := 7) c_242_38 sh_82 rfl rfl rfl (by decide)).trans ?_
        refine (E_b0_ne (q := 50) c_242_41 rfl).trans (ax_ite ?_ ?_)
        · refine (E_l2 (v := (-9000000000000000002 : Int64)) c_242_44 (by decide)).trans ?_
          refine (E_goto (q := 58) c_242_47 rfl).trans ?_
          exact E_rL c_242_58 mi_242
        · refine (E_al c_242_50 rfl (by decide)).trans ?_
          refine (E_il c_242_51 rfl).trans ?_
          refine (E_il c_242_52 rfl).trans ?_
          refine (E_il c_242_53 rfl).trans ?_
          refine (E_cIV c_242_54 mi_224 rfl rfl (sO_kl sh_82) (Nat.le_of_ble_eq_true rfl) (Nat.le_of_ble_eq_true rfl)).trans (ax_bnd fun u3 => ?_)
          refine (E_i2l c_242_57).trans ?_
          exact E_rL c_242_58 mi_242
set_option maxHeartbeats 4000000 in
theorem u_107_0 (d : Nat) (σ : ax_S) (x1 : Int32) (x2 : Int32) : ev sO (d + 4) 107 0 [.ref 0, .int x1, .int x2] [] σ = (cI sO (d + 3) 84 [.ref 17, .int x1] σ).bind fun u0 => if u0.1 = 0 then (some (some (.long (-9000000000000000001 : Int64)), u0.2)) else ((cI sO (d + 3) 84 [.ref 17, .int x2] u0.2).bind fun u1 => if u1.1 = 0 then (some (some (.long (-9000000000000000001 : Int64)), u1.2)) else ((cI sO (d + 3) 108 [.ref 17, .int x1, .int x2] u1.2).bind fun u2 => some (some (.long u2.1.toInt64), u2.2))) := by
  refine (E_al c_107_0 rfl (by decide)).trans ?_
  refine (E_gfr (k := 2) (r := 7) c_107_1 sh_0 rfl rfl rfl).trans ?_
  refine (E_gfr (k := 1) (r := 17) c_107_4 sh_7 rfl rfl rfl).trans ?_
  refine (E_il c_107_7 rfl).trans ?_
  refine (E_cIV c_107_8 mi_84 rfl rfl (sO_kl sh_17) (Nat.le_of_ble_eq_true rfl) (Nat.le_of_ble_eq_true rfl)).trans (ax_bnd fun u0 => ?_)
  refine (E_b0_eq (q := 28) c_107_11 rfl).trans (ax_ite ?_ ?_)
  · refine (E_l2 (v := (-9000000000000000001 : Int64)) c_107_28 (by decide)).trans ?_
    exact E_rL c_107_31 mi_107
  · refine (E_al c_107_14 rfl (by decide)).trans ?_
    refine (E_gfr (k := 2) (r := 7) c_107_15 sh_0 rfl rfl rfl).trans ?_
    refine (E_gfr (k := 1) (r := 17) c_107_18 sh_7 rfl rfl rfl).trans ?_
    refine (E_il c_107_21 rfl).trans ?_
    refine (E_cIV c_107_22 mi_84 rfl rfl (sO_kl sh_17) (Nat.le_of_ble_eq_true rfl) (Nat.le_of_ble_eq_true rfl)).trans (ax_bnd fun u1 => ?_)
    refine (E_b0_ne (q := 32) c_107_25 rfl).trans (ax_ite ?_ ?_)
    · refine (E_l2 (v := (-9000000000000000001 : Int64)) c_107_28 (by decide)).trans ?_
      exact E_rL c_107_31 mi_107
    · refine (E_al c_107_32 rfl (by decide)).trans ?_
      refine (E_gfr (k := 2) (r := 7) c_107_33 sh_0 rfl rfl rfl).trans ?_
      refine (E_gfr (k := 1) (r := 17) c_107_36 sh_7 rfl rfl rfl).trans ?_
      refine (E_il c_107_39 rfl).trans ?_
      refine (E_il c_107_40 rfl).trans ?_
      refine (E_cIV c_107_41 mi_108 rfl rfl (sO_kl sh_17) (Nat.le_of_ble_eq_true rfl) (Nat.le_of_ble_eq_true rfl)).trans (ax_bnd fun u2 => ?_)
      refine (E_i2l c_107_44).trans ?_
      exact E_rL c_107_45 mi_107
set_option maxHeartbeats 4000000 in
theorem u_243_82 (d : Nat) (σ : ax_S) (x1 : Int32) (x2 : Int32) : ev sO (d + 4) 243 0 [.ref 82, .int x1, .int x2] [] σ = (cI sO (d + 3) 231 [.ref 82, .int x1] (sI σ 82 0 (0 : Int32))).bind fun u0 => if u0.1 = 0 then (some (some (.long (-9000000000000000001 : Int64)), u0.2)) else ((cI sO (d + 3) 231 [.ref 82, .int x2] u0.2).bind fun u1 => if u1.1 = 0 then (some (some (.long (-9000000000000000001 : Int64)), u1.2)) else ((cI sO (d + 3) 244 [.ref 82, .int x1, .int x2] u1.2).bind fun u2 => some (some (.long u2.1.toInt64), u2.2))) := by
  refine (E_al c_243_0 rfl (by decide)).trans ?_
  refine (E_ic (v := (0 : Int32)) c_243_1 (by decide)).trans ?_
  refine (E_pfi (k := 0) c_243_2 sh_82 rfl rfl rfl).trans ?_
  refine (E_al c_243_5 rfl (by decide)).trans ?_
  refine (E_il c_243_6 rfl).trans ?_
  refine (E_cIV c_243_7 mi_231 rfl rfl (sO_kl sh_82) (Nat.le_of_ble_eq_true rfl) (Nat.le_of_ble_eq_true rfl)).trans (ax_bnd fun u0 => ?_)
  refine (E_b0_eq (q := 31) c_243_10 rfl).trans (ax_ite ?_ ?_)
  · refine (E_l2 (v := (-9000000000000000001 : Int64)) c_243_31 (by decide)).trans ?_
    exact E_rL c_243_34 mi_243
  · refine (E_al c_243_13 rfl (by decide)).trans ?_
    refine (E_il c_243_14 rfl).trans ?_
    refine (E_cIV c_243_15 mi_231 rfl rfl (sO_kl sh_82) (Nat.le_of_ble_eq_true rfl) (Nat.le_of_ble_eq_true rfl)).trans (ax_bnd fun u1 => ?_)
    refine (E_b0_eq (q := 31) c_243_18 rfl).trans (ax_ite ?_ ?_)
    · refine (E_l2 (v := (-9000000000000000001 : Int64)) c_243_31 (by decide)).trans ?_
      exact E_rL c_243_34 mi_243
    · refine (E_al c_243_21 rfl (by decide)).trans ?_
      refine (E_il c_243_22 rfl).trans ?_
      refine (E_il c_243_23 rfl).trans ?_
      refine (E_cIV c_243_24 mi_244 rfl rfl (sO_kl sh_82) (Nat.le_of_ble_eq_true rfl) (Nat.le_of_ble_eq_true rfl)).trans (ax_bnd fun u2 => ?_)
      refine (E_i2l c_243_27).trans ?_
      refine (E_goto (q := 34) c_243_28 rfl).trans ?_
      exact E_rL c_243_34 mi_243
set_option maxHeartbeats 4000000 in
theorem u_110_0 (d : Nat) (σ : ax_S) (x1 : Int32) (x2 : Int32) : ev sO (d + 4) 110 0 [.ref 0, .int x1, .int x2] [] σ = (cI sO (d + 3) 84 [.ref 17, .int x1] σ).bind fun u0 => if u0.1 = 0 then (some (some (.long (-9000000000000000001 : Int64)), u0.2)) else (if x2 < 0 then (some (some (.long (-9000000000000000001 : Int64)), u0.2)) else (if (1 : Int32) < x2 then (some (some (.long (-9000000000000000001 : Int64)), u0.2)) else (if x2 = 0 then ((cI sO (d + 3) 111 [.ref 7, .int x1] u0.2).bind fun u1 => some (some (.long u1.1.toInt64), u1.2)) else ((cI sO (d + 3) 113 [.ref 7, .int x1] u0.2).bind fun u2 => if u2.1 = 0 then (some (some (.long (0 : Int64)), u2.2)) else (some (some (.long (1 : Int64)), u2.2)))))) := by
  refine (E_al c_110_0 rfl (by decide)).trans ?_
  refine (E_gfr (k := 2) (r := 7) c_110_1 sh_0 rfl rfl rfl).trans ?_
  refine (E_gfr (k := 1) (r := 17) c_110_4 sh_7 rfl rfl rfl).trans ?_
  refine (E_il c_110_7 rfl).trans ?_
  refine (E_cIV c_110_8 mi_84 rfl rfl (sO_kl sh_17) (Nat.le_of_ble_eq_true rfl) (Nat.le_of_ble_eq_true rfl)).trans (ax_bnd fun u0 => ?_)
  refine (E_b0_eq (q := 23) c_110_11 rfl).trans (ax_ite ?_ ?_)
  · refine (E_l2 (v := (-9000000000000000001 : Int64)) c_110_23 (by decide)).trans ?_
    exact E_rL c_110_26 mi_110
  · refine (E_il c_110_14 rfl).trans ?_
    refine (E_b0_lt (q := 23) c_110_15 rfl).trans (ax_ite ?_ ?_)
    · refine (E_l2 (v := (-9000000000000000001 : Int64)) c_110_23 (by decide)).trans ?_
      exact E_rL c_110_26 mi_110
    · refine (E_il c_110_18 rfl).trans ?_
      refine (E_ic (v := (1 : Int32)) c_110_19 (by decide)).trans ?_
      refine (E_br_le (q := 27) c_110_20 rfl).trans (ax_ite ?_ ?_)
      · refine (E_l2 (v := (-9000000000000000001 : Int64)) c_110_23 (by decide)).trans ?_
        exact E_rL c_110_26 mi_110
      · refine (E_il c_110_27 rfl).trans ?_
        refine (E_b0_ne (q := 41) c_110_28 rfl).trans (ax_ite ?_ ?_)
        · refine (E_al c_110_31 rfl (by decide)).trans ?_
          refine (E_gfr (k := 2) (r := 7) c_110_32 sh_0 rfl rfl rfl).trans ?_
          refine (E_il c_110_35 rfl).trans ?_
          refine (E_cIV c_110_36 mi_111 rfl rfl (sO_kl sh_7) (Nat.le_of_ble_eq_true rfl) (Nat.le_of_ble_eq_true rfl)).trans (ax_bnd fun u1 => ?_)
          refine (E_i2l c_110_39).trans ?_
          exact E_rL c_110_40 mi_110
        · refine (E_al c_110_41 rfl (by decide)).trans ?_
          refine (E_gfr (k := 2) (r := 7) c_110_42 sh_0 rfl rfl rfl).trans ?_
          refine (E_il c_110_45 rfl).trans ?_
          refine (E_cIV c_110_46 mi_113 rfl rfl (sO_kl sh_7) (Nat.le_of_ble_eq_true rfl) (Nat.le_of_ble_eq_true rfl)).trans (ax_bnd fun u2 => ?_)
          refine (E_b0_eq (q := 56) c_110_49 rfl).trans (ax_ite ?_ ?_)
          · refine (E_lc (v := (0 : Int64)) c_110_56 (by decide)).trans ?_
            exact E_rL c_110_57 mi_110
          · refine (E_lc (v := (1 : Int64)) c_110_52 (by decide)).trans ?_
            refine (E_goto (q := 57) c_110_53 rfl).trans ?_
            exact E_rL c_110_57 mi_110
set_option maxHeartbeats 4000000 in
theorem u_246_82 (d : Nat) (σ : ax_S) (x1 : Int32) (x2 : Int32) : ev sO (d + 3) 246 0 [.ref 82, .int x1, .int x2] [] σ = (cI sO (d + 2) 231 [.ref 82, .int x1] (sI σ 82 0 (0 : Int32))).bind fun u0 => if u0.1 = 0 then (some (some (.long (-9000000000000000001 : Int64)), u0.2)) else ((cI sO (d + 2) 198 [.long x2.toInt64, .long (0 : Int64), .long (1 : Int64)] u0.2).bind fun u1 => if u1.1 = 0 then (some (some (.long (-9000000000000000001 : Int64)), u1.2)) else (if x2 = 0 then ((cI sO (d + 2) 247 [.ref 82, .int x1, .int x1, .int (0 : Int32)] u1.2).bind fun u2 => some (some (.long u2.1.toInt64), u2.2)) else ((cI sO (d + 2) 249 [.ref 82, .int x1, .int x1, .int (0 : Int32)] u1.2).bind fun u3 => if u3.1 = 0 then (some (some (.long (0 : Int64)), u3.2)) else (some (some (.long (1 : Int64)), u3.2))))) := by
  refine (E_al c_246_0 rfl (by decide)).trans ?_
  refine (E_ic (v := (0 : Int32)) c_246_1 (by decide)).trans ?_
  refine (E_pfi (k := 0) c_246_2 sh_82 rfl rfl rfl).trans ?_
  refine (E_al c_246_5 rfl (by decide)).trans ?_
  refine (E_il c_246_6 rfl).trans ?_
  refine (E_cIV c_246_7 mi_231 rfl rfl (sO_kl sh_82) (Nat.le_of_ble_eq_true rfl) (Nat.le_of_ble_eq_true rfl)).trans (ax_bnd fun u0 => ?_)
  refine (E_b0_eq (q := 23) c_246_10 rfl).trans (ax_ite ?_ ?_)
  · refine (E_l2 (v := (-9000000000000000001 : Int64)) c_246_23 (by decide)).trans ?_
    refine (E_goto (q := 59) c_246_26 rfl).trans ?_
    exact E_rL c_246_59 mi_246
  · refine (E_il c_246_13 rfl).trans ?_
    refine (E_i2l c_246_14).trans ?_
    refine (E_lc (v := (0 : Int64)) c_246_15 (by decide)).trans ?_
    refine (E_lc (v := (1 : Int64)) c_246_16 (by decide)).trans ?_
    refine (E_cIS c_246_17 mi_198 rfl rfl (Nat.le_of_ble_eq_true rfl) (Nat.le_of_ble_eq_true rfl)).trans (ax_bnd fun u1 => ?_)
    refine (E_b0_ne (q := 29) c_246_20 rfl).trans (ax_ite ?_ ?_)
    · refine (E_l2 (v := (-9000000000000000001 : Int64)) c_246_23 (by decide)).trans ?_
      refine (E_goto (q := 59) c_246_26 rfl).trans ?_
      exact E_rL c_246_59 mi_246
    · refine (E_il c_246_29 rfl).trans ?_
      refine (E_b0_ne (q := 44) c_246_30 rfl).trans (ax_ite ?_ ?_)
      · refine (E_al c_246_33 rfl (by decide)).trans ?_
        refine (E_il c_246_34 rfl).trans ?_
        refine (E_il c_246_35 rfl).trans ?_
        refine (E_ic (v := (0 : Int32)) c_246_36 (by decide)).trans ?_
        refine (E_cIV c_246_37 mi_247 rfl rfl (sO_kl sh_82) (Nat.le_of_ble_eq_true rfl) (Nat.le_of_ble_eq_true rfl)).trans (ax_bnd fun u2 => ?_)
        refine (E_i2l c_246_40).trans ?_
        refine (E_goto (q := 59) c_246_41 rfl).trans ?_
        exact E_rL c_246_59 mi_246
      · refine (E_al c_246_44 rfl (by decide)).trans ?_
        refine (E_il c_246_45 rfl).trans ?_
        refine (E_il c_246_46 rfl).trans ?_
        refine (E_ic (v := (0 : Int32)) c_246_47 (by decide)).trans ?_
        refine (E_cIV c_246_48 mi_249 rfl rfl (sO_kl sh_82) (Nat.le_of_ble_eq_true rfl) (Nat.le_of_ble_eq_true rfl)).trans (ax_bnd fun u3 => ?_)
        refine (E_b0_eq (q := 58) c_246_51 rfl).trans (ax_ite ?_ ?_)
        · refine (E_lc (v := (0 : Int64)) c_246_58 (by decide)).trans ?_
          exact E_rL c_246_59 mi_246
        · refine (E_lc (v := (1 : Int64)) c_246_54 (by decide)).trans ?_
          refine (E_goto (q := 59) c_246_55 rfl).trans ?_
          exact E_rL c_246_59 mi_246
set_option maxHeartbeats 4000000 in
theorem u_115_0 (d : Nat) (σ : ax_S) (x1 : Int32) (x2 : Int32) (x3 : Int32) : ev sO (d + 4) 115 0 [.ref 0, .int x1, .int x2, .int x3] [] σ = (cI sO (d + 3) 84 [.ref 17, .int x1] σ).bind fun u0 => if u0.1 = 0 then (some (some (.long (-9000000000000000001 : Int64)), u0.2)) else ((cI sO (d + 3) 84 [.ref 17, .int x2] u0.2).bind fun u1 => if u1.1 = 0 then (some (some (.long (-9000000000000000001 : Int64)), u1.2)) else (if x3 < 0 then (some (some (.long (-9000000000000000001 : Int64)), u1.2)) else (if (2 : Int32) < x3 then (some (some (.long (-9000000000000000001 : Int64)), u1.2)) else ((cI sO (d + 3) 113 [.ref 7, .int x1] u1.2).bind fun u2 => if u2.1 = 0 then ((cI sO (d + 3) 113 [.ref 7, .int x2] u2.2).bind fun u3 => if u3.1 = 0 then (some (some (.long (-9000000000000000002 : Int64)), u3.2)) else ((cV sO (d + 3) 116 [.ref 63, .ref 7, .int x1, .int x2] u3.2).bind fun u4 => if x3 = (2 : Int32) then ((cI sO (d + 3) 121 [.ref 63] u4).bind fun u5 => some (some (.long u5.1.toInt64), u5.2)) else ((cI sO (d + 3) 121 [.ref 63] u4).bind fun u6 => if u6.1 = 0 then (some (some (.long (-1000000 : Int64)), u6.2)) else (if x3 = 0 then ((cI sO (d + 3) 122 [.ref 63] u6.2).bind fun u7 => some (some (.long u7.1.toInt64), u7.2)) else ((cI sO (d + 3) 122 [.ref 63] u6.2).bind fun u8 => (cI sO (d + 3) 120 [.int u8.1] u8.2).bind fun u9 => some (some (.long u9.1.toInt64), u9.2)))))) else (some (some (.long (-9000000000000000002 : Int64)), u2.2)))))) := by
  refine (E_al c_115_0 rfl (by decide)).trans ?_
  refine (E_gfr (k := 2) (r := 7) c_115_1 sh_0 rfl rfl rfl).trans ?_
  refine (E_gfr (k := 1) (r := 17) c_115_4 sh_7 rfl rfl rfl).trans ?_
  refine (E_il c_115_7 rfl).trans ?_
  refine (E_cIV c_115_8 mi_84 rfl rfl (sO_kl sh_17) (Nat.le_of_ble_eq_true rfl) (Nat.le_of_ble_eq_true rfl)).trans (ax_bnd fun u0 => ?_)
  refine (E_b0_eq (q := 37) c_115_11 rfl).trans (ax_ite ?_ ?_)
  · refine (E_l2 (v := (-9000000000000000001 : Int64)) c_115_37 (by decide)).trans ?_
    exact E_rL c_115_40 mi_115
  · refine (E_al c_115_14 rfl (by decide)).trans ?_
    refine (E_gfr (k := 2) (r := 7) c_115_15 sh_0 rfl rfl rfl).trans ?_
    refine (E_gfr (k := 1) (r := 17) c_115_18 sh_7 rfl rfl rfl).trans ?_
    refine (E_il c_115_21 rfl).trans ?_
    refine (E_cIV c_115_22 mi_84 rfl rfl (sO_kl sh_17) (Nat.le_of_ble_eq_true rfl) (Nat.le_of_ble_eq_true rfl)).trans (ax_bnd fun u1 => ?_)
    refine (E_b0_eq (q := 37) c_115_25 rfl).trans (ax_ite ?_ ?_)
    · refine (E_l2 (v := (-9000000000000000001 : Int64)) c_115_37 (by decide)).trans ?_
      exact E_rL c_115_40 mi_115
    · refine (E_il c_115_28 rfl).trans ?_
      refine (E_b0_lt (q := 37) c_115_29 rfl).trans (ax_ite ?_ ?_)
      · refine (E_l2 (v := (-9000000000000000001 : Int64)) c_115_37 (by decide)).trans ?_
        exact E_rL c_115_40 mi_115
      · refine (E_il c_115_32 rfl).trans ?_
        refine (E_ic (v := (2 : Int32)) c_115_33 (by decide)).trans ?_
        refine (E_br_le (q := 41) c_115_34 rfl).trans (ax_ite ?_ ?_)
        · refine (E_l2 (v := (-9000000000000000001 : Int64)) c_115_37 (by decide)).trans ?_
          exact E_rL c_115_40 mi_115
        · refine (E_al c_115_41 rfl (by decide)).trans ?_
          refine (E_gfr (k := 2) (r := 7) c_115_42 sh_0 rfl rfl rfl).trans ?_
          refine (E_il c_115_45 rfl).trans ?_
          refine (E_cIV c_115_46 mi_113 rfl rfl (sO_kl sh_7) (Nat.le_of_ble_eq_true rfl) (Nat.le_of_ble_eq_true rfl)).trans (ax_bnd fun u2 => ?_)
          refine (E_b0_ne (q := 63) c_115_49 rfl).trans (ax_ite ?_ ?_)
          · refine (E_al c_115_52 rfl (by decide)).trans ?_
            refine (E_gfr (k := 2) (r := 7) c_115_53 sh_0 rfl rfl rfl).trans ?_
            refine (E_il c_115_56 rfl).trans ?_
            refine (E_cIV c_115_57 mi_113 rfl rfl (sO_kl sh_7) (Nat.le_of_ble_eq_true rfl) (Nat.le_of_ble_eq_true rfl)).trans (ax_bnd fun u3 => ?_)
            refine (E_b0_ne (q := 67) c_115_60 rfl).trans (ax_ite ?_ ?_)
            · refine (E_l2 (v := (-9000000000000000002 : Int64)) c_115_63 (by decide)).trans ?_
              exact E_rL c_115_66 mi_115
            · refine (E_al c_115_67 rfl (by decide)).trans ?_
              refine (E_gfr (k := 7) (r := 63) c_115_68 sh_0 rfl rfl rfl).trans ?_
              refine (E_al c_115_71 rfl (by decide)).trans ?_
              refine (E_gfr (k := 2) (r := 7) c_115_72 sh_0 rfl rfl rfl).trans ?_
              refine (E_il c_115_75 rfl).trans ?_
              refine (E_il c_115_76 rfl).trans ?_
              refine (E_cVV c_115_77 mi_116 rfl (sO_kl sh_63) (Nat.le_of_ble_eq_true rfl) (Nat.le_of_ble_eq_true rfl)).trans (ax_bnd fun u4 => ?_)
              refine (E_il c_115_80 rfl).trans ?_
              refine (E_ic (v := (2 : Int32)) c_115_81 (by decide)).trans ?_
              refine (E_br_ne (q := 94) c_115_82 rfl).trans (ax_ite ?_ ?_)
              · refine (E_al c_115_85 rfl (by decide)).trans ?_
                refine (E_gfr (k := 7) (r := 63) c_115_86 sh_0 rfl rfl rfl).trans ?_
                refine (E_cIV c_115_89 mi_121 rfl rfl (sO_kl sh_63) (Nat.le_of_ble_eq_true rfl) (Nat.le_of_ble_eq_true rfl)).trans (ax_bnd fun u5 => ?_)
                refine (E_i2l c_115_92).trans ?_
                exact E_rL c_115_93 mi_115
              · refine (E_al c_115_94 rfl (by decide)).trans ?_
                refine (E_gfr (k := 7) (r := 63) c_115_95 sh_0 rfl rfl rfl).trans ?_
                refine (E_cIV c_115_98 mi_121 rfl rfl (sO_kl sh_63) (Nat.le_of_ble_eq_true rfl) (Nat.le_of_ble_eq_true rfl)).trans (ax_bnd fun u6 => ?_)
                refine (E_b0_ne (q := 108) c_115_101 rfl).trans (ax_ite ?_ ?_)
                · refine (E_l2 (v := (-1000000 : Int64)) c_115_104 (by decide)).trans ?_
                  exact E_rL c_115_107 mi_115
                · refine (E_il c_115_108 rfl).trans ?_
                  refine (E_b0_ne (q := 123) c_115_109 rfl).trans (ax_ite ?_ ?_)
                  · refine (E_al c_115_112 rfl (by decide)).trans ?_
                    refine (E_gfr (k := 7) (r := 63) c_115_113 sh_0 rfl rfl rfl).trans ?_
                    refine (E_cIV c_115_116 mi_122 rfl rfl (sO_kl sh_63) (Nat.le_of_ble_eq_true rfl) (Nat.le_of_ble_eq_true rfl)).trans (ax_bnd fun u7 => ?_)
                    refine (E_i2l c_115_119).trans ?_
                    refine (E_goto (q := 134) c_115_120 rfl).trans ?_
                    exact E_rL c_115_134 mi_115
                  · refine (E_al c_115_123 rfl (by decide)).trans ?_
                    refine (E_gfr (k := 7) (r := 63) c_115_124 sh_0 rfl rfl rfl).trans ?_
                    refine (E_cIV c_115_127 mi_122 rfl rfl (sO_kl sh_63) (Nat.le_of_ble_eq_true rfl) (Nat.le_of_ble_eq_true rfl)).trans (ax_bnd fun u8 => ?_)
                    refine (E_cIS c_115_130 mi_120 rfl rfl (Nat.le_of_ble_eq_true rfl) (Nat.le_of_ble_eq_true rfl)).trans (ax_bnd fun u9 => ?_)
                    refine (E_i2l c_115_133).trans ?_
                    exact E_rL c_115_134 mi_115
          · refine (E_l2 (v := (-9000000000000000002 : Int64)) c_115_63 (by decide)).trans ?_
            exact E_rL c_115_66 mi_115
set_option maxHeartbeats 4000000 in
theorem u_250_82 (d : Nat) (σ : ax_S) (x1 : Int32) (x2 : Int32) (x3 : Int32) : ev sO (d + 3) 250 0 [.ref 82, .int x1, .int x2, .int x3, .null, .null, .null, .null, .null] [] σ = (cI sO (d + 2) 231 [.ref 82, .int x1] (sI σ 82 0 (0 : Int32))).bind fun u0 => if u0.1 = 0 then (some (some (.long (-9000000000000000001 : Int64)), u0.2)) else ((cI sO (d + 2) 231 [.ref 82, .int x2] u0.2).bind fun u1 => if u1.1 = 0 then (some (some (.long (-9000000000000000001 : Int64)), u1.2)) else ((cI sO (d + 2) 198 [.long x3.toInt64, .long (0 : Int64), .long (2 : Int64)] u1.2).bind fun u2 => if u2.1 = 0 then (some (some (.long (-9000000000000000001 : Int64)), u2.2)) else ((cI sO (d + 2) 249 [.ref 82, .int x1, .int x1, .int (0 : Int32)] u2.2).bind fun u3 => if u3.1 = 0 then ((cI sO (d + 2) 249 [.ref 82, .int x2, .int x2, .int (0 : Int32)] u3.2).bind fun u4 => if u4.1 = 0 then (some (some (.long (-9000000000000000002 : Int64)), u4.2)) else (ev sO (d + 3) 250 67 [.ref 82, .int x1, .int x2, .int x3, .int (0 : Int32), .int (0 : Int32), .null, .null, .null] [] u4.2)) else (some (some (.long (-9000000000000000002 : Int64)), u3.2))))) := by
  refine (E_al c_250_0 rfl (by decide)).trans ?_
  refine (E_ic (v := (0 : Int32)) c_250_1 (by decide)).trans ?_
  refine (E_pfi (k := 0) c_250_2 sh_82 rfl rfl rfl).trans ?_
  refine (E_al c_250_5 rfl (by decide)).trans ?_
  refine (E_il c_250_6 rfl).trans ?_
  refine (E_cIV c_250_7 mi_231 rfl rfl (sO_kl sh_82) (Nat.le_of_ble_eq_true rfl) (Nat.le_of_ble_eq_true rfl)).trans (ax_bnd fun u0 => ?_)
  refine (E_b0_eq (q := 33) c_250_10 rfl).trans (ax_ite ?_ ?_)
  · refine (E_l2 (v := (-9000000000000000001 : Int64)) c_250_33 (by decide)).trans ?_
    exact E_rL c_250_36 mi_250
  · refine (E_al c_250_13 rfl (by decide)).trans ?_
    refine (E_il c_250_14 rfl).trans ?_
    refine (E_cIV c_250_15 mi_231 rfl rfl (sO_kl sh_82) (Nat.le_of_ble_eq_true rfl) (Nat.le_of_ble_eq_true rfl)).trans (ax_bnd fun u1 => ?_)
    refine (E_b0_eq (q := 33) c_250_18 rfl).trans (ax_ite ?_ ?_)
    · refine (E_l2 (v := (-9000000000000000001 : Int64)) c_250_33 (by decide)).trans ?_
      exact E_rL c_250_36 mi_250
    · refine (E_il c_250_21 rfl).trans ?_
      refine (E_i2l c_250_22).trans ?_
      refine (E_lc (v := (0 : Int64)) c_250_23 (by decide)).trans ?_
      refine (E_l2 (v := (2 : Int64)) c_250_24 (by decide)).trans ?_
      refine (E_cIS c_250_27 mi_198 rfl rfl (Nat.le_of_ble_eq_true rfl) (Nat.le_of_ble_eq_true rfl)).trans (ax_bnd fun u2 => ?_)
      refine (E_b0_ne (q := 37) c_250_30 rfl).trans (ax_ite ?_ ?_)
      · refine (E_l2 (v := (-9000000000000000001 : Int64)) c_250_33 (by decide)).trans ?_
        exact E_rL c_250_36 mi_250
      · refine (E_al c_250_37 rfl (by decide)).trans ?_
        refine (E_il c_250_38 rfl).trans ?_
        refine (E_il c_250_39 rfl).trans ?_
        refine (E_ic (v := (0 : Int32)) c_250_40 (by decide)).trans ?_
        refine (E_cIV c_250_41 mi_249 rfl rfl (sO_kl sh_82) (Nat.le_of_ble_eq_true rfl) (Nat.le_of_ble_eq_true rfl)).trans (ax_bnd fun u3 => ?_)
        refine (E_b0_ne (q := 57) c_250_44 rfl).trans (ax_ite ?_ ?_)
        · refine (E_al c_250_47 rfl (by decide)).trans ?_
          refine (E_il c_250_48 rfl).trans ?_
          refine (E_il c_250_49 rfl).trans ?_
          refine (E_ic (v := (0 : Int32)) c_250_50 (by decide)).trans ?_
          refine (E_cIV c_250_51 mi_249 rfl rfl (sO_kl sh_82) (Nat.le_of_ble_eq_true rfl) (Nat.le_of_ble_eq_true rfl)).trans (ax_bnd fun u4 => ?_)
          refine (E_b0_ne (q := 61) c_250_54 rfl).trans (ax_ite ?_ ?_)
          · refine (E_l2 (v := (-9000000000000000002 : Int64)) c_250_57 (by decide)).trans ?_
            exact E_rL c_250_60 mi_250
          · refine (E_ic (v := (0 : Int32)) c_250_61 (by decide)).trans ?_
            refine (E_is (L' := [.ref 82, .int x1, .int x2, .int x3, .int (0 : Int32), .null, .null, .null, .null]) c_250_62 (Nat.le_of_ble_eq_true rfl) rfl).trans ?_
            refine (E_ic (v := (0 : Int32)) c_250_64 (by decide)).trans ?_
            refine (E_is (L' := [.ref 82, .int x1, .int x2, .int x3, .int (0 : Int32), .int (0 : Int32), .null, .null, .null]) c_250_65 (Nat.le_of_ble_eq_true rfl) rfl).trans ?_
            rfl
        · refine (E_l2 (v := (-9000000000000000002 : Int64)) c_250_57 (by decide)).trans ?_
          exact E_rL c_250_60 mi_250
set_option maxHeartbeats 4000000 in
theorem u_250_82p67 (d : Nat) (σ : ax_S) (x1 : Int32) (x2 : Int32) (x3 : Int32) (x4 : Int32) (x5 : Int32) (w6 : Value) (hw6 : w6.category = 1) (w7 : Value) (hw7 : w7.category = 1) (w8 : Value) (hw8 : w8.category = 1) : ev sO (d + 3) 250 67 [.ref 82, .int x1, .int x2, .int x3, .int x4, .int x5, w6, w7, w8] [] σ = if x5 < (11 : Int32) then ((cI sO (d + 2) 245 [.ref 82, .int x1, .int x2, .int x5] σ).bind fun u0 => if u0.1 = 0 then (ev sO (d + 3) 250 67 [.ref 82, .int x1, .int x2, .int x3, .int (x4 ||| (0 : Int32)), .int (x5 + (1 : Int32)), w6, w7, w8] [] u0.2) else (ev sO (d + 3) 250 67 [.ref 82, .int x1, .int x2, .int x3, .int (x4 ||| ((1 : Int32) <<< (x5 &&& 31))), .int (x5 + (1 : Int32)), w6, w7, w8] [] u0.2)) else (ev sO (d + 3) 250 114 [.ref 82, .int x1, .int x2, .int x3, .int x4, .int (-1000000 : Int32), .int (0 : Int32), .int (1 : Int32), w8] [] σ) := by
  refine (E_il c_250_67 rfl).trans ?_
  refine (E_ic (v := (11 : Int32)) c_250_69 (by decide)).trans ?_
  refine (E_br_ge (q := 104) c_250_71 rfl).trans (ax_ite ?_ ?_)
  · refine (E_il c_250_74 rfl).trans ?_
    refine (E_al c_250_76 rfl (by decide)).trans ?_
    refine (E_il c_250_77 rfl).trans ?_
    refine (E_il c_250_78 rfl).trans ?_
    refine (E_il c_250_79 rfl).trans ?_
    refine (E_cIV c_250_81 mi_245 rfl rfl (sO_kl sh_82) (Nat.le_of_ble_eq_true rfl) (Nat.le_of_ble_eq_true rfl)).trans (ax_bnd fun u0 => ?_)
    refine (E_b0_eq (q := 94) c_250_84 rfl).trans (ax_ite ?_ ?_)
    · refine (E_ic (v := (0 : Int32)) c_250_94 (by decide)).trans ?_
      refine (E_ior c_250_95).trans ?_
      refine (E_is (L' := [.ref 82, .int x1, .int x2, .int x3, .int (x4 ||| (0 : Int32)), .int x5, w6, w7, w8]) c_250_96 (Nat.le_of_ble_eq_true rfl) rfl).trans ?_
      refine (E_inc (v := (1 : Int32)) (L' := [.ref 82, .int x1, .int x2, .int x3, .int (x4 ||| (0 : Int32)), .int (x5 + (1 : Int32)), w6, w7, w8]) c_250_98 rfl (by decide) rfl).trans ?_
      refine (E_goto (q := 67) c_250_101 rfl).trans ?_
      rfl
    · refine (E_ic (v := (1 : Int32)) c_250_87 (by decide)).trans ?_
      refine (E_il c_250_88 rfl).trans ?_
      refine (E_ishl c_250_90).trans ?_
      refine (E_goto (q := 95) c_250_91 rfl).trans ?_
      refine (E_ior c_250_95).trans ?_
      refine (E_is (L' := [.ref 82, .int x1, .int x2, .int x3, .int (x4 ||| ((1 : Int32) <<< (x5 &&& 31))), .int x5, w6, w7, w8]) c_250_96 (Nat.le_of_ble_eq_true rfl) rfl).trans ?_
      refine (E_inc (v := (1 : Int32)) (L' := [.ref 82, .int x1, .int x2, .int x3, .int (x4 ||| ((1 : Int32) <<< (x5 &&& 31))), .int (x5 + (1 : Int32)), w6, w7, w8]) c_250_98 rfl (by decide) rfl).trans ?_
      refine (E_goto (q := 67) c_250_101 rfl).trans ?_
      rfl
  · refine (E_ic (v := (-1000000 : Int32)) c_250_104 (by decide)).trans ?_
    refine (E_is (L' := [.ref 82, .int x1, .int x2, .int x3, .int x4, .int (-1000000 : Int32), w6, w7, w8]) c_250_106 (Nat.le_of_ble_eq_true rfl) rfl).trans ?_
    refine (E_ic (v := (0 : Int32)) c_250_108 (by decide)).trans ?_
    refine (E_is (L' := [.ref 82, .int x1, .int x2, .int x3, .int x4, .int (-1000000 : Int32), .int (0 : Int32), w7, w8]) c_250_109 (Nat.le_of_ble_eq_true rfl) rfl).trans ?_
    refine (E_ic (v := (1 : Int32)) c_250_111 (by decide)).trans ?_
    refine (E_is (L' := [.ref 82, .int x1, .int x2, .int x3, .int x4, .int (-1000000 : Int32), .int (0 : Int32), .int (1 : Int32), w8]) c_250_112 (Nat.le_of_ble_eq_true rfl) rfl).trans ?_
    rfl
set_option maxHeartbeats 4000000 in
theorem u_250_82p114 (d : Nat) (σ : ax_S) (x1 : Int32) (x2 : Int32) (x3 : Int32) (x4 : Int32) (x5 : Int32) (x6 : Int32) (x7 : Int32) (w8 : Value) (hw8 : w8.category = 1) : ev sO (d + 3) 250 114 [.ref 82, .int x1, .int x2, .int x3, .int x4, .int x5, .int x6, .int x7, w8] [] σ = if x7 < (2048 : Int32) then (if (x7 &&& (x4 ^^^ (-1 : Int32))) = 0 then ((cI sO (d + 2) 249 [.ref 82, .int x1, .int x2, .int x7] σ).bind fun u0 => if u0.1 = 0 then (ev sO (d + 3) 250 114 [.ref 82, .int x1, .int x2, .int x3, .int x4, .int x5, .int x6, .int (x7 + (1 : Int32)), w8] [] u0.2) else (if x5 = (-1000000 : Int32) then (ev sO (d + 3) 250 114 [.ref 82, .int x1, .int x2, .int x3, .int x4, .int x7, .int (1 : Int32), .int (x7 + (1 : Int32)), .int (1 : Int32)] [] u0.2) else ((cI sO (d + 2) 240 [.int x7] u0.2).bind fun u1 => (cI sO (d + 2) 240 [.int x5] u1.2).bind fun u2 => if u1.1 < u2.1 then (ev sO (d + 3) 250 114 [.ref 82, .int x1, .int x2, .int x3, .int x4, .int x7, .int (1 : Int32), .int (x7 + (1 : Int32)), .int (1 : Int32)] [] u2.2) else ((cI sO (d + 2) 240 [.int x7] u2.2).bind fun u3 => (cI sO (d + 2) 240 [.int x5] u3.2).bind fun u4 => if u3.1 = u4.1 then (ev sO (d + 3) 250 114 [.ref 82, .int x1, .int x2, .int x3, .int x4, .int x5, .int (x6 + (1 : Int32)), .int (x7 + (1 : Int32)), .int (0 : Int32)] [] u4.2) else (ev sO (d + 3) 250 114 [.ref 82, .int x1, .int x2, .int x3, .int x4, .int x5, .int x6, .int (x7 + (1 : Int32)), .int (0 : Int32)] [] u4.2))))) else (ev sO (d + 3) 250 114 [.ref 82, .int x1, .int x2, .int x3, .int x4, .int x5, .int x6, .int (x7 + (1 : Int32)), w8] [] σ)) else (if x3 = (2 : Int32) then (some (some (.long x6.toInt64), σ)) else (if x5 = (-1000000 : Int32) then (some (some (.long (-1000000 : Int64)), σ)) else (if x3 = 0 then (some (some (.long x5.toInt64), σ)) else ((cI sO (d + 2) 240 [.int x5] σ).bind fun u5 => some (some (.long u5.1.toInt64), u5.2))))) := by
  refine (E_il c_250_114 rfl).trans ?_
  refine (E_ic (v := (2048 : Int32)) c_250_116 (by decide)).trans ?_
  refine (E_br_ge (q := 223) c_250_119 rfl).trans (ax_ite ?_ ?_)
  · refine (E_il c_250_122 rfl).trans ?_
    refine (E_il c_250_124 rfl).trans ?_
    refine (E_ic (v := (-1 : Int32)) c_250_126 (by decide)).trans ?_
    refine (E_ixor c_250_127).trans ?_
    refine (E_iand c_250_128).trans ?_
    refine (E_b0_ne (q := 217) c_250_129 rfl).trans (ax_ite ?_ ?_)
    · refine (E_al c_250_132 rfl (by decide)).trans ?_
      refine (E_il c_250_133 rfl).trans ?_
      refine (E_il c_250_134 rfl).trans ?_
      refine (E_il c_250_135 rfl).trans ?_
      refine (E_cIV c_250_137 mi_249 rfl rfl (sO_kl sh_82) (Nat.le_of_ble_eq_true rfl) (Nat.le_of_ble_eq_true rfl)).trans (ax_bnd fun u0 => ?_)
      refine (E_b0_eq (q := 217) c_250_140 rfl).trans (ax_ite ?_ ?_)
      · refine (E_inc (v := (1 : Int32)) (L' := [.ref 82, .int x1, .int x2, .int x3, .int x4, .int x5, .int x6, .int (x7 + (1 : Int32)), w8]) c_250_217 rfl (by decide) rfl).trans ?_
        refine (E_goto (q := 114) c_250_220 rfl).trans ?_
        rfl
      · refine (E_il c_250_143 rfl).trans ?_
        refine (E_ic (v := (-1000000 : Int32)) c_250_145 (by decide)).trans ?_
        refine (E_br_eq (q := 163) c_250_147 rfl).trans (ax_ite ?_ ?_)
        · refine (E_ic (v := (1 : Int32)) c_250_163 (by decide)).trans ?_
          refine (E_goto (q := 168) c_250_164 rfl).trans ?_
          refine (E_is (L' := [.ref 82, .int x1, .int x2, .int x3, .int x4, .int x5, .int x6, .int x7, .int (1 : Int32)]) c_250_168 (Nat.le_of_ble_eq_true rfl) rfl).trans ?_
          refine (E_il c_250_170 rfl).trans ?_
          refine (E_b0_eq (q := 179) c_250_172 rfl).trans ?_
          refine (if_neg (by decide)).trans ?_
          refine (E_ic (v := (1 : Int32)) c_250_175 (by decide)).trans ?_
          refine (E_goto (q := 201) c_250_176 rfl).trans ?_
          refine (E_is (L' := [.ref 82, .int x1, .int x2, .int x3, .int x4, .int x5, .int (1 : Int32), .int x7, .int (1 : Int32)]) c_250_201 (Nat.le_of_ble_eq_true rfl) rfl).trans ?_
          refine (E_il c_250_203 rfl).trans ?_
          refine (E_b0_eq (q := 213) c_250_205 rfl).trans ?_
          refine (if_neg (by decide)).trans ?_
          refine (E_il c_250_208 rfl).trans ?_
          refine (E_goto (q := 215) c_250_210 rfl).trans ?_
          refine (E_is (L' := [.ref 82, .int x1, .int x2, .int x3, .int x4, .int x7, .int (1 : Int32), .int x7, .int (1 : Int32)]) c_250_215 (Nat.le_of_ble_eq_true rfl) rfl).trans ?_
          refine (E_inc (v := (1 : Int32)) (L' := [.ref 82, .int x1, .int x2, .int x3, .int x4, .int x7, .int (1 : Int32), .int (x7 + (1 : Int32)), .int (1 : Int32)]) c_250_217 rfl (by decide) rfl).trans ?_
          refine (E_goto (q := 114) c_250_220 rfl).trans ?_
          rfl
        · refine (E_il c_250_150 rfl).trans ?_
          refine (E_cIS c_250_152 mi_240 rfl rfl (Nat.le_of_ble_eq_true rfl) (Nat.le_of_ble_eq_true rfl)).trans (ax_bnd fun u1 => ?_)
          refine (E_il c_250_155 rfl).trans ?_
          refine (E_cIS c_250_157 mi_240 rfl rfl (Nat.le_of_ble_eq_true rfl) (Nat.le_of_ble_eq_true rfl)).trans (ax_bnd fun u2 => ?_)
          refine (E_br_ge (q := 167) c_250_160 rfl).trans (ax_ite ?_ ?_)
          · refine (E_ic (v := (1 : Int32)) c_250_163 (by decide)).trans ?_
            refine (E_goto (q := 168) c_250_164 rfl).trans ?_
            refine (E_is (L' := [.ref 82, .int x1, .int x2, .int x3, .int x4, .int x5, .int x6, .int x7, .int (1 : Int32)]) c_250_168 (Nat.le_of_ble_eq_true rfl) rfl).trans ?_
            refine (E_il c_250_170 rfl).trans ?_
            refine (E_b0_eq (q := 179) c_250_172 rfl).trans ?_
            refine (if_neg (by decide)).trans ?_
            refine (E_ic (v := (1 : Int32)) c_250_175 (by decide)).trans ?_
            refine (E_goto (q := 201) c_250_176 rfl).trans ?_
            refine (E_is (L' := [.ref 82, .int x1, .int x2, .int x3, .int x4, .int x5, .int (1 : Int32), .int x7, .int (1 : Int32)]) c_250_201 (Nat.le_of_ble_eq_true rfl) rfl).trans ?_
            refine (E_il c_250_203 rfl).trans ?_
            refine (E_b0_eq (q := 213) c_250_205 rfl).trans ?_
            refine (if_neg (by decide)).trans ?_
            refine (E_il c_250_208 rfl).trans ?_
            refine (E_goto (q := 215) c_250_210 rfl).trans ?_
            refine (E_is (L' := [.ref 82, .int x1, .int x2, .int x3, .int x4, .int x7, .int (1 : Int32), .int x7, .int (1 : Int32)]) c_250_215 (Nat.le_of_ble_eq_true rfl) rfl).trans ?_
            refine (E_inc (v := (1 : Int32)) (L' := [.ref 82, .int x1, .int x2, .int x3, .int x4, .int x7, .int (1 : Int32), .int (x7 + (1 : Int32)), .int (1 : Int32)]) c_250_217 rfl (by decide) rfl).trans ?_
            refine (E_goto (q := 114) c_250_220 rfl).trans ?_
            rfl
          · refine (E_ic (v := (0 : Int32)) c_250_167 (by decide)).trans ?_
            refine (E_is (L' := [.ref 82, .int x1, .int x2, .int x3, .int x4, .int x5, .int x6, .int x7, .int (0 : Int32)]) c_250_168 (Nat.le_of_ble_eq_true rfl) rfl).trans ?_
            refine (E_il c_250_170 rfl).trans ?_
            refine (E_b0_eq (q := 179) c_250_172 rfl).trans ?_
            refine (if_pos (by decide)).trans ?_
            refine (E_il c_250_179 rfl).trans ?_
            refine (E_cIS c_250_181 mi_240 rfl rfl (Nat.le_of_ble_eq_true rfl) (Nat.le_of_ble_eq_true rfl)).trans (ax_bnd fun u3 => ?_)
            refine (E_il c_250_184 rfl).trans ?_
            refine (E_cIS c_250_186 mi_240 rfl rfl (Nat.le_of_ble_eq_true rfl) (Nat.le_of_ble_eq_true rfl)).trans (ax_bnd fun u4 => ?_)
            refine (E_br_ne (q := 199) c_250_189 rfl).trans (ax_ite ?_ ?_)
            · refine (E_il c_250_192 rfl).trans ?_
              refine (E_ic (v := (1 : Int32)) c_250_194 (by decide)).trans ?_
              refine (E_iadd c_250_195).trans ?_
              refine (E_goto (q := 201) c_250_196 rfl).trans ?_
              refine (E_is (L' := [.ref 82, .int x1, .int x2, .int x3, .int x4, .int x5, .int (x6 + (1 : Int32)), .int x7, .int (0 : Int32)]) c_250_201 (Nat.le_of_ble_eq_true rfl) rfl).trans ?_
              refine (E_il c_250_203 rfl).trans ?_
              refine (E_b0_eq (q := 213) c_250_205 rfl).trans ?_
              refine (if_pos (by decide)).trans ?_
              refine (E_il c_250_213 rfl).trans ?_
              refine (E_is (L' := [.ref 82, .int x1, .int x2, .int x3, .int x4, .int x5, .int (x6 + (1 : Int32)), .int x7, .int (0 : Int32)]) c_250_215 (Nat.le_of_ble_eq_true rfl) rfl).trans ?_
              refine (E_inc (v := (1 : Int32)) (L' := [.ref 82, .int x1, .int x2, .int x3, .int x4, .int x5, .int (x6 + (1 : Int32)), .int (x7 + (1 : Int32)), .int (0 : Int32)]) c_250_217 rfl (by decide) rfl).trans ?_
              refine (E_goto (q := 114) c_250_220 rfl).trans ?_
              rfl
            · refine (E_il c_250_199 rfl).trans ?_
              refine (E_is (L' := [.ref 82, .int x1, .int x2, .int x3, .int x4, .int x5, .int x6, .int x7, .int (0 : Int32)]) c_250_201 (Nat.le_of_ble_eq_true rfl) rfl).trans ?_
              refine (E_il c_250_203 rfl).trans ?_
              refine (E_b0_eq (q := 213) c_250_205 rfl).trans ?_
              refine (if_pos (by decide)).trans ?_
              refine (E_il c_250_213 rfl).trans ?_
              refine (E_is (L' := [.ref 82, .int x1, .int x2, .int x3, .int x4, .int x5, .int x6, .int x7, .int (0 : Int32)]) c_250_215 (Nat.le_of_ble_eq_true rfl) rfl).trans ?_
              refine (E_inc (v := (1 : Int32)) (L' := [.ref 82, .int x1, .int x2, .int x3, .int x4, .int x5, .int x6, .int (x7 + (1 : Int32)), .int (0 : Int32)]) c_250_217 rfl (by decide) rfl).trans ?_
              refine (E_goto (q := 114) c_250_220 rfl).trans ?_
              rfl
    · refine (E_inc (v := (1 : Int32)) (L' := [.ref 82, .int x1, .int x2, .int x3, .int x4, .int x5, .int x6, .int (x7 + (1 : Int32)), w8]) c_250_217 rfl (by decide) rfl).trans ?_
      refine (E_goto (q := 114) c_250_220 rfl).trans ?_
      rfl
  · refine (E_il c_250_223 rfl).trans ?_
    refine (E_ic (v := (2 : Int32)) c_250_224 (by decide)).trans ?_
    refine (E_br_ne (q := 234) c_250_225 rfl).trans (ax_ite ?_ ?_)
    · refine (E_il c_250_228 rfl).trans ?_
      refine (E_i2l c_250_230).trans ?_
      refine (E_goto (q := 263) c_250_231 rfl).trans ?_
      exact E_rL c_250_263 mi_250
    · refine (E_il c_250_234 rfl).trans ?_
      refine (E_ic (v := (-1000000 : Int32)) c_250_236 (by decide)).trans ?_
      refine (E_br_ne (q := 247) c_250_238 rfl).trans (ax_ite ?_ ?_)
      · refine (E_l2 (v := (-1000000 : Int64)) c_250_241 (by decide)).trans ?_
        refine (E_goto (q := 263) c_250_244 rfl).trans ?_
        exact E_rL c_250_263 mi_250
      · refine (E_il c_250_247 rfl).trans ?_
        refine (E_b0_ne (q := 257) c_250_248 rfl).trans (ax_ite ?_ ?_)
        · refine (E_il c_250_251 rfl).trans ?_
          refine (E_i2l c_250_253).trans ?_
          refine (E_goto (q := 263) c_250_254 rfl).trans ?_
          exact E_rL c_250_263 mi_250
        · refine (E_il c_250_257 rfl).trans ?_
          refine (E_cIS c_250_259 mi_240 rfl rfl (Nat.le_of_ble_eq_true rfl) (Nat.le_of_ble_eq_true rfl)).trans (ax_bnd fun u5 => ?_)
          refine (E_i2l c_250_262).trans ?_
          exact E_rL c_250_263 mi_250
set_option maxHeartbeats 4000000 in
theorem u_123_0 (d : Nat) (σ : ax_S) (x1 : Int32) : ev sO (d + 6) 123 0 [.ref 0, .int x1] [] σ = if x1 < 0 then (some (some (.long (-9000000000000000001 : Int64)), σ)) else (if (1 : Int32) < x1 then (some (some (.long (-9000000000000000001 : Int64)), σ)) else ((cI sO (d + 5) 124 [.ref 17] σ).bind fun u0 => if u0.1 = 0 then (some (some (.long (-9000000000000000002 : Int64)), u0.2)) else (if x1 = 0 then ((cI sO (d + 5) 125 [.ref 17] u0.2).bind fun u1 => some (some (.long u1.1.toInt64), u1.2)) else ((cL sO (d + 5) 128 [.ref 17] u0.2).bind fun u2 => some (some (.long u2.1), u2.2))))) := by
  refine (E_il c_123_0 rfl).trans ?_
  refine (E_b0_lt (q := 9) c_123_1 rfl).trans (ax_ite ?_ ?_)
  · refine (E_l2 (v := (-9000000000000000001 : Int64)) c_123_9 (by decide)).trans ?_
    exact E_rL c_123_12 mi_123
  · refine (E_il c_123_4 rfl).trans ?_
    refine (E_ic (v := (1 : Int32)) c_123_5 (by decide)).trans ?_
    refine (E_br_le (q := 13) c_123_6 rfl).trans (ax_ite ?_ ?_)
    · refine (E_l2 (v := (-9000000000000000001 : Int64)) c_123_9 (by decide)).trans ?_
      exact E_rL c_123_12 mi_123
    · refine (E_al c_123_13 rfl (by decide)).trans ?_
      refine (E_gfr (k := 2) (r := 7) c_123_14 sh_0 rfl rfl rfl).trans ?_
      refine (E_gfr (k := 1) (r := 17) c_123_17 sh_7 rfl rfl rfl).trans ?_
      refine (E_cIV c_123_20 mi_124 rfl rfl (sO_kl sh_17) (Nat.le_of_ble_eq_true rfl) (Nat.le_of_ble_eq_true rfl)).trans (ax_bnd fun u0 => ?_)
      refine (E_b0_ne (q := 30) c_123_23 rfl).trans (ax_ite ?_ ?_)
      · refine (E_l2 (v := (-9000000000000000002 : Int64)) c_123_26 (by decide)).trans ?_
        exact E_rL c_123_29 mi_123
      · refine (E_il c_123_30 rfl).trans ?_
        refine (E_b0_ne (q := 48) c_123_31 rfl).trans (ax_ite ?_ ?_)
        · refine (E_al c_123_34 rfl (by decide)).trans ?_
          refine (E_gfr (k := 2) (r := 7) c_123_35 sh_0 rfl rfl rfl).trans ?_
          refine (E_gfr (k := 1) (r := 17) c_123_38 sh_7 rfl rfl rfl).trans ?_
          refine (E_cIV c_123_41 mi_125 rfl rfl (sO_kl sh_17) (Nat.le_of_ble_eq_true rfl) (Nat.le_of_ble_eq_true rfl)).trans (ax_bnd fun u1 => ?_)
          refine (E_i2l c_123_44).trans ?_
          refine (E_goto (q := 58) c_123_45 rfl).trans ?_
          exact E_rL c_123_58 mi_123
        · refine (E_al c_123_48 rfl (by decide)).trans ?_
          refine (E_gfr (k := 2) (r := 7) c_123_49 sh_0 rfl rfl rfl).trans ?_
          refine (E_gfr (k := 1) (r := 17) c_123_52 sh_7 rfl rfl rfl).trans ?_
          refine (E_cLV c_123_55 mi_128 rfl (sO_kl sh_17) (Nat.le_of_ble_eq_true rfl) (Nat.le_of_ble_eq_true rfl)).trans (ax_bnd fun u2 => ?_)
          exact E_rL c_123_58 mi_123
set_option maxHeartbeats 4000000 in
theorem u_251_82 (d : Nat) (σ : ax_S) (x1 : Int32) : ev sO (d + 5) 251 0 [.ref 82, .int x1, .null, .null, .null, .null, .null] [] σ = (cI sO (d + 4) 198 [.long x1.toInt64, .long (0 : Int64), .long (1 : Int64)] (sI σ 82 0 (0 : Int32))).bind fun u0 => if u0.1 = 0 then (some (some (.long (-9000000000000000001 : Int64)), u0.2)) else (if (u0.2.1 88 0) = 0 then (some (some (.long (-9000000000000000002 : Int64)), u0.2)) else (ev sO (d + 5) 251 40 [.ref 82, .int x1, .long (0 : Int64), .null, .long (1 : Int64), .null, .int (0 : Int32)] [] u0.2)) := by
  refine (E_al c_251_0 rfl (by decide)).trans ?_
  refine (E_ic (v := (0 : Int32)) c_251_1 (by decide)).trans ?_
  refine (E_pfi (k := 0) c_251_2 sh_82 rfl rfl rfl).trans ?_
  refine (E_il c_251_5 rfl).trans ?_
  refine (E_i2l c_251_6).trans ?_
  refine (E_lc (v := (0 : Int64)) c_251_7 (by decide)).trans ?_
  refine (E_lc (v := (1 : Int64)) c_251_8 (by decide)).trans ?_
  refine (E_cIS c_251_9 mi_198 rfl rfl (Nat.le_of_ble_eq_true rfl) (Nat.le_of_ble_eq_true rfl)).trans (ax_bnd fun u0 => ?_)
  refine (E_b0_ne (q := 19) c_251_12 rfl).trans (ax_ite ?_ ?_)
  · refine (E_l2 (v := (-9000000000000000001 : Int64)) c_251_15 (by decide)).trans ?_
    exact E_rL c_251_18 mi_251
  · refine (E_al c_251_19 rfl (by decide)).trans ?_
    refine (E_gfr (k := 8) (r := 88) c_251_20 sh_82 rfl rfl rfl).trans ?_
    refine (E_ic (v := (0 : Int32)) c_251_23 (by decide)).trans ?_
    refine (E_ialk (k := 0) c_251_24 sh_88 (by decide) (by decide)).trans ?_
    refine (E_b0_ne (q := 32) c_251_25 rfl).trans (ax_ite ?_ ?_)
    · refine (E_l2 (v := (-9000000000000000002 : Int64)) c_251_28 (by decide)).trans ?_
      exact E_rL c_251_31 mi_251
    · refine (E_lc (v := (0 : Int64)) c_251_32 (by decide)).trans ?_
      refine (E_lss (L' := [.ref 82, .int x1, .long (0 : Int64), .null, .null, .null, .null]) c_251_33 (Nat.le_of_ble_eq_true rfl) rfl).trans ?_
      refine (E_lc (v := (1 : Int64)) c_251_34 (by decide)).trans ?_
      refine (E_lss (L' := [.ref 82, .int x1, .long (0 : Int64), .null, .long (1 : Int64), .null, .null]) c_251_35 (Nat.le_of_ble_eq_true rfl) rfl).trans ?_
      refine (E_ic (v := (0 : Int32)) c_251_37 (by decide)).trans ?_
      refine (E_is (L' := [.ref 82, .int x1, .long (0 : Int64), .null, .long (1 : Int64), .null, .int (0 : Int32)]) c_251_38 (Nat.le_of_ble_eq_true rfl) rfl).trans ?_
      rfl
set_option maxHeartbeats 4000000 in
theorem u_251_82p40 (d : Nat) (σ : ax_S) (x1 : Int32) (x2 : Int64) (x4 : Int64) (x6 : Int32) : ev sO (d + 5) 251 40 [.ref 82, .int x1, .long x2, .null, .long x4, .null, .int x6] [] σ = if x6 < (σ.1 88 0) then ((cV sO (d + 4) 252 [.ref 82, .int x6] σ).bind fun u0 => if (u0.1 82 22) = 0 then (ev sO (d + 5) 251 40 [.ref 82, .int x1, .long (x2 + ((u0.1 82 21).toInt64)), .null, .long (x4 * (1 : Int64)), .null, .int (x6 + (1 : Int32))] [] u0) else (ev sO (d + 5) 251 40 [.ref 82, .int x1, .long (x2 + ((u0.1 82 21).toInt64)), .null, .long (x4 * ((u0.1 82 22).toInt64)), .null, .int (x6 + (1 : Int32))] [] u0)) else (if x1 = 0 then (some (some (.long x2), σ)) else (some (some (.long x4), σ))) := by
  refine (E_il c_251_40 rfl).trans ?_
  refine (E_al c_251_42 rfl (by decide)).trans ?_
  refine (E_gfr (k := 8) (r := 88) c_251_43 sh_82 rfl rfl rfl).trans ?_
  refine (E_ic (v := (0 : Int32)) c_251_46 (by decide)).trans ?_
  refine (E_ialk (k := 0) c_251_47 sh_88 (by decide) (by decide)).trans ?_
  refine (E_br_ge (q := 92) c_251_48 rfl).trans (ax_ite ?_ ?_)
  · refine (E_al c_251_51 rfl (by decide)).trans ?_
    refine (E_il c_251_52 rfl).trans ?_
    refine (E_cVV c_251_54 mi_252 rfl (sO_kl sh_82) (Nat.le_of_ble_eq_true rfl) (Nat.le_of_ble_eq_true rfl)).trans (ax_bnd fun u0 => ?_)
    refine (E_ll c_251_57 rfl).trans ?_
    refine (E_al c_251_58 rfl (by decide)).trans ?_
    refine (E_gfi (k := 21) c_251_59 sh_82 rfl rfl rfl (by decide)).trans ?_
    refine (E_i2l c_251_62).trans ?_
    refine (E_ladd c_251_63).trans ?_
    refine (E_lss (L' := [.ref 82, .int x1, .long (x2 + ((u0.1 82 21).toInt64)), .null, .long x4, .null, .int x6]) c_251_64 (Nat.le_of_ble_eq_true rfl) rfl).trans ?_
    refine (E_ll c_251_65 rfl).trans ?_
    refine (E_al c_251_67 rfl (by decide)).trans ?_
    refine (E_gfi (k := 22) c_251_68 sh_82 rfl rfl rfl (by decide)).trans ?_
    refine (E_b0_ne (q := 78) c_251_71 rfl).trans (ax_ite ?_ ?_)
    · refine (E_lc (v := (1 : Int64)) c_251_74 (by decide)).trans ?_
      refine (E_goto (q := 83) c_251_75 rfl).trans ?_
      refine (E_lmul c_251_83).trans ?_
      refine (E_lss (L' := [.ref 82, .int x1, .long (x2 + ((u0.1 82 21).toInt64)), .null, .long (x4 * (1 : Int64)), .null, .int x6]) c_251_84 (Nat.le_of_ble_eq_true rfl) rfl).trans ?_
      refine (E_inc (v := (1 : Int32)) (L' := [.ref 82, .int x1, .long (x2 + ((u0.1 82 21).toInt64)), .null, .long (x4 * (1 : Int64)), .null, .int (x6 + (1 : Int32))]) c_251_86 rfl (by decide) rfl).trans ?_
      refine (E_goto (q := 40) c_251_89 rfl).trans ?_
      rfl
    · refine (E_al c_251_78 rfl (by decide)).trans ?_
      refine (E_gfi (k := 22) c_251_79 sh_82 rfl rfl rfl (by decide)).trans ?_
      refine (E_i2l c_251_82).trans ?_
      refine (E_lmul c_251_83).trans ?_
      refine (E_lss (L' := [.ref 82, .int x1, .long (x2 + ((u0.1 82 21).toInt64)), .null, .long (x4 * ((u0.1 82 22).toInt64)), .null, .int x6]) c_251_84 (Nat.le_of_ble_eq_true rfl) rfl).trans ?_
      refine (E_inc (v := (1 : Int32)) (L' := [.ref 82, .int x1, .long (x2 + ((u0.1 82 21).toInt64)), .null, .long (x4 * ((u0.1 82 22).toInt64)), .null, .int (x6 + (1 : Int32))]) c_251_86 rfl (by decide) rfl).trans ?_
      refine (E_goto (q := 40) c_251_89 rfl).trans ?_
      rfl
  · refine (E_il c_251_92 rfl).trans ?_
    refine (E_b0_ne (q := 100) c_251_93 rfl).trans (ax_ite ?_ ?_)
    · refine (E_ll c_251_96 rfl).trans ?_
      refine (E_goto (q := 102) c_251_97 rfl).trans ?_
      exact E_rL c_251_102 mi_251
    · refine (E_ll c_251_100 rfl).trans ?_
      exact E_rL c_251_102 mi_251
set_option maxHeartbeats 4000000 in
theorem u_130_0 (d : Nat) (σ : ax_S) (x1 : Int32) : ev sO (d + 5) 130 0 [.ref 0, .int x1] [] σ = (cI sO (d + 4) 84 [.ref 17, .int x1] σ).bind fun u0 => if u0.1 = 0 then (some (some (.long (-9000000000000000001 : Int64)), u0.2)) else ((cI sO (d + 4) 126 [.ref 17, .int x1] u0.2).bind fun u1 => some (some (.long u1.1.toInt64), u1.2)) := by
  refine (E_al c_130_0 rfl (by decide)).trans ?_
  refine (E_gfr (k := 2) (r := 7) c_130_1 sh_0 rfl rfl rfl).trans ?_
  refine (E_gfr (k := 1) (r := 17) c_130_4 sh_7 rfl rfl rfl).trans ?_
  refine (E_il c_130_7 rfl).trans ?_
  refine (E_cIV c_130_8 mi_84 rfl rfl (sO_kl sh_17) (Nat.le_of_ble_eq_true rfl) (Nat.le_of_ble_eq_true rfl)).trans (ax_bnd fun u0 => ?_)
  refine (E_b0_ne (q := 18) c_130_11 rfl).trans (ax_ite ?_ ?_)
  · refine (E_l2 (v := (-9000000000000000001 : Int64)) c_130_14 (by decide)).trans ?_
    exact E_rL c_130_17 mi_130
  · refine (E_al c_130_18 rfl (by decide)).trans ?_
    refine (E_gfr (k := 2) (r := 7) c_130_19 sh_0 rfl rfl rfl).trans ?_
    refine (E_gfr (k := 1) (r := 17) c_130_22 sh_7 rfl rfl rfl).trans ?_
    refine (E_il c_130_25 rfl).trans ?_
    refine (E_cIV c_130_26 mi_126 rfl rfl (sO_kl sh_17) (Nat.le_of_ble_eq_true rfl) (Nat.le_of_ble_eq_true rfl)).trans (ax_bnd fun u1 => ?_)
    refine (E_i2l c_130_29).trans ?_
    exact E_rL c_130_30 mi_130
set_option maxHeartbeats 4000000 in
theorem u_254_82 (d : Nat) (σ : ax_S) (x1 : Int32) : ev sO (d + 5) 254 0 [.ref 82, .int x1] [] σ = (cI sO (d + 4) 231 [.ref 82, .int x1] (sI σ 82 0 (0 : Int32))).bind fun u0 => if u0.1 = 0 then (some (some (.long (-9000000000000000001 : Int64)), u0.2)) else ((cV sO (d + 4) 252 [.ref 82, .int x1] u0.2).bind fun u1 => some (some (.long ((u1.1 82 23).toInt64)), u1)) := by
  refine (E_al c_254_0 rfl (by decide)).trans ?_
  refine (E_ic (v := (0 : Int32)) c_254_1 (by decide)).trans ?_
  refine (E_pfi (k := 0) c_254_2 sh_82 rfl rfl rfl).trans ?_
  refine (E_al c_254_5 rfl (by decide)).trans ?_
  refine (E_il c_254_6 rfl).trans ?_
  refine (E_cIV c_254_7 mi_231 rfl rfl (sO_kl sh_82) (Nat.le_of_ble_eq_true rfl) (Nat.le_of_ble_eq_true rfl)).trans (ax_bnd fun u0 => ?_)
  refine (E_b0_ne (q := 17) c_254_10 rfl).trans (ax_ite ?_ ?_)
  · refine (E_l2 (v := (-9000000000000000001 : Int64)) c_254_13 (by decide)).trans ?_
    exact E_rL c_254_16 mi_254
  · refine (E_al c_254_17 rfl (by decide)).trans ?_
    refine (E_il c_254_18 rfl).trans ?_
    refine (E_cVV c_254_19 mi_252 rfl (sO_kl sh_82) (Nat.le_of_ble_eq_true rfl) (Nat.le_of_ble_eq_true rfl)).trans (ax_bnd fun u1 => ?_)
    refine (E_al c_254_22 rfl (by decide)).trans ?_
    refine (E_gfi (k := 23) c_254_23 sh_82 rfl rfl rfl (by decide)).trans ?_
    refine (E_i2l c_254_26).trans ?_
    exact E_rL c_254_27 mi_254
set_option maxHeartbeats 4000000 in
theorem u_131_0 (d : Nat) (σ : ax_S) (x1 : Int32) (x2 : Int32) : ev sO (d + 4) 131 0 [.ref 0, .int x1, .int x2] [] σ = (cI sO (d + 3) 84 [.ref 17, .int x1] σ).bind fun u0 => if u0.1 = 0 then (some (some (.long (-9000000000000000001 : Int64)), u0.2)) else (if x2 < 0 then (some (some (.long (-9000000000000000001 : Int64)), u0.2)) else (if (2 : Int32) < x2 then (some (some (.long (-9000000000000000001 : Int64)), u0.2)) else ((cI sO (d + 3) 132 [.ref 17, .int x1, .int x2] u0.2).bind fun u1 => some (some (.long u1.1.toInt64), u1.2)))) := by
  refine (E_al c_131_0 rfl (by decide)).trans ?_
  refine (E_gfr (k := 2) (r := 7) c_131_1 sh_0 rfl rfl rfl).trans ?_
  refine (E_gfr (k := 1) (r := 17) c_131_4 sh_7 rfl rfl rfl).trans ?_
  refine (E_il c_131_7 rfl).trans ?_
  refine (E_cIV c_131_8 mi_84 rfl rfl (sO_kl sh_17) (Nat.le_of_ble_eq_true rfl) (Nat.le_of_ble_eq_true rfl)).trans (ax_bnd fun u0 => ?_)
  refine (E_b0_eq (q := 23) c_131_11 rfl).trans (ax_ite ?_ ?_)
  · refine (E_l2 (v := (-9000000000000000001 : Int64)) c_131_23 (by decide)).trans ?_
    exact E_rL c_131_26 mi_131
  · refine (E_il c_131_14 rfl).trans ?_
    refine (E_b0_lt (q := 23) c_131_15 rfl).trans (ax_ite ?_ ?_)
    · refine (E_l2 (v := (-9000000000000000001 : Int64)) c_131_23 (by decide)).trans ?_
      exact E_rL c_131_26 mi_131
    · refine (E_il c_131_18 rfl).trans ?_
      refine (E_ic (v := (2 : Int32)) c_131_19 (by decide)).trans ?_
      refine (E_br_le (q := 27) c_131_20 rfl).trans (ax_ite ?_ ?_)
      · refine (E_l2 (v := (-9000000000000000001 : Int64)) c_131_23 (by decide)).trans ?_
        exact E_rL c_131_26 mi_131
      · refine (E_al c_131_27 rfl (by decide)).trans ?_
        refine (E_gfr (k := 2) (r := 7) c_131_28 sh_0 rfl rfl rfl).trans ?_
        refine (E_gfr (k := 1) (r := 17) c_131_31 sh_7 rfl rfl rfl).trans ?_
        refine (E_il c_131_34 rfl).trans ?_
        refine (E_il c_131_35 rfl).trans ?_
        refine (E_cIV c_131_36 mi_132 rfl rfl (sO_kl sh_17) (Nat.le_of_ble_eq_true rfl) (Nat.le_of_ble_eq_true rfl)).trans (ax_bnd fun u1 => ?_)
        refine (E_i2l c_131_39).trans ?_
        exact E_rL c_131_40 mi_131
set_option maxHeartbeats 4000000 in
theorem u_255_82 (d : Nat) (σ : ax_S) (x1 : Int32) (x2 : Int32) : ev sO (d + 3) 255 0 [.ref 82, .int x1, .int x2, .null, .null, .null, .null, .null, .null, .null] [] σ = (cI sO (d + 2) 231 [.ref 82, .int x1] (sI σ 82 0 (0 : Int32))).bind fun u0 => if u0.1 = 0 then (some (some (.long (-9000000000000000001 : Int64)), u0.2)) else ((cI sO (d + 2) 198 [.long x2.toInt64, .long (0 : Int64), .long (2 : Int64)] u0.2).bind fun u1 => if u1.1 = 0 then (some (some (.long (-9000000000000000001 : Int64)), u1.2)) else (ev sO (d + 3) 255 43 [.ref 82, .int x1, .int x2, .int (-1000000 : Int32), .int (-1000000 : Int32), .int (-1000000 : Int32), .int (0 : Int32), .null, .null, .null] [] u1.2)) := by
  refine (E_al c_255_0 rfl (by decide)).trans ?_
  refine (E_ic (v := (0 : Int32)) c_255_1 (by decide)).trans ?_
  refine (E_pfi (k := 0) c_255_2 sh_82 rfl rfl rfl).trans ?_
  refine (E_al c_255_5 rfl (by decide)).trans ?_
  refine (E_il c_255_6 rfl).trans ?_
  refine (E_cIV c_255_7 mi_231 rfl rfl (sO_kl sh_82) (Nat.le_of_ble_eq_true rfl) (Nat.le_of_ble_eq_true rfl)).trans (ax_bnd fun u0 => ?_)
  refine (E_b0_eq (q := 25) c_255_10 rfl).trans (ax_ite ?_ ?_)
  · refine (E_l2 (v := (-9000000000000000001 : Int64)) c_255_25 (by decide)).trans ?_
    exact E_rL c_255_28 mi_255
  · refine (E_il c_255_13 rfl).trans ?_
    refine (E_i2l c_255_14).trans ?_
    refine (E_lc (v := (0 : Int64)) c_255_15 (by decide)).trans ?_
    refine (E_l2 (v := (2 : Int64)) c_255_16 (by decide)).trans ?_
    refine (E_cIS c_255_19 mi_198 rfl rfl (Nat.le_of_ble_eq_true rfl) (Nat.le_of_ble_eq_true rfl)).trans (ax_bnd fun u1 => ?_)
    refine (E_b0_ne (q := 29) c_255_22 rfl).trans (ax_ite ?_ ?_)
    · refine (E_l2 (v := (-9000000000000000001 : Int64)) c_255_25 (by decide)).trans ?_
      exact E_rL c_255_28 mi_255
    · refine (E_ic (v := (-1000000 : Int32)) c_255_29 (by decide)).trans ?_
      refine (E_is (L' := [.ref 82, .int x1, .int x2, .int (-1000000 : Int32), .null, .null, .null, .null, .null, .null]) c_255_31 (Nat.le_of_ble_eq_true rfl) rfl).trans ?_
      refine (E_ic (v := (-1000000 : Int32)) c_255_32 (by decide)).trans ?_
      refine (E_is (L' := [.ref 82, .int x1, .int x2, .int (-1000000 : Int32), .int (-1000000 : Int32), .null, .null, .null, .null, .null]) c_255_34 (Nat.le_of_ble_eq_true rfl) rfl).trans ?_
      refine (E_ic (v := (-1000000 : Int32)) c_255_36 (by decide)).trans ?_
      refine (E_is (L' := [.ref 82, .int x1, .int x2, .int (-1000000 : Int32), .int (-1000000 : Int32), .int (-1000000 : Int32), .null, .null, .null, .null]) c_255_38 (Nat.le_of_ble_eq_true rfl) rfl).trans ?_
      refine (E_ic (v := (0 : Int32)) c_255_40 (by decide)).trans ?_
      refine (E_is (L' := [.ref 82, .int x1, .int x2, .int (-1000000 : Int32), .int (-1000000 : Int32), .int (-1000000 : Int32), .int (0 : Int32), .null, .null, .null]) c_255_41 (Nat.le_of_ble_eq_true rfl) rfl).trans ?_
      rfl
set_option maxHeartbeats 4000000 in
theorem u_255_82p43 (d : Nat) (σ : ax_S) (x1 : Int32) (x2 : Int32) (x3 : Int32) (x4 : Int32) (x5 : Int32) (x6 : Int32) (w7 : Value) (hw7 : w7.category = 1) (w8 : Value) (hw8 : w8.category = 1) (w9 : Value) (hw9 : w9.category = 1) : ev sO (d + 3) 255 43 [.ref 82, .int x1, .int x2, .int x3, .int x4, .int x5, .int x6, w7, w8, w9] [] σ = if x6 < (σ.1 88 0) then (ev sO (d + 3) 255 60 [.ref 82, .int x1, .int x2, .int x3, .int x4, .int x5, .int x6, .int (x6 + (1 : Int32)), w8, w9] [] σ) else (if x2 = 0 then (some (some (.long x3.toInt64), σ)) else (if x2 = (1 : Int32) then (some (some (.long x4.toInt64), σ)) else (some (some (.long x5.toInt64), σ)))) := by
  refine (E_il c_255_43 rfl).trans ?_
  refine (E_al c_255_45 rfl (by decide)).trans ?_
  refine (E_gfr (k := 8) (r := 88) c_255_46 sh_82 rfl rfl rfl).trans ?_
  refine (E_ic (v := (0 : Int32)) c_255_49 (by decide)).trans ?_
  refine (E_ialk (k := 0) c_255_50 sh_88 (by decide) (by decide)).trans ?_
  refine (E_br_ge (q := 189) c_255_51 rfl).trans (ax_ite ?_ ?_)
  · refine (E_il c_255_54 rfl).trans ?_
    refine (E_ic (v := (1 : Int32)) c_255_56 (by decide)).trans ?_
    refine (E_iadd c_255_57).trans ?_
    refine (E_is (L' := [.ref 82, .int x1, .int x2, .int x3, .int x4, .int x5, .int x6, .int (x6 + (1 : Int32)), w8, w9]) c_255_58 (Nat.le_of_ble_eq_true rfl) rfl).trans ?_
    rfl
  · refine (E_il c_255_189 rfl).trans ?_
    refine (E_b0_ne (q := 198) c_255_190 rfl).trans (ax_ite ?_ ?_)
    · refine (E_il c_255_193 rfl).trans ?_
      refine (E_i2l c_255_194).trans ?_
      refine (E_goto (q := 212) c_255_195 rfl).trans ?_
      exact E_rL c_255_212 mi_255
    · refine (E_il c_255_198 rfl).trans ?_
      refine (E_ic (v := (1 : Int32)) c_255_199 (by decide)).trans ?_
      refine (E_br_ne (q := 209) c_255_200 rfl).trans (ax_ite ?_ ?_)
      · refine (E_il c_255_203 rfl).trans ?_
        refine (E_i2l c_255_205).trans ?_
        refine (E_goto (q := 212) c_255_206 rfl).trans ?_
        exact E_rL c_255_212 mi_255
      · refine (E_il c_255_209 rfl).trans ?_
        refine (E_i2l c_255_211).trans ?_
        exact E_rL c_255_212 mi_255
set_option maxHeartbeats 4000000 in
theorem u_255_82p60 (d : Nat) (σ : ax_S) (x1 : Int32) (x2 : Int32) (x3 : Int32) (x4 : Int32) (x5 : Int32) (x6 : Int32) (x7 : Int32) (w8 : Value) (hw8 : w8.category = 1) (w9 : Value) (hw9 : w9.category = 1) : ev sO (d + 3) 255 60 [.ref 82, .int x1, .int x2, .int x3, .int x4, .int x5, .int x6, .int x7, w8, w9] [] σ = if x7 < (σ.1 88 0) then ((cI sO (d + 2) 253 [.ref 82, .int x6, .int x1] σ).bind fun u0 => if u0.1 = 0 then (ev sO (d + 3) 255 60 [.ref 82, .int x1, .int x2, .int x3, .int x4, .int x5, .int x6, .int (x7 + (1 : Int32)), w8, w9] [] u0.2) else ((cI sO (d + 2) 253 [.ref 82, .int x7, .int x1] u0.2).bind fun u1 => if u1.1 = 0 then (ev sO (d + 3) 255 60 [.ref 82, .int x1, .int x2, .int x3, .int x4, .int x5, .int x6, .int (x7 + (1 : Int32)), w8, w9] [] u1.2) else (ev sO (d + 3) 255 97 [.ref 82, .int x1, .int x2, .int x3, .int x4, .int x5, .int x6, .int x7, .int (1 : Int32), .int (0 : Int32)] [] u1.2))) else (ev sO (d + 3) 255 43 [.ref 82, .int x1, .int x2, .int x3, .int x4, .int x5, .int (x6 + (1 : Int32)), .int x7, w8, w9] [] σ) := by
  refine (E_il c_255_60 rfl).trans ?_
  refine (E_al c_255_62 rfl (by decide)).trans ?_
  refine (E_gfr (k := 8) (r := 88) c_255_63 sh_82 rfl rfl rfl).trans ?_
  refine (E_ic (v := (0 : Int32)) c_255_66 (by decide)).trans ?_
  refine (E_ialk (k := 0) c_255_67 sh_88 (by decide) (by decide)).trans ?_
  refine (E_br_ge (q := 183) c_255_68 rfl).trans (ax_ite ?_ ?_)
  · refine (E_al c_255_71 rfl (by decide)).trans ?_
    refine (E_il c_255_72 rfl).trans ?_
    refine (E_il c_255_74 rfl).trans ?_
    refine (E_cIV c_255_75 mi_253 rfl rfl (sO_kl sh_82) (Nat.le_of_ble_eq_true rfl) (Nat.le_of_ble_eq_true rfl)).trans (ax_bnd fun u0 => ?_)
    refine (E_b0_eq (q := 177) c_255_78 rfl).trans (ax_ite ?_ ?_)
    · refine (E_inc (v := (1 : Int32)) (L' := [.ref 82, .int x1, .int x2, .int x3, .int x4, .int x5, .int x6, .int (x7 + (1 : Int32)), w8, w9]) c_255_177 rfl (by decide) rfl).trans ?_
      refine (E_goto (q := 60) c_255_180 rfl).trans ?_
      rfl
    · refine (E_al c_255_81 rfl (by decide)).trans ?_
      refine (E_il c_255_82 rfl).trans ?_
      refine (E_il c_255_84 rfl).trans ?_
      refine (E_cIV c_255_85 mi_253 rfl rfl (sO_kl sh_82) (Nat.le_of_ble_eq_true rfl) (Nat.le_of_ble_eq_true rfl)).trans (ax_bnd fun u1 => ?_)
      refine (E_b0_eq (q := 177) c_255_88 rfl).trans (ax_ite ?_ ?_)
      · refine (E_inc (v := (1 : Int32)) (L' := [.ref 82, .int x1, .int x2, .int x3, .int x4, .int x5, .int x6, .int (x7 + (1 : Int32)), w8, w9]) c_255_177 rfl (by decide) rfl).trans ?_
        refine (E_goto (q := 60) c_255_180 rfl).trans ?_
        rfl
      · refine (E_ic (v := (1 : Int32)) c_255_91 (by decide)).trans ?_
        refine (E_is (L' := [.ref 82, .int x1, .int x2, .int x3, .int x4, .int x5, .int x6, .int x7, .int (1 : Int32), w9]) c_255_92 (Nat.le_of_ble_eq_true rfl) rfl).trans ?_
        refine (E_ic (v := (0 : Int32)) c_255_94 (by decide)).trans ?_
        refine (E_is (L' := [.ref 82, .int x1, .int x2, .int x3, .int x4, .int x5, .int x6, .int x7, .int (1 : Int32), .int (0 : Int32)]) c_255_95 (Nat.le_of_ble_eq_true rfl) rfl).trans ?_
        rfl
  · refine (E_inc (v := (1 : Int32)) (L' := [.ref 82, .int x1, .int x2, .int x3, .int x4, .int x5, .int (x6 + (1 : Int32)), .int x7, w8, w9]) c_255_183 rfl (by decide) rfl).trans ?_
    refine (E_goto (q := 43) c_255_186 rfl).trans ?_
    rfl
set_option maxHeartbeats 4000000 in
theorem u_255_82p97 (d : Nat) (σ : ax_S) (x1 : Int32) (x2 : Int32) (x3 : Int32) (x4 : Int32) (x5 : Int32) (x6 : Int32) (x7 : Int32) (x8 : Int32) (x9 : Int32) : ev sO (d + 3) 255 97 [.ref 82, .int x1, .int x2, .int x3, .int x4, .int x5, .int x6, .int x7, .int x8, .int x9] [] σ = if x9 < (11 : Int32) then ((cI sO (d + 2) 234 [.ref 82, .int x1, .int x9] σ).bind fun u0 => if u0.1 = 0 then (ev sO (d + 3) 255 97 [.ref 82, .int x1, .int x2, .int x3, .int x4, .int x5, .int x6, .int x7, .int (x8 + (0 : Int32)), .int (x9 + (1 : Int32))] [] u0.2) else ((cI sO (d + 2) 256 [.ref 82, .int x6, .int x1, .int x9] u0.2).bind fun u1 => if u1.1 = 0 then ((cI sO (d + 2) 256 [.ref 82, .int x7, .int x1, .int x9] u1.2).bind fun u2 => if u2.1 = 0 then (ev sO (d + 3) 255 97 [.ref 82, .int x1, .int x2, .int x3, .int x4, .int x5, .int x6, .int x7, .int (x8 + (1 : Int32)), .int (x9 + (1 : Int32))] [] u2.2) else (ev sO (d + 3) 255 97 [.ref 82, .int x1, .int x2, .int x3, .int x4, .int x5, .int x6, .int x7, .int (x8 + (0 : Int32)), .int (x9 + (1 : Int32))] [] u2.2)) else (ev sO (d + 3) 255 97 [.ref 82, .int x1, .int x2, .int x3, .int x4, .int x5, .int x6, .int x7, .int (x8 + (0 : Int32)), .int (x9 + (1 : Int32))] [] u1.2))) else (if x3 = (-1000000 : Int32) then (ev sO (d + 3) 255 60 [.ref 82, .int x1, .int x2, .int x8, .int x6, .int x7, .int x6, .int (x7 + (1 : Int32)), .int x8, .int x9] [] σ) else (if x8 < x3 then (ev sO (d + 3) 255 60 [.ref 82, .int x1, .int x2, .int x8, .int x6, .int x7, .int x6, .int (x7 + (1 : Int32)), .int x8, .int x9] [] σ) else (ev sO (d + 3) 255 60 [.ref 82, .int x1, .int x2, .int x3, .int x4, .int x5, .int x6, .int (x7 + (1 : Int32)), .int x8, .int x9] [] σ))) := by
  refine (E_il c_255_97 rfl).trans ?_
  refine (E_ic (v := (11 : Int32)) c_255_99 (by decide)).trans ?_
  refine (E_br_ge (q := 154) c_255_101 rfl).trans (ax_ite ?_ ?_)
  · refine (E_il c_255_104 rfl).trans ?_
    refine (E_al c_255_106 rfl (by decide)).trans ?_
    refine (E_il c_255_107 rfl).trans ?_
    refine (E_il c_255_108 rfl).trans ?_
    refine (E_cIV c_255_110 mi_234 rfl rfl (sO_kl sh_82) (Nat.le_of_ble_eq_true rfl) (Nat.le_of_ble_eq_true rfl)).trans (ax_bnd fun u0 => ?_)
    refine (E_b0_eq (q := 144) c_255_113 rfl).trans (ax_ite ?_ ?_)
    · refine (E_ic (v := (0 : Int32)) c_255_144 (by decide)).trans ?_
      refine (E_iadd c_255_145).trans ?_
      refine (E_is (L' := [.ref 82, .int x1, .int x2, .int x3, .int x4, .int x5, .int x6, .int x7, .int (x8 + (0 : Int32)), .int x9]) c_255_146 (Nat.le_of_ble_eq_true rfl) rfl).trans ?_
      refine (E_inc (v := (1 : Int32)) (L' := [.ref 82, .int x1, .int x2, .int x3, .int x4, .int x5, .int x6, .int x7, .int (x8 + (0 : Int32)), .int (x9 + (1 : Int32))]) c_255_148 rfl (by decide) rfl).trans ?_
      refine (E_goto (q := 97) c_255_151 rfl).trans ?_
      rfl
    · refine (E_al c_255_116 rfl (by decide)).trans ?_
      refine (E_il c_255_117 rfl).trans ?_
      refine (E_il c_255_119 rfl).trans ?_
      refine (E_il c_255_120 rfl).trans ?_
      refine (E_cIV c_255_122 mi_256 rfl rfl (sO_kl sh_82) (Nat.le_of_ble_eq_true rfl) (Nat.le_of_ble_eq_true rfl)).trans (ax_bnd fun u1 => ?_)
      refine (E_b0_ne (q := 144) c_255_125 rfl).trans (ax_ite ?_ ?_)
      · refine (E_al c_255_128 rfl (by decide)).trans ?_
        refine (E_il c_255_129 rfl).trans ?_
        refine (E_il c_255_131 rfl).trans ?_
        refine (E_il c_255_132 rfl).trans ?_
        refine (E_cIV c_255_134 mi_256 rfl rfl (sO_kl sh_82) (Nat.le_of_ble_eq_true rfl) (Nat.le_of_ble_eq_true rfl)).trans (ax_bnd fun u2 => ?_)
        refine (E_b0_ne (q := 144) c_255_137 rfl).trans (ax_ite ?_ ?_)
        · refine (E_ic (v := (1 : Int32)) c_255_140 (by decide)).trans ?_
          refine (E_goto (q := 145) c_255_141 rfl).trans ?_
          refine (E_iadd c_255_145).trans ?_
          refine (E_is (L' := [.ref 82, .int x1, .int x2, .int x3, .int x4, .int x5, .int x6, .int x7, .int (x8 + (1 : Int32)), .int x9]) c_255_146 (Nat.le_of_ble_eq_true rfl) rfl).trans ?_
          refine (E_inc (v := (1 : Int32)) (L' := [.ref 82, .int x1, .int x2, .int x3, .int x4, .int x5, .int x6, .int x7, .int (x8 + (1 : Int32)), .int (x9 + (1 : Int32))]) c_255_148 rfl (by decide) rfl).trans ?_
          refine (E_goto (q := 97) c_255_151 rfl).trans ?_
          rfl
        · refine (E_ic (v := (0 : Int32)) c_255_144 (by decide)).trans ?_
          refine (E_iadd c_255_145).trans ?_
          refine (E_is (L' := [.ref 82, .int x1, .int x2, .int x3, .int x4, .int x5, .int x6, .int x7, .int (x8 + (0 : Int32)), .int x9]) c_255_146 (Nat.le_of_ble_eq_true rfl) rfl).trans ?_
          refine (E_inc (v := (1 : Int32)) (L' := [.ref 82, .int x1, .int x2, .int x3, .int x4, .int x5, .int x6, .int x7, .int (x8 + (0 : Int32)), .int (x9 + (1 : Int32))]) c_255_148 rfl (by decide) rfl).trans ?_
          refine (E_goto (q := 97) c_255_151 rfl).trans ?_
          rfl
      · refine (E_ic (v := (0 : Int32)) c_255_144 (by decide)).trans ?_
        refine (E_iadd c_255_145).trans ?_
        refine (E_is (L' := [.ref 82, .int x1, .int x2, .int x3, .int x4, .int x5, .int x6, .int x7, .int (x8 + (0 : Int32)), .int x9]) c_255_146 (Nat.le_of_ble_eq_true rfl) rfl).trans ?_
        refine (E_inc (v := (1 : Int32)) (L' := [.ref 82, .int x1, .int x2, .int x3, .int x4, .int x5, .int x6, .int x7, .int (x8 + (0 : Int32)), .int (x9 + (1 : Int32))]) c_255_148 rfl (by decide) rfl).trans ?_
        refine (E_goto (q := 97) c_255_151 rfl).trans ?_
        rfl
  · refine (E_il c_255_154 rfl).trans ?_
    refine (E_ic (v := (-1000000 : Int32)) c_255_155 (by decide)).trans ?_
    refine (E_br_eq (q := 166) c_255_157 rfl).trans (ax_ite ?_ ?_)
    · refine (E_il c_255_166 rfl).trans ?_
      refine (E_is (L' := [.ref 82, .int x1, .int x2, .int x8, .int x4, .int x5, .int x6, .int x7, .int x8, .int x9]) c_255_168 (Nat.le_of_ble_eq_true rfl) rfl).trans ?_
      refine (E_il c_255_169 rfl).trans ?_
      refine (E_is (L' := [.ref 82, .int x1, .int x2, .int x8, .int x6, .int x5, .int x6, .int x7, .int x8, .int x9]) c_255_171 (Nat.le_of_ble_eq_true rfl) rfl).trans ?_
      refine (E_il c_255_173 rfl).trans ?_
      refine (E_is (L' := [.ref 82, .int x1, .int x2, .int x8, .int x6, .int x7, .int x6, .int x7, .int x8, .int x9]) c_255_175 (Nat.le_of_ble_eq_true rfl) rfl).trans ?_
      refine (E_inc (v := (1 : Int32)) (L' := [.ref 82, .int x1, .int x2, .int x8, .int x6, .int x7, .int x6, .int (x7 + (1 : Int32)), .int x8, .int x9]) c_255_177 rfl (by decide) rfl).trans ?_
      refine (E_goto (q := 60) c_255_180 rfl).trans ?_
      rfl
    · refine (E_il c_255_160 rfl).trans ?_
      refine (E_il c_255_162 rfl).trans ?_
      refine (E_br_ge (q := 177) c_255_163 rfl).trans (ax_ite ?_ ?_)
      · refine (E_il c_255_166 rfl).trans ?_
        refine (E_is (L' := [.ref 82, .int x1, .int x2, .int x8, .int x4, .int x5, .int x6, .int x7, .int x8, .int x9]) c_255_168 (Nat.le_of_ble_eq_true rfl) rfl).trans ?_
        refine (E_il c_255_169 rfl).trans ?_
        refine (E_is (L' := [.ref 82, .int x1, .int x2, .int x8, .int x6, .int x5, .int x6, .int x7, .int x8, .int x9]) c_255_171 (Nat.le_of_ble_eq_true rfl) rfl).trans ?_
        refine (E_il c_255_173 rfl).trans ?_
        refine (E_is (L' := [.ref 82, .int x1, .int x2, .int x8, .int x6, .int x7, .int x6, .int x7, .int x8, .int x9]) c_255_175 (Nat.le_of_ble_eq_true rfl) rfl).trans ?_
        refine (E_inc (v := (1 : Int32)) (L' := [.ref 82, .int x1, .int x2, .int x8, .int x6, .int x7, .int x6, .int (x7 + (1 : Int32)), .int x8, .int x9]) c_255_177 rfl (by decide) rfl).trans ?_
        refine (E_goto (q := 60) c_255_180 rfl).trans ?_
        rfl
      · refine (E_inc (v := (1 : Int32)) (L' := [.ref 82, .int x1, .int x2, .int x3, .int x4, .int x5, .int x6, .int (x7 + (1 : Int32)), .int x8, .int x9]) c_255_177 rfl (by decide) rfl).trans ?_
        refine (E_goto (q := 60) c_255_180 rfl).trans ?_
        rfl
set_option maxHeartbeats 4000000 in
theorem u_134_0 (d : Nat) (σ : ax_S) (x1 : Int32) (x2 : Int32) : ev sO (d + 4) 134 0 [.ref 0, .int x1, .int x2] [] σ = (cI sO (d + 3) 135 [.ref 0, .int x1] σ).bind fun u0 => if u0.1 = 0 then (some (some (.long (-9000000000000000001 : Int64)), u0.2)) else (if x2 < 0 then (some (some (.long (-9000000000000000001 : Int64)), u0.2)) else (if (2 : Int32) < x2 then (some (some (.long (-9000000000000000001 : Int64)), u0.2)) else ((cV sO (d + 3) 136 [.ref 66, .ref 17, .int x1] u0.2).bind fun u1 => if x2 = 0 then ((cI sO (d + 3) 150 [.ref 66] u1).bind fun u2 => some (some (.long u2.1.toInt64), u2.2)) else (if x2 = (1 : Int32) then ((cI sO (d + 3) 151 [.ref 66] u1).bind fun u3 => some (some (.long u3.1.toInt64), u3.2)) else ((cI sO (d + 3) 152 [.ref 66] u1).bind fun u4 => some (some (.long u4.1.toInt64), u4.2)))))) := by
  refine (E_al c_134_0 rfl (by decide)).trans ?_
  refine (E_il c_134_1 rfl).trans ?_
  refine (E_cIV c_134_2 mi_135 rfl rfl (sO_kl sh_0) (Nat.le_of_ble_eq_true rfl) (Nat.le_of_ble_eq_true rfl)).trans (ax_bnd fun u0 => ?_)
  refine (E_b0_eq (q := 17) c_134_5 rfl).trans (ax_ite ?_ ?_)
  · refine (E_l2 (v := (-9000000000000000001 : Int64)) c_134_17 (by decide)).trans ?_
    exact E_rL c_134_20 mi_134
  · refine (E_il c_134_8 rfl).trans ?_
    refine (E_b0_lt (q := 17) c_134_9 rfl).trans (ax_ite ?_ ?_)
    · refine (E_l2 (v := (-9000000000000000001 : Int64)) c_134_17 (by decide)).trans ?_
      exact E_rL c_134_20 mi_134
    · refine (E_il c_134_12 rfl).trans ?_
      refine (E_ic (v := (2 : Int32)) c_134_13 (by decide)).trans ?_
      refine (E_br_le (q := 21) c_134_14 rfl).trans (ax_ite ?_ ?_)
      · refine (E_l2 (v := (-9000000000000000001 : Int64)) c_134_17 (by decide)).trans ?_
        exact E_rL c_134_20 mi_134
      · refine (E_al c_134_21 rfl (by decide)).trans ?_
        refine (E_gfr (k := 8) (r := 66) c_134_22 sh_0 rfl rfl rfl).trans ?_
        refine (E_al c_134_25 rfl (by decide)).trans ?_
        refine (E_gfr (k := 2) (r := 7) c_134_26 sh_0 rfl rfl rfl).trans ?_
        refine (E_gfr (k := 1) (r := 17) c_134_29 sh_7 rfl rfl rfl).trans ?_
        refine (E_il c_134_32 rfl).trans ?_
        refine (E_cVV c_134_33 mi_136 rfl (sO_kl sh_66) (Nat.le_of_ble_eq_true rfl) (Nat.le_of_ble_eq_true rfl)).trans (ax_bnd fun u1 => ?_)
        refine (E_il c_134_36 rfl).trans ?_
        refine (E_b0_ne (q := 49) c_134_37 rfl).trans (ax_ite ?_ ?_)
        · refine (E_al c_134_40 rfl (by decide)).trans ?_
          refine (E_gfr (k := 8) (r := 66) c_134_41 sh_0 rfl rfl rfl).trans ?_
          refine (E_cIV c_134_44 mi_150 rfl rfl (sO_kl sh_66) (Nat.le_of_ble_eq_true rfl) (Nat.le_of_ble_eq_true rfl)).trans (ax_bnd fun u2 => ?_)
          refine (E_i2l c_134_47).trans ?_
          exact E_rL c_134_48 mi_134
        · refine (E_il c_134_49 rfl).trans ?_
          refine (E_ic (v := (1 : Int32)) c_134_50 (by decide)).trans ?_
          refine (E_br_ne (q := 65) c_134_51 rfl).trans (ax_ite ?_ ?_)
          · refine (E_al c_134_54 rfl (by decide)).trans ?_
            refine (E_gfr (k := 8) (r := 66) c_134_55 sh_0 rfl rfl rfl).trans ?_
            refine (E_cIV c_134_58 mi_151 rfl rfl (sO_kl sh_66) (Nat.le_of_ble_eq_true rfl) (Nat.le_of_ble_eq_true rfl)).trans (ax_bnd fun u3 => ?_)
            refine (E_i2l c_134_61).trans ?_
            refine (E_goto (q := 73) c_134_62 rfl).trans ?_
            exact E_rL c_134_73 mi_134
          · refine (E_al c_134_65 rfl (by decide)).trans ?_
            refine (E_gfr (k := 8) (r := 66) c_134_66 sh_0 rfl rfl rfl).trans ?_
            refine (E_cIV c_134_69 mi_152 rfl rfl (sO_kl sh_66) (Nat.le_of_ble_eq_true rfl) (Nat.le_of_ble_eq_true rfl)).trans (ax_bnd fun u4 => ?_)
            refine (E_i2l c_134_72).trans ?_
            exact E_rL c_134_73 mi_134
set_option maxHeartbeats 4000000 in
theorem u_257_82 (d : Nat) (σ : ax_S) (x1 : Int32) (x2 : Int32) : ev sO (d + 6) 257 0 [.ref 82, .int x1, .int x2] [] σ = (cI sO (d + 5) 258 [.ref 82, .int x1] (sI σ 82 0 (0 : Int32))).bind fun u0 => if u0.1 = 0 then (some (some (.long (-9000000000000000001 : Int64)), u0.2)) else ((cI sO (d + 5) 198 [.long x2.toInt64, .long (0 : Int64), .long (2 : Int64)] u0.2).bind fun u1 => if u1.1 = 0 then (some (some (.long (-9000000000000000001 : Int64)), u1.2)) else (if x2 = (2 : Int32) then ((cI sO (d + 5) 259 [.ref 82] u1.2).bind fun u2 => some (some (.long u2.1.toInt64), u2.2)) else ((cV sO (d + 5) 260 [.ref 82] u1.2).bind fun u3 => if x2 = 0 then (some (some (.long ((u3.1 82 34).toInt64)), u3)) else (some (some (.long ((u3.1 82 35).toInt64)), u3))))) := by
  refine (E_al c_257_0 rfl (by decide)).trans ?_
  refine (E_ic (v := (0 : Int32)) c_257_1 (by decide)).trans ?_
  refine (E_pfi (k := 0) c_257_2 sh_82 rfl rfl rfl).trans ?_
  refine (E_al c_257_5 rfl (by decide)).trans ?_
  refine (E_il c_257_6 rfl).trans ?_
  refine (E_cIV c_257_7 mi_258 rfl rfl (sO_kl sh_82) (Nat.le_of_ble_eq_true rfl) (Nat.le_of_ble_eq_true rfl)).trans (ax_bnd fun u0 => ?_)
  refine (E_b0_eq (q := 25) c_257_10 rfl).trans (ax_ite ?_ ?_)
  · refine (E_l2 (v := (-9000000000000000001 : Int64)) c_257_25 (by decide)).trans ?_
    exact E_rL c_257_28 mi_257
  · refine (E_il c_257_13 rfl).trans ?_
    refine (E_i2l c_257_14).trans ?_
    refine (E_lc (v := (0 : Int64)) c_257_15 (by decide)).trans ?_
    refine (E_l2 (v := (2 : Int64)) c_257_16 (by decide)).trans ?_
    refine (E_cIS c_257_19 mi_198 rfl rfl (Nat.le_of_ble_eq_true rfl) (Nat.le_of_ble_eq_true rfl)).trans (ax_bnd fun u1 => ?_)
    refine (E_b0_ne (q := 29) c_257_22 rfl).trans (ax_ite ?_ ?_)
    · refine (E_l2 (v := (-9000000000000000001 : Int64)) c_257_25 (by decide)).trans ?_
      exact E_rL c_257_28 mi_257
    · refine (E_il c_257_29 rfl).trans ?_
      refine (E_ic (v := (2 : Int32)) c_257_30 (by decide)).trans ?_
      refine (E_br_ne (q := 40) c_257_31 rfl).trans (ax_ite ?_ ?_)
      · refine (E_al c_257_34 rfl (by decide)).trans ?_
        refine (E_cIV c_257_35 mi_259 rfl rfl (sO_kl sh_82) (Nat.le_of_ble_eq_true rfl) (Nat.le_of_ble_eq_true rfl)).trans (ax_bnd fun u2 => ?_)
        refine (E_i2l c_257_38).trans ?_
        exact E_rL c_257_39 mi_257
      · refine (E_al c_257_40 rfl (by decide)).trans ?_
        refine (E_cVV c_257_41 mi_260 rfl (sO_kl sh_82) (Nat.le_of_ble_eq_true rfl) (Nat.le_of_ble_eq_true rfl)).trans (ax_bnd fun u3 => ?_)
        refine (E_il c_257_44 rfl).trans ?_
        refine (E_b0_ne (q := 56) c_257_45 rfl).trans (ax_ite ?_ ?_)
        · refine (E_al c_257_48 rfl (by decide)).trans ?_
          refine (E_gfi (k := 34) c_257_49 sh_82 rfl rfl rfl (by decide)).trans ?_
          refine (E_i2l c_257_52).trans ?_
          refine (E_goto (q := 61) c_257_53 rfl).trans ?_
          exact E_rL c_257_61 mi_257
        · refine (E_al c_257_56 rfl (by decide)).trans ?_
          refine (E_gfi (k := 35) c_257_57 sh_82 rfl rfl rfl (by decide)).trans ?_
          refine (E_i2l c_257_60).trans ?_
          exact E_rL c_257_61 mi_257
set_option maxHeartbeats 4000000 in
theorem u_153_0 (d : Nat) (σ : ax_S) (x1 : Int32) (x2 : Int32) : ev sO (d + 4) 153 0 [.ref 0, .int x1, .int x2] [] σ = (cI sO (d + 3) 135 [.ref 0, .int x1] σ).bind fun u0 => if u0.1 = 0 then (some (some (.long (-9000000000000000001 : Int64)), u0.2)) else (if x2 < (-1 : Int32) then (some (some (.long (-9000000000000000001 : Int64)), u0.2)) else ((cV sO (d + 3) 136 [.ref 66, .ref 17, .int x1] u0.2).bind fun u1 => (cL sO (d + 3) 154 [.ref 66, .int x2] u1).bind fun u2 => some (some (.long u2.1), u2.2))) := by
  refine (E_al c_153_0 rfl (by decide)).trans ?_
  refine (E_il c_153_1 rfl).trans ?_
  refine (E_cIV c_153_2 mi_135 rfl rfl (sO_kl sh_0) (Nat.le_of_ble_eq_true rfl) (Nat.le_of_ble_eq_true rfl)).trans (ax_bnd fun u0 => ?_)
  refine (E_b0_eq (q := 13) c_153_5 rfl).trans (ax_ite ?_ ?_)
  · refine (E_l2 (v := (-9000000000000000001 : Int64)) c_153_13 (by decide)).trans ?_
    exact E_rL c_153_16 mi_153
  · refine (E_il c_153_8 rfl).trans ?_
    refine (E_ic (v := (-1 : Int32)) c_153_9 (by decide)).trans ?_
    refine (E_br_ge (q := 17) c_153_10 rfl).trans (ax_ite ?_ ?_)
    · refine (E_l2 (v := (-9000000000000000001 : Int64)) c_153_13 (by decide)).trans ?_
      exact E_rL c_153_16 mi_153
    · refine (E_al c_153_17 rfl (by decide)).trans ?_
      refine (E_gfr (k := 8) (r := 66) c_153_18 sh_0 rfl rfl rfl).trans ?_
      refine (E_al c_153_21 rfl (by decide)).trans ?_
      refine (E_gfr (k := 2) (r := 7) c_153_22 sh_0 rfl rfl rfl).trans ?_
      refine (E_gfr (k := 1) (r := 17) c_153_25 sh_7 rfl rfl rfl).trans ?_
      refine (E_il c_153_28 rfl).trans ?_
      refine (E_cVV c_153_29 mi_136 rfl (sO_kl sh_66) (Nat.le_of_ble_eq_true rfl) (Nat.le_of_ble_eq_true rfl)).trans (ax_bnd fun u1 => ?_)
      refine (E_al c_153_32 rfl (by decide)).trans ?_
      refine (E_gfr (k := 8) (r := 66) c_153_33 sh_0 rfl rfl rfl).trans ?_
      refine (E_il c_153_36 rfl).trans ?_
      refine (E_cLV c_153_37 mi_154 rfl (sO_kl sh_66) (Nat.le_of_ble_eq_true rfl) (Nat.le_of_ble_eq_true rfl)).trans (ax_bnd fun u2 => ?_)
      exact E_rL c_153_40 mi_153
set_option maxHeartbeats 4000000 in
theorem u_266_82 (d : Nat) (σ : ax_S) (x1 : Int32) (x2 : Int32) : ev sO (d + 6) 266 0 [.ref 82, .int x1, .int x2, .null, .null, .null] [] σ = (cI sO (d + 5) 258 [.ref 82, .int x1] (sI σ 82 0 (0 : Int32))).bind fun u0 => if u0.1 = 0 then (some (some (.long (-9000000000000000001 : Int64)), u0.2)) else (if x2 < (-1 : Int32) then (some (some (.long (-9000000000000000001 : Int64)), u0.2)) else ((cV sO (d + 5) 260 [.ref 82] u0.2).bind fun u1 => ev sO (d + 6) 266 28 [.ref 82, .int x1, .int x2, .int (0 : Int32), .null, .null] [] u1)) := by
  refine (E_al c_266_0 rfl (by decide)).trans ?_
  refine (E_ic (v := (0 : Int32)) c_266_1 (by decide)).trans ?_
  refine (E_pfi (k := 0) c_266_2 sh_82 rfl rfl rfl).trans ?_
  refine (E_al c_266_5 rfl (by decide)).trans ?_
  refine (E_il c_266_6 rfl).trans ?_
  refine (E_cIV c_266_7 mi_258 rfl rfl (sO_kl sh_82) (Nat.le_of_ble_eq_true rfl) (Nat.le_of_ble_eq_true rfl)).trans (ax_bnd fun u0 => ?_)
  refine (E_b0_eq (q := 18) c_266_10 rfl).trans (ax_ite ?_ ?_)
  · refine (E_l2 (v := (-9000000000000000001 : Int64)) c_266_18 (by decide)).trans ?_
    exact E_rL c_266_21 mi_266
  · refine (E_il c_266_13 rfl).trans ?_
    refine (E_ic (v := (-1 : Int32)) c_266_14 (by decide)).trans ?_
    refine (E_br_ge (q := 22) c_266_15 rfl).trans (ax_ite ?_ ?_)
    · refine (E_l2 (v := (-9000000000000000001 : Int64)) c_266_18 (by decide)).trans ?_
      exact E_rL c_266_21 mi_266
    · refine (E_al c_266_22 rfl (by decide)).trans ?_
      refine (E_cVV c_266_23 mi_260 rfl (sO_kl sh_82) (Nat.le_of_ble_eq_true rfl) (Nat.le_of_ble_eq_true rfl)).trans (ax_bnd fun u1 => ?_)
      refine (E_ic (v := (0 : Int32)) c_266_26 (by decide)).trans ?_
      refine (E_is (L' := [.ref 82, .int x1, .int x2, .int (0 : Int32), .null, .null]) c_266_27 (Nat.le_of_ble_eq_true rfl) rfl).trans ?_
      rfl
set_option maxHeartbeats 4000000 in
theorem u_266_82p28 (d : Nat) (σ : ax_S) (x1 : Int32) (x2 : Int32) (x3 : Int32) (w4 : Value) (hw4 : w4.category = 1) (w5 : Value) (hw5 : w5.category = 1) : ev sO (d + 6) 266 28 [.ref 82, .int x1, .int x2, .int x3, w4, w5] [] σ = if x1 < x3 then (ev sO (d + 6) 266 73 [.ref 82, .int x1, .int x2, .int (0 : Int32), w4, w5] [] σ) else (if (x3 &&& (x1 ^^^ (-1 : Int32))) = 0 then (if x3 = x1 then (gd (0 ≤ x3.toInt ∧ x3.toInt < (4096 : Nat)) (ev sO (d + 6) 266 28 [.ref 82, .int x1, .int x2, .int (x3 + (1 : Int32)), w4, w5] [] (sI σ 99 x3.toNatClampNeg (0 : Int32)))) else ((cI sO (d + 5) 240 [.int x3] σ).bind fun u0 => if (1 : Int32) < u0.1 then (gd (0 ≤ x3.toInt ∧ x3.toInt < (4096 : Nat)) (ev sO (d + 6) 266 28 [.ref 82, .int x1, .int x2, .int (x3 + (1 : Int32)), w4, w5] [] (sI u0.2 99 x3.toNatClampNeg (1 : Int32)))) else (gd (0 ≤ x3.toInt ∧ x3.toInt < (4096 : Nat)) (ev sO (d + 6) 266 28 [.ref 82, .int x1, .int x2, .int (x3 + (1 : Int32)), w4, w5] [] (sI u0.2 99 x3.toNatClampNeg (0 : Int32)))))) else (gd (0 ≤ x3.toInt ∧ x3.toInt < (4096 : Nat)) (ev sO (d + 6) 266 28 [.ref 82, .int x1, .int x2, .int (x3 + (1 : Int32)), w4, w5] [] (sI σ 99 x3.toNatClampNeg (0 : Int32))))) := by
  refine (E_il c_266_28 rfl).trans ?_
  refine (E_il c_266_29 rfl).trans ?_
  refine (E_br_gt (q := 71) c_266_30 rfl).trans (ax_ite ?_ ?_)
  · refine (E_ic (v := (0 : Int32)) c_266_71 (by decide)).trans ?_
    refine (E_is (L' := [.ref 82, .int x1, .int x2, .int (0 : Int32), w4, w5]) c_266_72 (Nat.le_of_ble_eq_true rfl) rfl).trans ?_
    rfl
  · refine (E_al c_266_33 rfl (by decide)).trans ?_
    refine (E_gfr (k := 37) (r := 99) c_266_34 sh_82 rfl rfl rfl).trans ?_
    refine (E_il c_266_37 rfl).trans ?_
    refine (E_il c_266_38 rfl).trans ?_
    refine (E_il c_266_39 rfl).trans ?_
    refine (E_ic (v := (-1 : Int32)) c_266_40 (by decide)).trans ?_
    refine (E_ixor c_266_41).trans ?_
    refine (E_iand c_266_42).trans ?_
    refine (E_b0_ne (q := 63) c_266_43 rfl).trans (ax_ite ?_ ?_)
    · refine (E_il c_266_46 rfl).trans ?_
      refine (E_il c_266_47 rfl).trans ?_
      refine (E_br_eq (q := 63) c_266_48 rfl).trans (ax_ite ?_ ?_)
      · refine (E_ic (v := (0 : Int32)) c_266_63 (by decide)).trans ?_
        refine (E_basz (v := (0 : Int32)) c_266_64 sh_99 (by decide)).trans (ax_gd ?_)
        refine (E_inc (v := (1 : Int32)) (L' := [.ref 82, .int x1, .int x2, .int (x3 + (1 : Int32)), w4, w5]) c_266_65 rfl (by decide) rfl).trans ?_
        refine (E_goto (q := 28) c_266_68 rfl).trans ?_
        rfl
      · refine (E_il c_266_51 rfl).trans ?_
        refine (E_cIS c_266_52 mi_240 rfl rfl (Nat.le_of_ble_eq_true rfl) (Nat.le_of_ble_eq_true rfl)).trans (ax_bnd fun u0 => ?_)
        refine (E_ic (v := (1 : Int32)) c_266_55 (by decide)).trans ?_
        refine (E_br_le (q := 63) c_266_56 rfl).trans (ax_ite ?_ ?_)
        · refine (E_ic (v := (1 : Int32)) c_266_59 (by decide)).trans ?_
          refine (E_goto (q := 64) c_266_60 rfl).trans ?_
          refine (E_basz (v := (1 : Int32)) c_266_64 sh_99 (by decide)).trans (ax_gd ?_)
          refine (E_inc (v := (1 : Int32)) (L' := [.ref 82, .int x1, .int x2, .int (x3 + (1 : Int32)), w4, w5]) c_266_65 rfl (by decide) rfl).trans ?_
          refine (E_goto (q := 28) c_266_68 rfl).trans ?_
          rfl
        · refine (E_ic (v := (0 : Int32)) c_266_63 (by decide)).trans ?_
          refine (E_basz (v := (0 : Int32)) c_266_64 sh_99 (by decide)).trans (ax_gd ?_)
          refine (E_inc (v := (1 : Int32)) (L' := [.ref 82, .int x1, .int x2, .int (x3 + (1 : Int32)), w4, w5]) c_266_65 rfl (by decide) rfl).trans ?_
          refine (E_goto (q := 28) c_266_68 rfl).trans ?_
          rfl
    · refine (E_ic (v := (0 : Int32)) c_266_63 (by decide)).trans ?_
      refine (E_basz (v := (0 : Int32)) c_266_64 sh_99 (by decide)).trans (ax_gd ?_)
      refine (E_inc (v := (1 : Int32)) (L' := [.ref 82, .int x1, .int x2, .int (x3 + (1 : Int32)), w4, w5]) c_266_65 rfl (by decide) rfl).trans ?_
      refine (E_goto (q := 28) c_266_68 rfl).trans ?_
      rfl
set_option maxHeartbeats 4000000 in
theorem u_266_82p73 (d : Nat) (σ : ax_S) (x1 : Int32) (x2 : Int32) (x3 : Int32) (w4 : Value) (hw4 : w4.category = 1) (w5 : Value) (hw5 : w5.category = 1) : ev sO (d + 6) 266 73 [.ref 82, .int x1, .int x2, .int x3, w4, w5] [] σ = (cI sO (d + 5) 259 [.ref 82] σ).bind fun u0 => if x3 < u0.1 then (gd (0 ≤ x3.toInt ∧ x3.toInt < (945 : Nat)) (if (u0.2.1 98 x3.toNatClampNeg) = 0 then (ev sO (d + 6) 266 73 [.ref 82, .int x1, .int x2, .int (x3 + (1 : Int32)), w4, w5] [] u0.2) else ((cV sO (d + 5) 261 [.ref 82, .int x3] u0.2).bind fun u1 => ev sO (d + 6) 266 98 [.ref 82, .int x1, .int x2, .int x3, .int (0 : Int32), w5] [] u1))) else (ev sO (d + 6) 266 156 [.ref 82, .int x1, .int x2, .int (0 : Int32), .int (-1000000 : Int32), .int (0 : Int32)] [] u0.2) := by
  refine (E_il c_266_73 rfl).trans ?_
  refine (E_al c_266_74 rfl (by decide)).trans ?_
  refine (E_cIV c_266_75 mi_259 rfl rfl (sO_kl sh_82) (Nat.le_of_ble_eq_true rfl) (Nat.le_of_ble_eq_true rfl)).trans (ax_bnd fun u0 => ?_)
  refine (E_br_ge (q := 147) c_266_78 rfl).trans (ax_ite ?_ ?_)
  · refine (E_al c_266_81 rfl (by decide)).trans ?_
    refine (E_gfr (k := 36) (r := 98) c_266_82 sh_82 rfl rfl rfl).trans ?_
    refine (E_il c_266_85 rfl).trans ?_
    refine (E_balz c_266_86 sh_98).trans (ax_gd ?_)
    refine (E_b0_eq (q := 141) c_266_87 rfl).trans (ax_ite ?_ ?_)
    · refine (E_inc (v := (1 : Int32)) (L' := [.ref 82, .int x1, .int x2, .int (x3 + (1 : Int32)), w4, w5]) c_266_141 rfl (by decide) rfl).trans ?_
      refine (E_goto (q := 73) c_266_144 rfl).trans ?_
      rfl
    · refine (E_al c_266_90 rfl (by decide)).trans ?_
      refine (E_il c_266_91 rfl).trans ?_
      refine (E_cVV c_266_92 mi_261 rfl (sO_kl sh_82) (Nat.le_of_ble_eq_true rfl) (Nat.le_of_ble_eq_true rfl)).trans (ax_bnd fun u1 => ?_)
      refine (E_ic (v := (0 : Int32)) c_266_95 (by decide)).trans ?_
      refine (E_is (L' := [.ref 82, .int x1, .int x2, .int x3, .int (0 : Int32), w5]) c_266_96 (Nat.le_of_ble_eq_true rfl) rfl).trans ?_
      rfl
  · refine (E_ic (v := (0 : Int32)) c_266_147 (by decide)).trans ?_
    refine (E_is (L' := [.ref 82, .int x1, .int x2, .int (0 : Int32), w4, w5]) c_266_148 (Nat.le_of_ble_eq_true rfl) rfl).trans ?_
    refine (E_ic (v := (-1000000 : Int32)) c_266_149 (by decide)).trans ?_
    refine (E_is (L' := [.ref 82, .int x1, .int x2, .int (0 : Int32), .int (-1000000 : Int32), w5]) c_266_151 (Nat.le_of_ble_eq_true rfl) rfl).trans ?_
    refine (E_ic (v := (0 : Int32)) c_266_153 (by decide)).trans ?_
    refine (E_is (L' := [.ref 82, .int x1, .int x2, .int (0 : Int32), .int (-1000000 : Int32), .int (0 : Int32)]) c_266_154 (Nat.le_of_ble_eq_true rfl) rfl).trans ?_
    rfl
set_option maxHeartbeats 4000000 in
theorem u_266_82p98 (d : Nat) (σ : ax_S) (x1 : Int32) (x2 : Int32) (x3 : Int32) (x4 : Int32) (w5 : Value) (hw5 : w5.category = 1) : ev sO (d + 6) 266 98 [.ref 82, .int x1, .int x2, .int x3, .int x4, w5] [] σ = if x4 < x1 then (gd (0 ≤ x4.toInt ∧ x4.toInt < (4096 : Nat)) (if (σ.1 99 x4.toNatClampNeg) = 0 then (gd (0 ≤ x4.toInt ∧ x4.toInt < (4096 : Nat)) (ev sO (d + 6) 266 98 [.ref 82, .int x1, .int x2, .int x3, .int (x4 + (1 : Int32)), w5] [] (sI σ 99 x4.toNatClampNeg (0 : Int32)))) else ((cI sO (d + 5) 267 [.ref 82, .int x4] σ).bind fun u0 => if u0.1 = 0 then (gd (0 ≤ x4.toInt ∧ x4.toInt < (4096 : Nat)) (ev sO (d + 6) 266 98 [.ref 82, .int x1, .int x2, .int x3, .int (x4 + (1 : Int32)), w5] [] (sI u0.2 99 x4.toNatClampNeg (0 : Int32)))) else (gd (0 ≤ x4.toInt ∧ x4.toInt < (4096 : Nat)) (ev sO (d + 6) 266 98 [.ref 82, .int x1, .int x2, .int x3, .int (x4 + (1 : Int32)), w5] [] (sI u0.2 99 x4.toNatClampNeg (1 : Int32))))))) else (ev sO (d + 6) 266 73 [.ref 82, .int x1, .int x2, .int (x3 + (1 : Int32)), .int x4, w5] [] σ) := by
  refine (E_il c_266_98 rfl).trans ?_
  refine (E_il c_266_100 rfl).trans ?_
  refine (E_br_ge (q := 141) c_266_101 rfl).trans (ax_ite ?_ ?_)
  · refine (E_al c_266_104 rfl (by decide)).trans ?_
    refine (E_gfr (k := 37) (r := 99) c_266_105 sh_82 rfl rfl rfl).trans ?_
    refine (E_il c_266_108 rfl).trans ?_
    refine (E_al c_266_110 rfl (by decide)).trans ?_
    refine (E_gfr (k := 37) (r := 99) c_266_111 sh_82 rfl rfl rfl).trans ?_
    refine (E_il c_266_114 rfl).trans ?_
    refine (E_balz c_266_116 sh_99).trans (ax_gd ?_)
    refine (E_b0_eq (q := 133) c_266_117 rfl).trans (ax_ite ?_ ?_)
    · refine (E_ic (v := (0 : Int32)) c_266_133 (by decide)).trans ?_
      refine (E_basz (v := (0 : Int32)) c_266_134 sh_99 (by decide)).trans (ax_gd ?_)
      refine (E_inc (v := (1 : Int32)) (L' := [.ref 82, .int x1, .int x2, .int x3, .int (x4 + (1 : Int32)), w5]) c_266_135 rfl (by decide) rfl).trans ?_
      refine (E_goto (q := 98) c_266_138 rfl).trans ?_
      rfl
    · refine (E_al c_266_120 rfl (by decide)).trans ?_
      refine (E_il c_266_121 rfl).trans ?_
      refine (E_cIV c_266_123 mi_267 rfl rfl (sO_kl sh_82) (Nat.le_of_ble_eq_true rfl) (Nat.le_of_ble_eq_true rfl)).trans (ax_bnd fun u0 => ?_)
      refine (E_b0_eq (q := 133) c_266_126 rfl).trans (ax_ite ?_ ?_)
      · refine (E_ic (v := (0 : Int32)) c_266_133 (by decide)).trans ?_
        refine (E_basz (v := (0 : Int32)) c_266_134 sh_99 (by decide)).trans (ax_gd ?_)
        refine (E_inc (v := (1 : Int32)) (L' := [.ref 82, .int x1, .int x2, .int x3, .int (x4 + (1 : Int32)), w5]) c_266_135 rfl (by decide) rfl).trans ?_
        refine (E_goto (q := 98) c_266_138 rfl).trans ?_
        rfl
      · refine (E_ic (v := (1 : Int32)) c_266_129 (by decide)).trans ?_
        refine (E_goto (q := 134) c_266_130 rfl).trans ?_
        refine (E_basz (v := (1 : Int32)) c_266_134 sh_99 (by decide)).trans (ax_gd ?_)
        refine (E_inc (v := (1 : Int32)) (L' := [.ref 82, .int x1, .int x2, .int x3, .int (x4 + (1 : Int32)), w5]) c_266_135 rfl (by decide) rfl).trans ?_
        refine (E_goto (q := 98) c_266_138 rfl).trans ?_
        rfl
  · refine (E_inc (v := (1 : Int32)) (L' := [.ref 82, .int x1, .int x2, .int (x3 + (1 : Int32)), .int x4, w5]) c_266_141 rfl (by decide) rfl).trans ?_
    refine (E_goto (q := 73) c_266_144 rfl).trans ?_
    rfl
set_option maxHeartbeats 4000000 in
theorem u_266_82p156 (d : Nat) (σ : ax_S) (x1 : Int32) (x2 : Int32) (x3 : Int32) (x4 : Int32) (x5 : Int32) : ev sO (d + 6) 266 156 [.ref 82, .int x1, .int x2, .int x3, .int x4, .int x5] [] σ = if x5 < x1 then (gd (0 ≤ x5.toInt ∧ x5.toInt < (4096 : Nat)) (if (σ.1 99 x5.toNatClampNeg) = 0 then (gd (0 ≤ x5.toInt ∧ x5.toInt < (4096 : Nat)) (if (σ.1 99 x5.toNatClampNeg) = 0 then (ev sO (d + 6) 266 156 [.ref 82, .int x1, .int x2, .int (x3 + (0 : Int32)), .int x4, .int (x5 + (1 : Int32))] [] σ) else (ev sO (d + 6) 266 156 [.ref 82, .int x1, .int x2, .int (x3 + (1 : Int32)), .int x4, .int (x5 + (1 : Int32))] [] σ))) else (if x3 = x2 then (gd (0 ≤ x5.toInt ∧ x5.toInt < (4096 : Nat)) (if (σ.1 99 x5.toNatClampNeg) = 0 then (ev sO (d + 6) 266 156 [.ref 82, .int x1, .int x2, .int (x3 + (0 : Int32)), .int x5, .int (x5 + (1 : Int32))] [] σ) else (ev sO (d + 6) 266 156 [.ref 82, .int x1, .int x2, .int (x3 + (1 : Int32)), .int x5, .int (x5 + (1 : Int32))] [] σ))) else (gd (0 ≤ x5.toInt ∧ x5.toInt < (4096 : Nat)) (if (σ.1 99 x5.toNatClampNeg) = 0 then (ev sO (d + 6) 266 156 [.ref 82, .int x1, .int x2, .int (x3 + (0 : Int32)), .int x4, .int (x5 + (1 : Int32))] [] σ) else (ev sO (d + 6) 266 156 [.ref 82, .int x1, .int x2, .int (x3 + (1 : Int32)), .int x4, .int (x5 + (1 : Int32))] [] σ)))))) else (if x2 = (-1 : Int32) then (some (some (.long x3.toInt64), σ)) else (some (some (.long x4.toInt64), σ))) := by
  refine (E_il c_266_156 rfl).trans ?_
  refine (E_il c_266_158 rfl).trans ?_
  refine (E_br_ge (q := 210) c_266_159 rfl).trans (ax_ite ?_ ?_)
  · refine (E_al c_266_162 rfl (by decide)).trans ?_
    refine (E_gfr (k := 37) (r := 99) c_266_163 sh_82 rfl rfl rfl).trans ?_
    refine (E_il c_266_166 rfl).trans ?_
    refine (E_balz c_266_168 sh_99).trans (ax_gd ?_)
    refine (E_b0_eq (q := 182) c_266_169 rfl).trans (ax_ite ?_ ?_)
    · refine (E_il c_266_182 rfl).trans ?_
      refine (E_is (L' := [.ref 82, .int x1, .int x2, .int x3, .int x4, .int x5]) c_266_184 (Nat.le_of_ble_eq_true rfl) rfl).trans ?_
      refine (E_il c_266_186 rfl).trans ?_
      refine (E_al c_266_187 rfl (by decide)).trans ?_
      refine (E_gfr (k := 37) (r := 99) c_266_188 sh_82 rfl rfl rfl).trans ?_
      refine (E_il c_266_191 rfl).trans ?_
      refine (E_balz c_266_193 sh_99).trans (ax_gd ?_)
      refine (E_b0_eq (q := 201) c_266_194 rfl).trans (ax_ite ?_ ?_)
      · refine (E_ic (v := (0 : Int32)) c_266_201 (by decide)).trans ?_
        refine (E_iadd c_266_202).trans ?_
        refine (E_is (L' := [.ref 82, .int x1, .int x2, .int (x3 + (0 : Int32)), .int x4, .int x5]) c_266_203 (Nat.le_of_ble_eq_true rfl) rfl).trans ?_
        refine (E_inc (v := (1 : Int32)) (L' := [.ref 82, .int x1, .int x2, .int (x3 + (0 : Int32)), .int x4, .int (x5 + (1 : Int32))]) c_266_204 rfl (by decide) rfl).trans ?_
        refine (E_goto (q := 156) c_266_207 rfl).trans ?_
        rfl
      · refine (E_ic (v := (1 : Int32)) c_266_197 (by decide)).trans ?_
        refine (E_goto (q := 202) c_266_198 rfl).trans ?_
        refine (E_iadd c_266_202).trans ?_
        refine (E_is (L' := [.ref 82, .int x1, .int x2, .int (x3 + (1 : Int32)), .int x4, .int x5]) c_266_203 (Nat.le_of_ble_eq_true rfl) rfl).trans ?_
        refine (E_inc (v := (1 : Int32)) (L' := [.ref 82, .int x1, .int x2, .int (x3 + (1 : Int32)), .int x4, .int (x5 + (1 : Int32))]) c_266_204 rfl (by decide) rfl).trans ?_
        refine (E_goto (q := 156) c_266_207 rfl).trans ?_
        rfl
    · refine (E_il c_266_172 rfl).trans ?_
      refine (E_il c_266_173 rfl).trans ?_
      refine (E_br_ne (q := 182) c_266_174 rfl).trans (ax_ite ?_ ?_)
      · refine (E_il c_266_177 rfl).trans ?_
        refine (E_goto (q := 184) c_266_179 rfl).trans ?_
        refine (E_is (L' := [.ref 82, .int x1, .int x2, .int x3, .int x5, .int x5]) c_266_184 (Nat.le_of_ble_eq_true rfl) rfl).trans ?_
        refine (E_il c_266_186 rfl).trans ?_
        refine (E_al c_266_187 rfl (by decide)).trans ?_
        refine (E_gfr (k := 37) (r := 99) c_266_188 sh_82 rfl rfl rfl).trans ?_
        refine (E_il c_266_191 rfl).trans ?_
        refine (E_balz c_266_193 sh_99).trans (ax_gd ?_)
        refine (E_b0_eq (q := 201) c_266_194 rfl).trans (ax_ite ?_ ?_)
        · refine (E_ic (v := (0 : Int32)) c_266_201 (by decide)).trans ?_
          refine (E_iadd c_266_202).trans ?_
          refine (E_is (L' := [.ref 82, .int x1, .int x2, .int (x3 + (0 : Int32)), .int x5, .int x5]) c_266_203 (Nat.le_of_ble_eq_true rfl) rfl).trans ?_
          refine (E_inc (v := (1 : Int32)) (L' := [.ref 82, .int x1, .int x2, .int (x3 + (0 : Int32)), .int x5, .int (x5 + (1 : Int32))]) c_266_204 rfl (by decide) rfl).trans ?_
          refine (E_goto (q := 156) c_266_207 rfl).trans ?_
          rfl
        · refine (E_ic (v := (1 : Int32)) c_266_197 (by decide)).trans ?_
          refine (E_goto (q := 202) c_266_198 rfl).trans ?_
          refine (E_iadd c_266_202).trans ?_
          refine (E_is (L' := [.ref 82, .int x1, .int x2, .int (x3 + (1 : Int32)), .int x5, .int x5]) c_266_203 (Nat.le_of_ble_eq_true rfl) rfl).trans ?_
          refine (E_inc (v := (1 : Int32)) (L' := [.ref 82, .int x1, .int x2, .int (x3 + (1 : Int32)), .int x5, .int (x5 + (1 : Int32))]) c_266_204 rfl (by decide) rfl).trans ?_
          refine (E_goto (q := 156) c_266_207 rfl).trans ?_
          rfl
      · refine (E_il c_266_182 rfl).trans ?_
        refine (E_is (L' := [.ref 82, .int x1, .int x2, .int x3, .int x4, .int x5]) c_266_184 (Nat.le_of_ble_eq_true rfl) rfl).trans ?_
        refine (E_il c_266_186 rfl).trans ?_
        refine (E_al c_266_187 rfl (by decide)).trans ?_
        refine (E_gfr (k := 37) (r := 99) c_266_188 sh_82 rfl rfl rfl).trans ?_
        refine (E_il c_266_191 rfl).trans ?_
        refine (E_balz c_266_193 sh_99).trans (ax_gd ?_)
        refine (E_b0_eq (q := 201) c_266_194 rfl).trans (ax_ite ?_ ?_)
        · refine (E_ic (v := (0 : Int32)) c_266_201 (by decide)).trans ?_
          refine (E_iadd c_266_202).trans ?_
          refine (E_is (L' := [.ref 82, .int x1, .int x2, .int (x3 + (0 : Int32)), .int x4, .int x5]) c_266_203 (Nat.le_of_ble_eq_true rfl) rfl).trans ?_
          refine (E_inc (v := (1 : Int32)) (L' := [.ref 82, .int x1, .int x2, .int (x3 + (0 : Int32)), .int x4, .int (x5 + (1 : Int32))]) c_266_204 rfl (by decide) rfl).trans ?_
          refine (E_goto (q := 156) c_266_207 rfl).trans ?_
          rfl
        · refine (E_ic (v := (1 : Int32)) c_266_197 (by decide)).trans ?_
          refine (E_goto (q := 202) c_266_198 rfl).trans ?_
          refine (E_iadd c_266_202).trans ?_
          refine (E_is (L' := [.ref 82, .int x1, .int x2, .int (x3 + (1 : Int32)), .int x4, .int x5]) c_266_203 (Nat.le_of_ble_eq_true rfl) rfl).trans ?_
          refine (E_inc (v := (1 : Int32)) (L' := [.ref 82, .int x1, .int x2, .int (x3 + (1 : Int32)), .int x4, .int (x5 + (1 : Int32))]) c_266_204 rfl (by decide) rfl).trans ?_
          refine (E_goto (q := 156) c_266_207 rfl).trans ?_
          rfl
  · refine (E_il c_266_210 rfl).trans ?_
    refine (E_ic (v := (-1 : Int32)) c_266_211 (by decide)).trans ?_
    refine (E_br_ne (q := 220) c_266_212 rfl).trans (ax_ite ?_ ?_)
    · refine (E_il c_266_215 rfl).trans ?_
      refine (E_i2l c_266_216).trans ?_
      refine (E_goto (q := 223) c_266_217 rfl).trans ?_
      exact E_rL c_266_223 mi_266
    · refine (E_il c_266_220 rfl).trans ?_
      refine (E_i2l c_266_222).trans ?_
      exact E_rL c_266_223 mi_266
set_option maxHeartbeats 4000000 in
theorem u_156_0 (d : Nat) (σ : ax_S) (x1 : Int32) (x2 : Int32) (x3 : Int32) : ev sO (d + 4) 156 0 [.ref 0, .int x1, .int x2, .int x3] [] σ = (cI sO (d + 3) 135 [.ref 0, .int x1] σ).bind fun u0 => if u0.1 = 0 then (some (some (.long (-9000000000000000001 : Int64)), u0.2)) else ((cI sO (d + 3) 82 [.int x2] u0.2).bind fun u1 => if u1.1 = 0 then (some (some (.long (-9000000000000000001 : Int64)), u1.2)) else (if x3 < (-1 : Int32) then (some (some (.long (-9000000000000000001 : Int64)), u1.2)) else ((cV sO (d + 3) 136 [.ref 66, .ref 17, .int x1] u1.2).bind fun u2 => (cL sO (d + 3) 157 [.ref 66, .int x2, .int x3] u2).bind fun u3 => some (some (.long u3.1), u3.2)))) := by
  refine (E_al c_156_0 rfl (by decide)).trans ?_
  refine (E_il c_156_1 rfl).trans ?_
  refine (E_cIV c_156_2 mi_135 rfl rfl (sO_kl sh_0) (Nat.le_of_ble_eq_true rfl) (Nat.le_of_ble_eq_true rfl)).trans (ax_bnd fun u0 => ?_)
  refine (E_b0_eq (q := 20) c_156_5 rfl).trans (ax_ite ?_ ?_)
  · refine (E_l2 (v := (-9000000000000000001 : Int64)) c_156_20 (by decide)).trans ?_
    exact E_rL c_156_23 mi_156
  · refine (E_il c_156_8 rfl).trans ?_
    refine (E_cIS c_156_9 mi_82 rfl rfl (Nat.le_of_ble_eq_true rfl) (Nat.le_of_ble_eq_true rfl)).trans (ax_bnd fun u1 => ?_)
    refine (E_b0_eq (q := 20) c_156_12 rfl).trans (ax_ite ?_ ?_)
    · refine (E_l2 (v := (-9000000000000000001 : Int64)) c_156_20 (by decide)).trans ?_
      exact E_rL c_156_23 mi_156
    · refine (E_il c_156_15 rfl).trans ?_
      refine (E_ic (v := (-1 : Int32)) c_156_16 (by decide)).trans ?_
      refine (E_br_ge (q := 24) c_156_17 rfl).trans (ax_ite ?_ ?_)
      · refine (E_l2 (v := (-9000000000000000001 : Int64)) c_156_20 (by decide)).trans ?_
        exact E_rL c_156_23 mi_156
      · refine (E_al c_156_24 rfl (by decide)).trans ?_
        refine (E_gfr (k := 8) (r := 66) c_156_25 sh_0 rfl rfl rfl).trans ?_
        refine (E_al c_156_28 rfl (by decide)).trans ?_
        refine (E_gfr (k := 2) (r := 7) c_156_29 sh_0 rfl rfl rfl).trans ?_
        refine (E_gfr (k := 1) (r := 17) c_156_32 sh_7 rfl rfl rfl).trans ?_
        refine (E_il c_156_35 rfl).trans ?_
        refine (E_cVV c_156_36 mi_136 rfl (sO_kl sh_66) (Nat.le_of_ble_eq_true rfl) (Nat.le_of_ble_eq_true rfl)).trans (ax_bnd fun u2 => ?_)
        refine (E_al c_156_39 rfl (by decide)).trans ?_
        refine (E_gfr (k := 8) (r := 66) c_156_40 sh_0 rfl rfl rfl).trans ?_
        refine (E_il c_156_43 rfl).trans ?_
        refine (E_il c_156_44 rfl).trans ?_
        refine (E_cLV c_156_45 mi_157 rfl (sO_kl sh_66) (Nat.le_of_ble_eq_true rfl) (Nat.le_of_ble_eq_true rfl)).trans (ax_bnd fun u3 => ?_)
        exact E_rL c_156_48 mi_156
set_option maxHeartbeats 4000000 in
theorem u_268_82 (d : Nat) (σ : ax_S) (x1 : Int32) (x2 : Int32) (x3 : Int32) : ev sO (d + 6) 268 0 [.ref 82, .int x1, .int x2, .int x3, .null, .null, .null, .null] [] σ = (cI sO (d + 5) 258 [.ref 82, .int x1] (sI σ 82 0 (0 : Int32))).bind fun u0 => if u0.1 = 0 then (some (some (.long (-9000000000000000001 : Int64)), u0.2)) else ((cI sO (d + 5) 237 [.int x2] u0.2).bind fun u1 => if u1.1 = 0 then (some (some (.long (-9000000000000000001 : Int64)), u1.2)) else (if x3 < (-1 : Int32) then (some (some (.long (-9000000000000000001 : Int64)), u1.2)) else ((cV sO (d + 5) 260 [.ref 82] u1.2).bind fun u2 => ev sO (d + 6) 268 39 [.ref 82, .int x1, .int x2, .int x3, .int (0 : Int32), .int (0 : Int32), .null, .null] [] u2))) := by
  refine (E_al c_268_0 rfl (by decide)).trans ?_
  refine (E_ic (v := (0 : Int32)) c_268_1 (by decide)).trans ?_
  refine (E_pfi (k := 0) c_268_2 sh_82 rfl rfl rfl).trans ?_
  refine (E_al c_268_5 rfl (by decide)).trans ?_
  refine (E_il c_268_6 rfl).trans ?_
  refine (E_cIV c_268_7 mi_258 rfl rfl (sO_kl sh_82) (Nat.le_of_ble_eq_true rfl) (Nat.le_of_ble_eq_true rfl)).trans (ax_bnd fun u0 => ?_)
  refine (E_b0_eq (q := 25) c_268_10 rfl).trans (ax_ite ?_ ?_)
  · refine (E_l2 (v := (-9000000000000000001 : Int64)) c_268_25 (by decide)).trans ?_
    exact E_rL c_268_28 mi_268
  · refine (E_il c_268_13 rfl).trans ?_
    refine (E_cIS c_268_14 mi_237 rfl rfl (Nat.le_of_ble_eq_true rfl) (Nat.le_of_ble_eq_true rfl)).trans (ax_bnd fun u1 => ?_)
    refine (E_b0_eq (q := 25) c_268_17 rfl).trans (ax_ite ?_ ?_)
    · refine (E_l2 (v := (-9000000000000000001 : Int64)) c_268_25 (by decide)).trans ?_
      exact E_rL c_268_28 mi_268
    · refine (E_il c_268_20 rfl).trans ?_
      refine (E_ic (v := (-1 : Int32)) c_268_21 (by decide)).trans ?_
      refine (E_br_ge (q := 29) c_268_22 rfl).trans (ax_ite ?_ ?_)
      · refine (E_l2 (v := (-9000000000000000001 : Int64)) c_268_25 (by decide)).trans ?_
        exact E_rL c_268_28 mi_268
      · refine (E_al c_268_29 rfl (by decide)).trans ?_
        refine (E_cVV c_268_30 mi_260 rfl (sO_kl sh_82) (Nat.le_of_ble_eq_true rfl) (Nat.le_of_ble_eq_true rfl)).trans (ax_bnd fun u2 => ?_)
        refine (E_ic (v := (0 : Int32)) c_268_33 (by decide)).trans ?_
        refine (E_is (L' := [.ref 82, .int x1, .int x2, .int x3, .int (0 : Int32), .null, .null, .null]) c_268_34 (Nat.le_of_ble_eq_true rfl) rfl).trans ?_
        refine (E_ic (v := (0 : Int32)) c_268_36 (by decide)).trans ?_
        refine (E_is (L' := [.ref 82, .int x1, .int x2, .int x3, .int (0 : Int32), .int (0 : Int32), .null, .null]) c_268_37 (Nat.le_of_ble_eq_true rfl) rfl).trans ?_
        rfl
set_option maxHeartbeats 4000000 in
theorem u_268_82p39 (d : Nat) (σ : ax_S) (w1 : Value) (hw1 : w1.category = 1) (x2 : Int32) (x3 : Int32) (x4 : Int32) (x5 : Int32) (w6 : Value) (hw6 : w6.category = 1) (w7 : Value) (hw7 : w7.category = 1) : ev sO (d + 6) 268 39 [.ref 82, w1, .int x2, .int x3, .int x4, .int x5, w6, w7] [] σ = (cI sO (d + 5) 259 [.ref 82] σ).bind fun u0 => if x5 < u0.1 then (gd (0 ≤ x5.toInt ∧ x5.toInt < (945 : Nat)) (if (u0.2.1 98 x5.toNatClampNeg) = 0 then (ev sO (d + 6) 268 39 [.ref 82, w1, .int x2, .int x3, .int x4, .int (x5 + (1 : Int32)), w6, w7] [] u0.2) else ((cV sO (d + 5) 261 [.ref 82, .int x5] u0.2).bind fun u1 => (cI sO (d + 5) 264 [.ref 82, .int x2] u1).bind fun u2 => if (u2.2.1 82 33) = 0 then (ev sO (d + 6) 268 39 [.ref 82, w1, .int x2, .int x3, .int (x4 ||| (0 : Int32)), .int (x5 + (1 : Int32)), .int u2.1, w7] [] u2.2) else (if u2.1 < 0 then (ev sO (d + 6) 268 39 [.ref 82, w1, .int x2, .int x3, .int (x4 ||| (0 : Int32)), .int (x5 + (1 : Int32)), .int u2.1, w7] [] u2.2) else (gd (0 ≤ (u2.2.1 82 29).toInt ∧ (u2.2.1 82 29).toInt < (11 : Nat)) (ev sO (d + 6) 268 39 [.ref 82, w1, .int x2, .int x3, .int (x4 ||| (u2.2.1 96 (u2.2.1 82 29).toNatClampNeg)), .int (x5 + (1 : Int32)), .int u2.1, w7] [] u2.2)))))) else ((cV sO (d + 5) 265 [.ref 82, .int x2] u0.2).bind fun u3 => ev sO (d + 6) 268 122 [.ref 82, w1, .int x2, .int x3, .int x4, .int (0 : Int32), .int (-1000000 : Int32), .int (0 : Int32)] [] u3) := by
  refine (E_il c_268_39 rfl).trans ?_
  refine (E_al c_268_41 rfl (by decide)).trans ?_
  refine (E_cIV c_268_42 mi_259 rfl rfl (sO_kl sh_82) (Nat.le_of_ble_eq_true rfl) (Nat.le_of_ble_eq_true rfl)).trans (ax_bnd fun u0 => ?_)
  refine (E_br_ge (q := 107) c_268_45 rfl).trans (ax_ite ?_ ?_)
  · refine (E_al c_268_48 rfl (by decide)).trans ?_
    refine (E_gfr (k := 36) (r := 98) c_268_49 sh_82 rfl rfl rfl).trans ?_
    refine (E_il c_268_52 rfl).trans ?_
    refine (E_balz c_268_54 sh_98).trans (ax_gd ?_)
    refine (E_b0_eq (q := 101) c_268_55 rfl).trans (ax_ite ?_ ?_)
    · refine (E_inc (v := (1 : Int32)) (L' := [.ref 82, w1, .int x2, .int x3, .int x4, .int (x5 + (1 : Int32)), w6, w7]) c_268_101 rfl (by decide) rfl).trans ?_
      refine (E_goto (q := 39) c_268_104 rfl).trans ?_
      rfl
    · refine (E_al c_268_58 rfl (by decide)).trans ?_
      refine (E_il c_268_59 rfl).trans ?_
      refine (E_cVV c_268_61 mi_261 rfl (sO_kl sh_82) (Nat.le_of_ble_eq_true rfl) (Nat.le_of_ble_eq_true rfl)).trans (ax_bnd fun u1 => ?_)
      refine (E_al c_268_64 rfl (by decide)).trans ?_
      refine (E_il c_268_65 rfl).trans ?_
      refine (E_cIV c_268_66 mi_264 rfl rfl (sO_kl sh_82) (Nat.le_of_ble_eq_true rfl) (Nat.le_of_ble_eq_true rfl)).trans (ax_bnd fun u2 => ?_)
      refine (E_is (L' := [.ref 82, w1, .int x2, .int x3, .int x4, .int x5, .int u2.1, w7]) c_268_69 (Nat.le_of_ble_eq_true rfl) rfl).trans ?_
      refine (E_il c_268_71 rfl).trans ?_
      refine (E_al c_268_73 rfl (by decide)).trans ?_
      refine (E_gfi (k := 33) c_268_74 sh_82 rfl rfl rfl (by decide)).trans ?_
      refine (E_b0_eq (q := 85) c_268_77 rfl).trans (ax_ite ?_ ?_)
      · refine (E_ic (v := (0 : Int32)) c_268_85 (by decide)).trans ?_
        refine (E_goto (q := 98) c_268_86 rfl).trans ?_
        refine (E_ior c_268_98).trans ?_
        refine (E_is (L' := [.ref 82, w1, .int x2, .int x3, .int (x4 ||| (0 : Int32)), .int x5, .int u2.1, w7]) c_268_99 (Nat.le_of_ble_eq_true rfl) rfl).trans ?_
        refine (E_inc (v := (1 : Int32)) (L' := [.ref 82, w1, .int x2, .int x3, .int (x4 ||| (0 : Int32)), .int (x5 + (1 : Int32)), .int u2.1, w7]) c_268_101 rfl (by decide) rfl).trans ?_
        refine (E_goto (q := 39) c_268_104 rfl).trans ?_
        rfl
      · refine (E_il c_268_80 rfl).trans ?_
        refine (E_b0_ge (q := 89) c_268_82 rfl).trans (ax_ite ?_ ?_)
        · refine (E_ic (v := (0 : Int32)) c_268_85 (by decide)).trans ?_
          refine (E_goto (q := 98) c_268_86 rfl).trans ?_
          refine (E_ior c_268_98).trans ?_
          refine (E_is (L' := [.ref 82, w1, .int x2, .int x3, .int (x4 ||| (0 : Int32)), .int x5, .int u2.1, w7]) c_268_99 (Nat.le_of_ble_eq_true rfl) rfl).trans ?_
          refine (E_inc (v := (1 : Int32)) (L' := [.ref 82, w1, .int x2, .int x3, .int (x4 ||| (0 : Int32)), .int (x5 + (1 : Int32)), .int u2.1, w7]) c_268_101 rfl (by decide) rfl).trans ?_
          refine (E_goto (q := 39) c_268_104 rfl).trans ?_
          rfl
        · refine (E_al c_268_89 rfl (by decide)).trans ?_
          refine (E_gfr (k := 31) (r := 96) c_268_90 sh_82 rfl rfl rfl).trans ?_
          refine (E_al c_268_93 rfl (by decide)).trans ?_
          refine (E_gfi (k := 29) c_268_94 sh_82 rfl rfl rfl (by decide)).trans ?_
          refine (E_ial c_268_97 sh_96).trans (ax_gd ?_)
          refine (E_ior c_268_98).trans ?_
          refine (E_is (L' := [.ref 82, w1, .int x2, .int x3, .int (x4 ||| (u2.2.1 96 (u2.2.1 82 29).toNatClampNeg)), .int x5, .int u2.1, w7]) c_268_99 (Nat.le_of_ble_eq_true rfl) rfl).trans ?_
          refine (E_inc (v := (1 : Int32)) (L' := [.ref 82, w1, .int x2, .int x3, .int (x4 ||| (u2.2.1 96 (u2.2.1 82 29).toNatClampNeg)), .int (x5 + (1 : Int32)), .int u2.1, w7]) c_268_101 rfl (by decide) rfl).trans ?_
          refine (E_goto (q := 39) c_268_104 rfl).trans ?_
          rfl
  · refine (E_al c_268_107 rfl (by decide)).trans ?_
    refine (E_il c_268_108 rfl).trans ?_
    refine (E_cVV c_268_109 mi_265 rfl (sO_kl sh_82) (Nat.le_of_ble_eq_true rfl) (Nat.le_of_ble_eq_true rfl)).trans (ax_bnd fun u3 => ?_)
    refine (E_ic (v := (0 : Int32)) c_268_112 (by decide)).trans ?_
    refine (E_is (L' := [.ref 82, w1, .int x2, .int x3, .int x4, .int (0 : Int32), w6, w7]) c_268_113 (Nat.le_of_ble_eq_true rfl) rfl).trans ?_
    refine (E_ic (v := (-1000000 : Int32)) c_268_115 (by decide)).trans ?_
    refine (E_is (L' := [.ref 82, w1, .int x2, .int x3, .int x4, .int (0 : Int32), .int (-1000000 : Int32), w7]) c_268_117 (Nat.le_of_ble_eq_true rfl) rfl).trans ?_
    refine (E_ic (v := (0 : Int32)) c_268_119 (by decide)).trans ?_
    refine (E_is (L' := [.ref 82, w1, .int x2, .int x3, .int x4, .int (0 : Int32), .int (-1000000 : Int32), .int (0 : Int32)]) c_268_120 (Nat.le_of_ble_eq_true rfl) rfl).trans ?_
    rfl
set_option maxHeartbeats 4000000 in
theorem u_268_82p122 (d : Nat) (σ : ax_S) (w1 : Value) (hw1 : w1.category = 1) (w2 : Value) (hw2 : w2.category = 1) (x3 : Int32) (x4 : Int32) (x5 : Int32) (x6 : Int32) (x7 : Int32) : ev sO (d + 6) 268 122 [.ref 82, w1, w2, .int x3, .int x4, .int x5, .int x6, .int x7] [] σ = if x7 < (σ.1 82 33) then (if ((x4 >>> (x7 &&& 31)) &&& (1 : Int32)) = (1 : Int32) then (if x5 = x3 then (gd (0 ≤ x7.toInt ∧ x7.toInt < (6 : Nat)) (ev sO (d + 6) 268 122 [.ref 82, w1, w2, .int x3, .int x4, .int (x5 + ((x4 >>> (x7 &&& 31)) &&& (1 : Int32))), .int (σ.1 97 x7.toNatClampNeg), .int (x7 + (1 : Int32))] [] σ)) else (ev sO (d + 6) 268 122 [.ref 82, w1, w2, .int x3, .int x4, .int (x5 + ((x4 >>> (x7 &&& 31)) &&& (1 : Int32))), .int x6, .int (x7 + (1 : Int32))] [] σ)) else (ev sO (d + 6) 268 122 [.ref 82, w1, w2, .int x3, .int x4, .int (x5 + ((x4 >>> (x7 &&& 31)) &&& (1 : Int32))), .int x6, .int (x7 + (1 : Int32))] [] σ)) else (if x3 = (-1 : Int32) then (some (some (.long x5.toInt64), σ)) else (some (some (.long x6.toInt64), σ))) := by
  refine (E_il c_268_122 rfl).trans ?_
  refine (E_al c_268_124 rfl (by decide)).trans ?_
  refine (E_gfi (k := 33) c_268_125 sh_82 rfl rfl rfl (by decide)).trans ?_
  refine (E_br_ge (q := 180) c_268_128 rfl).trans (ax_ite ?_ ?_)
  · refine (E_il c_268_131 rfl).trans ?_
    refine (E_il c_268_133 rfl).trans ?_
    refine (E_ishr c_268_135).trans ?_
    refine (E_ic (v := (1 : Int32)) c_268_136 (by decide)).trans ?_
    refine (E_iand c_268_137).trans ?_
    refine (E_ic (v := (1 : Int32)) c_268_138 (by decide)).trans ?_
    refine (E_br_ne (q := 158) c_268_139 rfl).trans (ax_ite ?_ ?_)
    · refine (E_il c_268_142 rfl).trans ?_
      refine (E_il c_268_144 rfl).trans ?_
      refine (E_br_ne (q := 158) c_268_145 rfl).trans (ax_ite ?_ ?_)
      · refine (E_al c_268_148 rfl (by decide)).trans ?_
        refine (E_gfr (k := 32) (r := 97) c_268_149 sh_82 rfl rfl rfl).trans ?_
        refine (E_il c_268_152 rfl).trans ?_
        refine (E_ial c_268_154 sh_97).trans (ax_gd ?_)
        refine (E_goto (q := 160) c_268_155 rfl).trans ?_
        refine (E_is (L' := [.ref 82, w1, w2, .int x3, .int x4, .int x5, .int (σ.1 97 x7.toNatClampNeg), .int x7]) c_268_160 (Nat.le_of_ble_eq_true rfl) rfl).trans ?_
        refine (E_il c_268_162 rfl).trans ?_
        refine (E_il c_268_164 rfl).trans ?_
        refine (E_il c_268_166 rfl).trans ?_
        refine (E_ishr c_268_168).trans ?_
        refine (E_ic (v := (1 : Int32)) c_268_169 (by decide)).trans ?_
        refine (E_iand c_268_170).trans ?_
        refine (E_iadd c_268_171).trans ?_
        refine (E_is (L' := [.ref 82, w1, w2, .int x3, .int x4, .int (x5 + ((x4 >>> (x7 &&& 31)) &&& (1 : Int32))), .int (σ.1 97 x7.toNatClampNeg), .int x7]) c_268_172 (Nat.le_of_ble_eq_true rfl) rfl).trans ?_
        refine (E_inc (v := (1 : Int32)) (L' := [.ref 82, w1, w2, .int x3, .int x4, .int (x5 + ((x4 >>> (x7 &&& 31)) &&& (1 : Int32))), .int (σ.1 97 x7.toNatClampNeg), .int (x7 + (1 : Int32))]) c_268_174 rfl (by decide) rfl).trans ?_
        refine (E_goto (q := 122) c_268_177 rfl).trans ?_
        rfl
      · refine (E_il c_268_158 rfl).trans ?_
        refine (E_is (L' := [.ref 82, w1, w2, .int x3, .int x4, .int x5, .int x6, .int x7]) c_268_160 (Nat.le_of_ble_eq_true rfl) rfl).trans ?_
        refine (E_il c_268_162 rfl).trans ?_
        refine (E_il c_268_164 rfl).trans ?_
        refine (E_il c_268_166 rfl).trans ?_
        refine (E_ishr c_268_168).trans ?_
        refine (E_ic (v := (1 : Int32)) c_268_169 (by decide)).trans ?_
        refine (E_iand c_268_170).trans ?_
        refine (E_iadd c_268_171).trans ?_
        refine (E_is (L' := [.ref 82, w1, w2, .int x3, .int x4, .int (x5 + ((x4 >>> (x7 &&& 31)) &&& (1 : Int32))), .int x6, .int x7]) c_268_172 (Nat.le_of_ble_eq_true rfl) rfl).trans ?_
        refine (E_inc (v := (1 : Int32)) (L' := [.ref 82, w1, w2, .int x3, .int x4, .int (x5 + ((x4 >>> (x7 &&& 31)) &&& (1 : Int32))), .int x6, .int (x7 + (1 : Int32))]) c_268_174 rfl (by decide) rfl).trans ?_
        refine (E_goto (q := 122) c_268_177 rfl).trans ?_
        rfl
    · refine (E_il c_268_158 rfl).trans ?_
      refine (E_is (L' := [.ref 82, w1, w2, .int x3, .int x4, .int x5, .int x6, .int x7]) c_268_160 (Nat.le_of_ble_eq_true rfl) rfl).trans ?_
      refine (E_il c_268_162 rfl).trans ?_
      refine (E_il c_268_164 rfl).trans ?_
      refine (E_il c_268_166 rfl).trans ?_
      refine (E_ishr c_268_168).trans ?_
      refine (E_ic (v := (1 : Int32)) c_268_169 (by decide)).trans ?_
      refine (E_iand c_268_170).trans ?_
      refine (E_iadd c_268_171).trans ?_
      refine (E_is (L' := [.ref 82, w1, w2, .int x3, .int x4, .int (x5 + ((x4 >>> (x7 &&& 31)) &&& (1 : Int32))), .int x6, .int x7]) c_268_172 (Nat.le_of_ble_eq_true rfl) rfl).trans ?_
      refine (E_inc (v := (1 : Int32)) (L' := [.ref 82, w1, w2, .int x3, .int x4, .int (x5 + ((x4 >>> (x7 &&& 31)) &&& (1 : Int32))), .int x6, .int (x7 + (1 : Int32))]) c_268_174 rfl (by decide) rfl).trans ?_
      refine (E_goto (q := 122) c_268_177 rfl).trans ?_
      rfl
  · refine (E_il c_268_180 rfl).trans ?_
    refine (E_ic (v := (-1 : Int32)) c_268_181 (by decide)).trans ?_
    refine (E_br_ne (q := 191) c_268_182 rfl).trans (ax_ite ?_ ?_)
    · refine (E_il c_268_185 rfl).trans ?_
      refine (E_i2l c_268_187).trans ?_
      refine (E_goto (q := 194) c_268_188 rfl).trans ?_
      exact E_rL c_268_194 mi_268
    · refine (E_il c_268_191 rfl).trans ?_
      refine (E_i2l c_268_193).trans ?_
      exact E_rL c_268_194 mi_268
