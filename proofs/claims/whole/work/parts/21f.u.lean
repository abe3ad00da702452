set_option maxHeartbeats 4000000 in
theorem u_132_17p29 (d : Nat) (σ : ax_S) (x1 : Int32) (x2 : Int32) (x3 : Int32) (x4 : Int32) (x5 : Int32) (x6 : Int32) (x7 : Int32) (w8 : Value) (hw8 : w8.category = 1) : ev sO (d + 3) 132 29 [.ref 17, .int x1, .int x2, .int x3, .int x4, .int x5, .int x6, .int x7, w8] [] σ = if x7 < (σ.1 17 0) then ((cI sO (d + 2) 127 [.ref 17, .int x6, .int x1] σ).bind fun u0 => if u0.1 = 0 then (ev sO (d + 3) 132 14 [.ref 17, .int x1, .int x2, .int x3, .int x4, .int x5, .int (x6 + (1 : Int32)), .int x7, w8] [] u0.2) else ((cI sO (d + 2) 127 [.ref 17, .int x7, .int x1] u0.2).bind fun u1 => if u1.1 = 0 then (ev sO (d + 3) 132 29 [.ref 17, .int x1, .int x2, .int x3, .int x4, .int x5, .int x6, .int (x7 + (1 : Int32)), .int (-1000000 : Int32)] [] u1.2) else ((cI sO (d + 2) 133 [.ref 17, .int x1, .int x6, .int x7] u1.2).bind fun u2 => if u2.1 = (-1000000 : Int32) then (ev sO (d + 3) 132 29 [.ref 17, .int x1, .int x2, .int x3, .int x4, .int x5, .int x6, .int (x7 + (1 : Int32)), .int u2.1] [] u2.2) else (if x3 = (-1000000 : Int32) then (ev sO (d + 3) 132 29 [.ref 17, .int x1, .int x2, .int u2.1, .int x6, .int x7, .int x6, .int (x7 + (1 : Int32)), .int u2.1] [] u2.2) else (if u2.1 < x3 then (ev sO (d + 3) 132 29 [.ref 17, .int x1, .int x2, .int u2.1, .int x6, .int x7, .int x6, .int (x7 + (1 : Int32)), .int u2.1] [] u2.2) else (ev sO (d + 3) 132 29 [.ref 17, .int x1, .int x2, .int x3, .int x4, .int x5, .int x6, .int (x7 + (1 : Int32)), .int u2.1] [] u2.2)))))) else (ev sO (d + 3) 132 14 [.ref 17, .int x1, .int x2, .int x3, .int x4, .int x5, .int (x6 + (1 : Int32)), .int x7, w8] [] σ) := by
  refine (E_il c_132_29 rfl).trans ?_
  refine (E_al c_132_31 rfl (by decide)).trans ?_
  refine (E_gfi (k := 0) c_132_32 sh_17 rfl rfl rfl (by decide)).trans ?_
  refine (E_br_ge (q := 110) c_132_35 rfl).trans (ax_ite ?_ ?_)
  · refine (E_al c_132_38 rfl (by decide)).trans ?_
    refine (E_il c_132_39 rfl).trans ?_
    refine (E_il c_132_41 rfl).trans ?_
    refine (E_cIV c_132_42 mi_127 rfl rfl (sO_kl sh_17) (Nat.le_of_ble_eq_true rfl) (Nat.le_of_ble_eq_true rfl)).trans (ax_bnd fun u0 => ?_)
    refine (E_b0_eq (q := 110) c_132_45 rfl).trans (ax_ite ?_ ?_)
    · refine (E_inc (v := (1 : Int32)) (L' := [.ref 17, .int x1, .int x2, .int x3, .int x4, .int x5, .int (x6 + (1 : Int32)), .int x7, w8]) c_132_110 rfl (by decide) rfl).trans ?_
      refine (E_goto (q := 14) c_132_113 rfl).trans ?_
      rfl
    · refine (E_al c_132_48 rfl (by decide)).trans ?_
      refine (E_il c_132_49 rfl).trans ?_
      refine (E_il c_132_51 rfl).trans ?_
      refine (E_cIV c_132_52 mi_127 rfl rfl (sO_kl sh_17) (Nat.le_of_ble_eq_true rfl) (Nat.le_of_ble_eq_true rfl)).trans (ax_bnd fun u1 => ?_)
      refine (E_b0_eq (q := 70) c_132_55 rfl).trans (ax_ite ?_ ?_)
      · refine (E_ic (v := (-1000000 : Int32)) c_132_70 (by decide)).trans ?_
        refine (E_is (L' := [.ref 17, .int x1, .int x2, .int x3, .int x4, .int x5, .int x6, .int x7, .int (-1000000 : Int32)]) c_132_72 (Nat.le_of_ble_eq_true rfl) rfl).trans ?_
        refine (E_il c_132_74 rfl).trans ?_
        refine (E_ic (v := (-1000000 : Int32)) c_132_76 (by decide)).trans ?_
        refine (E_br_eq (q := 104) c_132_78 rfl).trans ?_
        refine (if_pos (by decide)).trans ?_
        refine (E_inc (v := (1 : Int32)) (L' := [.ref 17, .int x1, .int x2, .int x3, .int x4, .int x5, .int x6, .int (x7 + (1 : Int32)), .int (-1000000 : Int32)]) c_132_104 rfl (by decide) rfl).trans ?_
        refine (E_goto (q := 29) c_132_107 rfl).trans ?_
        rfl
      · refine (E_al c_132_58 rfl (by decide)).trans ?_
        refine (E_il c_132_59 rfl).trans ?_
        refine (E_il c_132_60 rfl).trans ?_
        refine (E_il c_132_62 rfl).trans ?_
        refine (E_cIV c_132_64 mi_133 rfl rfl (sO_kl sh_17) (Nat.le_of_ble_eq_true rfl) (Nat.le_of_ble_eq_true rfl)).trans (ax_bnd fun u2 => ?_)
        refine (E_goto (q := 72) c_132_67 rfl).trans ?_
        refine (E_is (L' := [.ref 17, .int x1, .int x2, .int x3, .int x4, .int x5, .int x6, .int x7, .int u2.1]) c_132_72 (Nat.le_of_ble_eq_true rfl) rfl).trans ?_
        refine (E_il c_132_74 rfl).trans ?_
        refine (E_ic (v := (-1000000 : Int32)) c_132_76 (by decide)).trans ?_
        refine (E_br_eq (q := 104) c_132_78 rfl).trans (ax_ite ?_ ?_)
        · refine (E_inc (v := (1 : Int32)) (L' := [.ref 17, .int x1, .int x2, .int x3, .int x4, .int x5, .int x6, .int (x7 + (1 : Int32)), .int u2.1]) c_132_104 rfl (by decide) rfl).trans ?_
          refine (E_goto (q := 29) c_132_107 rfl).trans ?_
          rfl
        · refine (E_il c_132_81 rfl).trans ?_
          refine (E_ic (v := (-1000000 : Int32)) c_132_82 (by decide)).trans ?_
          refine (E_br_eq (q := 93) c_132_84 rfl).trans (ax_ite ?_ ?_)
          · refine (E_il c_132_93 rfl).trans ?_
            refine (E_is (L' := [.ref 17, .int x1, .int x2, .int u2.1, .int x4, .int x5, .int x6, .int x7, .int u2.1]) c_132_95 (Nat.le_of_ble_eq_true rfl) rfl).trans ?_
            refine (E_il c_132_96 rfl).trans ?_
            refine (E_is (L' := [.ref 17, .int x1, .int x2, .int u2.1, .int x6, .int x5, .int x6, .int x7, .int u2.1]) c_132_98 (Nat.le_of_ble_eq_true rfl) rfl).trans ?_
            refine (E_il c_132_100 rfl).trans ?_
            refine (E_is (L' := [.ref 17, .int x1, .int x2, .int u2.1, .int x6, .int x7, .int x6, .int x7, .int u2.1]) c_132_102 (Nat.le_of_ble_eq_true rfl) rfl).trans ?_
            refine (E_inc (v := (1 : Int32)) (L' := [.ref 17, .int x1, .int x2, .int u2.1, .int x6, .int x7, .int x6, .int (x7 + (1 : Int32)), .int u2.1]) c_132_104 rfl (by decide) rfl).trans ?_
            refine (E_goto (q := 29) c_132_107 rfl).trans ?_
            rfl
          · refine (E_il c_132_87 rfl).trans ?_
            refine (E_il c_132_89 rfl).trans ?_
            refine (E_br_ge (q := 104) c_132_90 rfl).trans (ax_ite ?_ ?_)
            · refine (E_il c_132_93 rfl).trans ?_
              refine (E_is (L' := [.ref 17, .int x1, .int x2, .int u2.1, .int x4, .int x5, .int x6, .int x7, .int u2.1]) c_132_95 (Nat.le_of_ble_eq_true rfl) rfl).trans ?_
              refine (E_il c_132_96 rfl).trans ?_
              refine (E_is (L' := [.ref 17, .int x1, .int x2, .int u2.1, .int x6, .int x5, .int x6, .int x7, .int u2.1]) c_132_98 (Nat.le_of_ble_eq_true rfl) rfl).trans ?_
              refine (E_il c_132_100 rfl).trans ?_
              refine (E_is (L' := [.ref 17, .int x1, .int x2, .int u2.1, .int x6, .int x7, .int x6, .int x7, .int u2.1]) c_132_102 (Nat.le_of_ble_eq_true rfl) rfl).trans ?_
              refine (E_inc (v := (1 : Int32)) (L' := [.ref 17, .int x1, .int x2, .int u2.1, .int x6, .int x7, .int x6, .int (x7 + (1 : Int32)), .int u2.1]) c_132_104 rfl (by decide) rfl).trans ?_
              refine (E_goto (q := 29) c_132_107 rfl).trans ?_
              rfl
            · refine (E_inc (v := (1 : Int32)) (L' := [.ref 17, .int x1, .int x2, .int x3, .int x4, .int x5, .int x6, .int (x7 + (1 : Int32)), .int u2.1]) c_132_104 rfl (by decide) rfl).trans ?_
              refine (E_goto (q := 29) c_132_107 rfl).trans ?_
              rfl
  · refine (E_inc (v := (1 : Int32)) (L' := [.ref 17, .int x1, .int x2, .int x3, .int x4, .int x5, .int (x6 + (1 : Int32)), .int x7, w8]) c_132_110 rfl (by decide) rfl).trans ?_
    refine (E_goto (q := 14) c_132_113 rfl).trans ?_
    rfl
set_option maxHeartbeats 4000000 in
theorem u_253_82 (d : Nat) (σ : ax_S) (x1 : Int32) (x2 : Int32) : ev sO (d + 1) 253 0 [.ref 82, .int x1, .int x2, .null, .null] [] σ = (cI sO d 232 [.ref 82, .int x1, .int (2 : Int32)] σ).bind fun u0 => (cI sO d 232 [.ref 82, .int x2, .int (2 : Int32)] u0.2).bind fun u1 => if u0.1 < u1.1 then (some (some (.int (1 : Int32)), u1.2)) else (if u0.1 = u1.1 then (if x1 < x2 then (some (some (.int (1 : Int32)), u1.2)) else (some (some (.int (0 : Int32)), u1.2))) else (some (some (.int (0 : Int32)), u1.2))) := by
  refine (E_al c_253_0 rfl (by decide)).trans ?_
  refine (E_il c_253_1 rfl).trans ?_
  refine (E_ic (v := (2 : Int32)) c_253_2 (by decide)).trans ?_
  refine (E_cIV c_253_3 mi_232 rfl rfl (sO_kl sh_82) (Nat.le_of_ble_eq_true rfl) (Nat.le_of_ble_eq_true rfl)).trans (ax_bnd fun u0 => ?_)
  refine (E_is (L' := [.ref 82, .int x1, .int x2, .int u0.1, .null]) c_253_6 (Nat.le_of_ble_eq_true rfl) rfl).trans ?_
  refine (E_al c_253_7 rfl (by decide)).trans ?_
  refine (E_il c_253_8 rfl).trans ?_
  refine (E_ic (v := (2 : Int32)) c_253_9 (by decide)).trans ?_
  refine (E_cIV c_253_10 mi_232 rfl rfl (sO_kl sh_82) (Nat.le_of_ble_eq_true rfl) (Nat.le_of_ble_eq_true rfl)).trans (ax_bnd fun u1 => ?_)
  refine (E_is (L' := [.ref 82, .int x1, .int x2, .int u0.1, .int u1.1]) c_253_13 (Nat.le_of_ble_eq_true rfl) rfl).trans ?_
  refine (E_il c_253_15 rfl).trans ?_
  refine (E_il c_253_16 rfl).trans ?_
  refine (E_br_lt (q := 32) c_253_18 rfl).trans (ax_ite ?_ ?_)
  · refine (E_ic (v := (1 : Int32)) c_253_32 (by decide)).trans ?_
    refine (E_goto (q := 37) c_253_33 rfl).trans ?_
    exact E_rZ (v := (1 : Int32)) c_253_37 mi_253 (by decide)
  · refine (E_il c_253_21 rfl).trans ?_
    refine (E_il c_253_22 rfl).trans ?_
    refine (E_br_ne (q := 36) c_253_24 rfl).trans (ax_ite ?_ ?_)
    · refine (E_il c_253_27 rfl).trans ?_
      refine (E_il c_253_28 rfl).trans ?_
      refine (E_br_ge (q := 36) c_253_29 rfl).trans (ax_ite ?_ ?_)
      · refine (E_ic (v := (1 : Int32)) c_253_32 (by decide)).trans ?_
        refine (E_goto (q := 37) c_253_33 rfl).trans ?_
        exact E_rZ (v := (1 : Int32)) c_253_37 mi_253 (by decide)
      · refine (E_ic (v := (0 : Int32)) c_253_36 (by decide)).trans ?_
        exact E_rZ (v := (0 : Int32)) c_253_37 mi_253 (by decide)
    · refine (E_ic (v := (0 : Int32)) c_253_36 (by decide)).trans ?_
      exact E_rZ (v := (0 : Int32)) c_253_37 mi_253 (by decide)
set_option maxHeartbeats 4000000 in
theorem u_256_82 (d : Nat) (σ : ax_S) (x1 : Int32) (x2 : Int32) (x3 : Int32) : ev sO (d + 2) 256 0 [.ref 82, .int x1, .int x2, .int x3] [] σ = (cI sO (d + 1) 234 [.ref 82, .int x1, .int x3] σ).bind fun u0 => if u0.1 = 0 then (some (some (.int (0 : Int32)), u0.2)) else ((cI sO (d + 1) 234 [.ref 82, .int x2, .int x3] u0.2).bind fun u1 => if u1.1 = 0 then (some (some (.int (0 : Int32)), u1.2)) else ((cI sO (d + 1) 235 [.ref 82, .int x1, .int x3] u1.2).bind fun u2 => (cI sO (d + 1) 235 [.ref 82, .int x2, .int x3] u2.2).bind fun u3 => if u2.1 = u3.1 then (some (some (.int (1 : Int32)), u3.2)) else (some (some (.int (0 : Int32)), u3.2)))) := by
  refine (E_al c_256_0 rfl (by decide)).trans ?_
  refine (E_il c_256_1 rfl).trans ?_
  refine (E_il c_256_2 rfl).trans ?_
  refine (E_cIV c_256_3 mi_234 rfl rfl (sO_kl sh_82) (Nat.le_of_ble_eq_true rfl) (Nat.le_of_ble_eq_true rfl)).trans (ax_bnd fun u0 => ?_)
  refine (E_b0_eq (q := 37) c_256_6 rfl).trans (ax_ite ?_ ?_)
  · refine (E_ic (v := (0 : Int32)) c_256_37 (by decide)).trans ?_
    exact E_rZ (v := (0 : Int32)) c_256_38 mi_256 (by decide)
  · refine (E_al c_256_9 rfl (by decide)).trans ?_
    refine (E_il c_256_10 rfl).trans ?_
    refine (E_il c_256_11 rfl).trans ?_
    refine (E_cIV c_256_12 mi_234 rfl rfl (sO_kl sh_82) (Nat.le_of_ble_eq_true rfl) (Nat.le_of_ble_eq_true rfl)).trans (ax_bnd fun u1 => ?_)
    refine (E_b0_eq (q := 37) c_256_15 rfl).trans (ax_ite ?_ ?_)
    · refine (E_ic (v := (0 : Int32)) c_256_37 (by decide)).trans ?_
      exact E_rZ (v := (0 : Int32)) c_256_38 mi_256 (by decide)
    · refine (E_al c_256_18 rfl (by decide)).trans ?_
      refine (E_il c_256_19 rfl).trans ?_
      refine (E_il c_256_20 rfl).trans ?_
      refine (E_cIV c_256_21 mi_235 rfl rfl (sO_kl sh_82) (Nat.le_of_ble_eq_true rfl) (Nat.le_of_ble_eq_true rfl)).trans (ax_bnd fun u2 => ?_)
      refine (E_al c_256_24 rfl (by decide)).trans ?_
      refine (E_il c_256_25 rfl).trans ?_
      refine (E_il c_256_26 rfl).trans ?_
      refine (E_cIV c_256_27 mi_235 rfl rfl (sO_kl sh_82) (Nat.le_of_ble_eq_true rfl) (Nat.le_of_ble_eq_true rfl)).trans (ax_bnd fun u3 => ?_)
      refine (E_br_ne (q := 37) c_256_30 rfl).trans (ax_ite ?_ ?_)
      · refine (E_ic (v := (1 : Int32)) c_256_33 (by decide)).trans ?_
        refine (E_goto (q := 38) c_256_34 rfl).trans ?_
        exact E_rZ (v := (1 : Int32)) c_256_38 mi_256 (by decide)
      · refine (E_ic (v := (0 : Int32)) c_256_37 (by decide)).trans ?_
        exact E_rZ (v := (0 : Int32)) c_256_38 mi_256 (by decide)
set_option maxHeartbeats 4000000 in
theorem u_135_0 (d : Nat) (σ : ax_S) (x1 : Int32) : ev sO (d + 1) 135 0 [.ref 0, .int x1, .null] [] σ = if x1 < 0 then (some (some (.int (0 : Int32)), σ)) else ((cI sO d 124 [.ref 17] σ).bind fun u0 => if (x1 >>> (u0.1 &&& 31)) = 0 then ((cI sO d 120 [.int x1] u0.2).bind fun u1 => if u1.1 < (2 : Int32) then (some (some (.int (0 : Int32)), u1.2)) else (if (6 : Int32) < u1.1 then (some (some (.int (0 : Int32)), u1.2)) else (some (some (.int (1 : Int32)), u1.2)))) else (some (some (.int (0 : Int32)), u0.2))) := by
  refine (E_il c_135_0 rfl).trans ?_
  refine (E_b0_lt (q := 19) c_135_1 rfl).trans (ax_ite ?_ ?_)
  · refine (E_ic (v := (0 : Int32)) c_135_19 (by decide)).trans ?_
    exact E_rZ (v := (0 : Int32)) c_135_20 mi_135 (by decide)
  · refine (E_il c_135_4 rfl).trans ?_
    refine (E_al c_135_5 rfl (by decide)).trans ?_
    refine (E_gfr (k := 2) (r := 7) c_135_6 sh_0 rfl rfl rfl).trans ?_
    refine (E_gfr (k := 1) (r := 17) c_135_9 sh_7 rfl rfl rfl).trans ?_
    refine (E_cIV c_135_12 mi_124 rfl rfl (sO_kl sh_17) (Nat.le_of_ble_eq_true rfl) (Nat.le_of_ble_eq_true rfl)).trans (ax_bnd fun u0 => ?_)
    refine (E_ishr c_135_15).trans ?_
    refine (E_b0_eq (q := 21) c_135_16 rfl).trans (ax_ite ?_ ?_)
    · refine (E_il c_135_21 rfl).trans ?_
      refine (E_cIS c_135_22 mi_120 rfl rfl (Nat.le_of_ble_eq_true rfl) (Nat.le_of_ble_eq_true rfl)).trans (ax_bnd fun u1 => ?_)
      refine (E_is (L' := [.ref 0, .int x1, .int u1.1]) c_135_25 (Nat.le_of_ble_eq_true rfl) rfl).trans ?_
      refine (E_il c_135_26 rfl).trans ?_
      refine (E_ic (v := (2 : Int32)) c_135_27 (by decide)).trans ?_
      refine (E_br_lt (q := 41) c_135_28 rfl).trans (ax_ite ?_ ?_)
      · refine (E_ic (v := (0 : Int32)) c_135_41 (by decide)).trans ?_
        exact E_rZ (v := (0 : Int32)) c_135_42 mi_135 (by decide)
      · refine (E_il c_135_31 rfl).trans ?_
        refine (E_ic (v := (6 : Int32)) c_135_32 (by decide)).trans ?_
        refine (E_br_gt (q := 41) c_135_34 rfl).trans (ax_ite ?_ ?_)
        · refine (E_ic (v := (0 : Int32)) c_135_41 (by decide)).trans ?_
          exact E_rZ (v := (0 : Int32)) c_135_42 mi_135 (by decide)
        · refine (E_ic (v := (1 : Int32)) c_135_37 (by decide)).trans ?_
          refine (E_goto (q := 42) c_135_38 rfl).trans ?_
          exact E_rZ (v := (1 : Int32)) c_135_42 mi_135 (by decide)
    · refine (E_ic (v := (0 : Int32)) c_135_19 (by decide)).trans ?_
      exact E_rZ (v := (0 : Int32)) c_135_20 mi_135 (by decide)
set_option maxHeartbeats 4000000 in
theorem u_136_66_17 (d : Nat) (σ : ax_S) (x2 : Int32) : ev sO (d + 3) 136 0 [.ref 66, .ref 17, .int x2, .null] [] σ = (cV sO (d + 2) 137 [.ref 67, .ref 17, .int x2] σ).bind fun u0 => (cI sO (d + 2) 140 [.ref 66] u0).bind fun u1 => if u1.1 = 0 then (some (none, u1.2)) else (ev sO (d + 3) 136 24 [.ref 66, .ref 17, .int x2, .int (2 : Int32)] [] (sI u1.2 66 14 (1 : Int32))) := by
  refine (E_al c_136_0 rfl (by decide)).trans ?_
  refine (E_gfr (k := 0) (r := 67) c_136_1 sh_66 rfl rfl rfl).trans ?_
  refine (E_al c_136_4 rfl (by decide)).trans ?_
  refine (E_il c_136_5 rfl).trans ?_
  refine (E_cVV c_136_6 mi_137 rfl (sO_kl sh_67) (Nat.le_of_ble_eq_true rfl) (Nat.le_of_ble_eq_true rfl)).trans (ax_bnd fun u0 => ?_)
  refine (E_al c_136_9 rfl (by decide)).trans ?_
  refine (E_cIV c_136_10 mi_140 rfl rfl (sO_kl sh_66) (Nat.le_of_ble_eq_true rfl) (Nat.le_of_ble_eq_true rfl)).trans (ax_bnd fun u1 => ?_)
  refine (E_b0_ne (q := 17) c_136_13 rfl).trans (ax_ite ?_ ?_)
  · exact E_rV c_136_16 mi_136
  · refine (E_al c_136_17 rfl (by decide)).trans ?_
    refine (E_ic (v := (1 : Int32)) c_136_18 (by decide)).trans ?_
    refine (E_pfi (k := 14) c_136_19 sh_66 rfl rfl rfl).trans ?_
    refine (E_ic (v := (2 : Int32)) c_136_22 (by decide)).trans ?_
    refine (E_is (L' := [.ref 66, .ref 17, .int x2, .int (2 : Int32)]) c_136_23 (Nat.le_of_ble_eq_true rfl) rfl).trans ?_
    rfl
set_option maxHeartbeats 4000000 in
theorem u_136_66_17p24 (d : Nat) (σ : ax_S) (w1 : Value) (hw1 : w1.category = 1) (w2 : Value) (hw2 : w2.category = 1) (x3 : Int32) : ev sO (d + 3) 136 24 [.ref 66, w1, w2, .int x3] [] σ = if x3 < (σ.1 66 1) then (ev sO (d + 3) 136 24 [.ref 66, w1, w2, .int (x3 + (1 : Int32))] [] (sI σ 66 14 ((σ.1 66 14) * (((2 : Int32) * x3) - (1 : Int32))))) else ((cV sO (d + 2) 144 [.ref 66] (sI (sI σ 66 12 (66 : Int32)) 66 13 (0 : Int32))).bind fun u0 => ev sO (d + 3) 136 69 [.ref 66, w1, w2, .int (0 : Int32)] [] u0) := by
  refine (E_il c_136_24 rfl).trans ?_
  refine (E_al c_136_25 rfl (by decide)).trans ?_
  refine (E_gfi (k := 1) c_136_26 sh_66 rfl rfl rfl (by decide)).trans ?_
  refine (E_br_ge (q := 52) c_136_29 rfl).trans (ax_ite ?_ ?_)
  · refine (E_al c_136_32 rfl (by decide)).trans ?_
    refine (E_al c_136_33 rfl (by decide)).trans ?_
    refine (E_gfi (k := 14) c_136_34 sh_66 rfl rfl rfl (by decide)).trans ?_
    refine (E_ic (v := (2 : Int32)) c_136_37 (by decide)).trans ?_
    refine (E_il c_136_38 rfl).trans ?_
    refine (E_imul c_136_39).trans ?_
    refine (E_ic (v := (1 : Int32)) c_136_40 (by decide)).trans ?_
    refine (E_isub c_136_41).trans ?_
    refine (E_imul c_136_42).trans ?_
    refine (E_pfi (k := 14) c_136_43 sh_66 rfl rfl rfl).trans ?_
    refine (E_inc (v := (1 : Int32)) (L' := [.ref 66, w1, w2, .int (x3 + (1 : Int32))]) c_136_46 rfl (by decide) (by simp [ax_st1, ax_drp, hw2])).trans ?_
    refine (E_goto (q := 24) c_136_49 rfl).trans ?_
    rfl
  · refine (E_al c_136_52 rfl (by decide)).trans ?_
    refine (E_ic (v := (66 : Int32)) c_136_53 (by decide)).trans ?_
    refine (E_pfi (k := 12) c_136_55 sh_66 rfl rfl rfl).trans ?_
    refine (E_al c_136_58 rfl (by decide)).trans ?_
    refine (E_ic (v := (0 : Int32)) c_136_59 (by decide)).trans ?_
    refine (E_pfi (k := 13) c_136_60 sh_66 rfl rfl rfl).trans ?_
    refine (E_al c_136_63 rfl (by decide)).trans ?_
    refine (E_cVV c_136_64 mi_144 rfl (sO_kl sh_66) (Nat.le_of_ble_eq_true rfl) (Nat.le_of_ble_eq_true rfl)).trans (ax_bnd fun u0 => ?_)
    refine (E_ic (v := (0 : Int32)) c_136_67 (by decide)).trans ?_
    refine (E_is (L' := [.ref 66, w1, w2, .int (0 : Int32)]) c_136_68 (Nat.le_of_ble_eq_true rfl) (by simp [ax_st1, ax_st2, ax_drp, hw2])).trans ?_
    rfl
set_option maxHeartbeats 4000000 in
theorem u_136_66_17p69 (d : Nat) (σ : ax_S) (w1 : Value) (hw1 : w1.category = 1) (w2 : Value) (hw2 : w2.category = 1) (x3 : Int32) : ev sO (d + 3) 136 69 [.ref 66, w1, w2, .int x3] [] σ = if x3 < (σ.1 66 14) then ((cV sO (d + 2) 145 [.ref 66, .int x3] σ).bind fun u0 => (cV sO (d + 2) 147 [.ref 66] u0).bind fun u1 => (cV sO (d + 2) 148 [.ref 66] u1).bind fun u2 => ev sO (d + 3) 136 69 [.ref 66, w1, w2, .int (x3 + (1 : Int32))] [] u2) else (some (none, σ)) := by
  refine (E_il c_136_69 rfl).trans ?_
  refine (E_al c_136_70 rfl (by decide)).trans ?_
  refine (E_gfi (k := 14) c_136_71 sh_66 rfl rfl rfl (by decide)).trans ?_
  refine (E_br_ge (q := 96) c_136_74 rfl).trans (ax_ite ?_ ?_)
  · refine (E_al c_136_77 rfl (by decide)).trans ?_
    refine (E_il c_136_78 rfl).trans ?_
    refine (E_cVV c_136_79 mi_145 rfl (sO_kl sh_66) (Nat.le_of_ble_eq_true rfl) (Nat.le_of_ble_eq_true rfl)).trans (ax_bnd fun u0 => ?_)
    refine (E_al c_136_82 rfl (by decide)).trans ?_
    refine (E_cVV c_136_83 mi_147 rfl (sO_kl sh_66) (Nat.le_of_ble_eq_true rfl) (Nat.le_of_ble_eq_true rfl)).trans (ax_bnd fun u1 => ?_)
    refine (E_al c_136_86 rfl (by decide)).trans ?_
    refine (E_cVV c_136_87 mi_148 rfl (sO_kl sh_66) (Nat.le_of_ble_eq_true rfl) (Nat.le_of_ble_eq_true rfl)).trans (ax_bnd fun u2 => ?_)
    refine (E_inc (v := (1 : Int32)) (L' := [.ref 66, w1, w2, .int (x3 + (1 : Int32))]) c_136_90 rfl (by decide) (by simp [ax_st1, ax_drp, hw2])).trans ?_
    refine (E_goto (q := 69) c_136_93 rfl).trans ?_
    rfl
  · exact E_rV c_136_96 mi_136
set_option maxHeartbeats 4000000 in
theorem u_150_66 (d : Nat) (σ : ax_S) : ev sO d 150 0 [.ref 66] [] σ = some (some (.int (σ.1 66 12)), σ) := by
  refine (E_al c_150_0 rfl (by decide)).trans ?_
  refine (E_gfi (k := 12) c_150_1 sh_66 rfl rfl rfl (by decide)).trans ?_
  exact E_rI c_150_4 mi_150
set_option maxHeartbeats 4000000 in
theorem u_151_66 (d : Nat) (σ : ax_S) : ev sO d 151 0 [.ref 66] [] σ = some (some (.int (σ.1 66 13)), σ) := by
  refine (E_al c_151_0 rfl (by decide)).trans ?_
  refine (E_gfi (k := 13) c_151_1 sh_66 rfl rfl rfl (by decide)).trans ?_
  exact E_rI c_151_4 mi_151
set_option maxHeartbeats 4000000 in
theorem u_152_66 (d : Nat) (σ : ax_S) : ev sO d 152 0 [.ref 66] [] σ = some (some (.int (σ.1 66 14)), σ) := by
  refine (E_al c_152_0 rfl (by decide)).trans ?_
  refine (E_gfi (k := 14) c_152_1 sh_66 rfl rfl rfl (by decide)).trans ?_
  exact E_rI c_152_4 mi_152
set_option maxHeartbeats 4000000 in
theorem u_258_82 (d : Nat) (σ : ax_S) (x1 : Int32) : ev sO (d + 1) 258 0 [.ref 82, .int x1, .null] [] σ = (cI sO d 198 [.long x1.toInt64, .long (0 : Int64), .long ((((1 : Int32) <<< ((σ.1 88 0) &&& 31)) - (1 : Int32)).toInt64)] σ).bind fun u0 => if u0.1 = 0 then (some (some (.int (0 : Int32)), u0.2)) else ((cI sO d 240 [.int x1] u0.2).bind fun u1 => (cI sO d 198 [.long u1.1.toInt64, .long (2 : Int64), .long (6 : Int64)] u1.2).bind fun u2 => if u2.1 = 0 then (some (some (.int (0 : Int32)), u2.2)) else (ev sO (d + 1) 258 46 [.ref 82, .int x1, .int (0 : Int32)] [] (sI u2.2 82 25 (0 : Int32)))) := by
  refine (E_il c_258_0 rfl).trans ?_
  refine (E_i2l c_258_1).trans ?_
  refine (E_lc (v := (0 : Int64)) c_258_2 (by decide)).trans ?_
  refine (E_ic (v := (1 : Int32)) c_258_3 (by decide)).trans ?_
  refine (E_al c_258_4 rfl (by decide)).trans ?_
  refine (E_gfr (k := 8) (r := 88) c_258_5 sh_82 rfl rfl rfl).trans ?_
  refine (E_ic (v := (0 : Int32)) c_258_8 (by decide)).trans ?_
  refine (E_ialk (k := 0) c_258_9 sh_88 (by decide) (by decide)).trans ?_
  refine (E_ishl c_258_10).trans ?_
  refine (E_ic (v := (1 : Int32)) c_258_11 (by decide)).trans ?_
  refine (E_isub c_258_12).trans ?_
  refine (E_i2l c_258_13).trans ?_
  refine (E_cIS c_258_14 mi_198 rfl rfl (Nat.le_of_ble_eq_true rfl) (Nat.le_of_ble_eq_true rfl)).trans (ax_bnd fun u0 => ?_)
  refine (E_b0_eq (q := 37) c_258_17 rfl).trans (ax_ite ?_ ?_)
  · refine (E_ic (v := (0 : Int32)) c_258_37 (by decide)).trans ?_
    exact E_rZ (v := (0 : Int32)) c_258_38 mi_258 (by decide)
  · refine (E_il c_258_20 rfl).trans ?_
    refine (E_cIS c_258_21 mi_240 rfl rfl (Nat.le_of_ble_eq_true rfl) (Nat.le_of_ble_eq_true rfl)).trans (ax_bnd fun u1 => ?_)
    refine (E_i2l c_258_24).trans ?_
    refine (E_l2 (v := (2 : Int64)) c_258_25 (by decide)).trans ?_
    refine (E_l2 (v := (6 : Int64)) c_258_28 (by decide)).trans ?_
    refine (E_cIS c_258_31 mi_198 rfl rfl (Nat.le_of_ble_eq_true rfl) (Nat.le_of_ble_eq_true rfl)).trans (ax_bnd fun u2 => ?_)
    refine (E_b0_ne (q := 39) c_258_34 rfl).trans (ax_ite ?_ ?_)
    · refine (E_ic (v := (0 : Int32)) c_258_37 (by decide)).trans ?_
      exact E_rZ (v := (0 : Int32)) c_258_38 mi_258 (by decide)
    · refine (E_al c_258_39 rfl (by decide)).trans ?_
      refine (E_ic (v := (0 : Int32)) c_258_40 (by decide)).trans ?_
      refine (E_pfi (k := 25) c_258_41 sh_82 rfl rfl rfl).trans ?_
      refine (E_ic (v := (0 : Int32)) c_258_44 (by decide)).trans ?_
      refine (E_is (L' := [.ref 82, .int x1, .int (0 : Int32)]) c_258_45 (Nat.le_of_ble_eq_true rfl) rfl).trans ?_
      rfl
set_option maxHeartbeats 4000000 in
theorem u_258_82p46 (d : Nat) (σ : ax_S) (x1 : Int32) (x2 : Int32) : ev sO (d + 1) 258 46 [.ref 82, .int x1, .int x2] [] σ = if x2 < (σ.1 88 0) then (if ((x1 >>> (x2 &&& 31)) &&& (1 : Int32)) = (1 : Int32) then (gd (0 ≤ (σ.1 82 25).toInt ∧ (σ.1 82 25).toInt < (6 : Nat)) (ev sO (d + 1) 258 46 [.ref 82, .int x1, .int (x2 + (1 : Int32))] [] (sI (sI σ 91 (σ.1 82 25).toNatClampNeg x2) 82 25 (((sI σ 91 (σ.1 82 25).toNatClampNeg x2).1 82 25) + (1 : Int32))))) else (ev sO (d + 1) 258 46 [.ref 82, .int x1, .int (x2 + (1 : Int32))] [] σ)) else (some (some (.int (1 : Int32)), σ)) := by
  refine (E_il c_258_46 rfl).trans ?_
  refine (E_al c_258_47 rfl (by decide)).trans ?_
  refine (E_gfr (k := 8) (r := 88) c_258_48 sh_82 rfl rfl rfl).trans ?_
  refine (E_ic (v := (0 : Int32)) c_258_51 (by decide)).trans ?_
  refine (E_ialk (k := 0) c_258_52 sh_88 (by decide) (by decide)).trans ?_
  refine (E_br_ge (q := 91) c_258_53 rfl).trans (ax_ite ?_ ?_)
  · refine (E_il c_258_56 rfl).trans ?_
    refine (E_il c_258_57 rfl).trans ?_
    refine (E_ishr c_258_58).trans ?_
    refine (E_ic (v := (1 : Int32)) c_258_59 (by decide)).trans ?_
    refine (E_iand c_258_60).trans ?_
    refine (E_ic (v := (1 : Int32)) c_258_61 (by decide)).trans ?_
    refine (E_br_ne (q := 85) c_258_62 rfl).trans (ax_ite ?_ ?_)
    · refine (E_al c_258_65 rfl (by decide)).trans ?_
      refine (E_gfr (k := 24) (r := 91) c_258_66 sh_82 rfl rfl rfl).trans ?_
      refine (E_al c_258_69 rfl (by decide)).trans ?_
      refine (E_gfi (k := 25) c_258_70 sh_82 rfl rfl rfl (by decide)).trans ?_
      refine (E_il c_258_73 rfl).trans ?_
      refine (E_ias (v := x2) c_258_74 sh_91 rfl).trans (ax_gd ?_)
      refine (E_al c_258_75 rfl (by decide)).trans ?_
      refine (E_dup c_258_76 rfl).trans ?_
      refine (E_gfi (k := 25) c_258_77 sh_82 rfl rfl rfl (by decide)).trans ?_
      refine (E_ic (v := (1 : Int32)) c_258_80 (by decide)).trans ?_
      refine (E_iadd c_258_81).trans ?_
      refine (E_pfi (k := 25) c_258_82 sh_82 rfl rfl rfl).trans ?_
      refine (E_inc (v := (1 : Int32)) (L' := [.ref 82, .int x1, .int (x2 + (1 : Int32))]) c_258_85 rfl (by decide) rfl).trans ?_
      refine (E_goto (q := 46) c_258_88 rfl).trans ?_
      rfl
    · refine (E_inc (v := (1 : Int32)) (L' := [.ref 82, .int x1, .int (x2 + (1 : Int32))]) c_258_85 rfl (by decide) rfl).trans ?_
      refine (E_goto (q := 46) c_258_88 rfl).trans ?_
      rfl
  · refine (E_ic (v := (1 : Int32)) c_258_91 (by decide)).trans ?_
    exact E_rZ (v := (1 : Int32)) c_258_92 mi_258 (by decide)
set_option maxHeartbeats 4000000 in
theorem u_259_82 (d : Nat) (σ : ax_S) : ev sO d 259 0 [.ref 82, .null, .null] [] σ = ev sO d 259 4 [.ref 82, .int (1 : Int32), .int (2 : Int32)] [] σ := by
  refine (E_ic (v := (1 : Int32)) c_259_0 (by decide)).trans ?_
  refine (E_is (L' := [.ref 82, .int (1 : Int32), .null]) c_259_1 (Nat.le_of_ble_eq_true rfl) rfl).trans ?_
  refine (E_ic (v := (2 : Int32)) c_259_2 (by decide)).trans ?_
  refine (E_is (L' := [.ref 82, .int (1 : Int32), .int (2 : Int32)]) c_259_3 (Nat.le_of_ble_eq_true rfl) rfl).trans ?_
  rfl
set_option maxHeartbeats 4000000 in
theorem u_259_82p4 (d : Nat) (σ : ax_S) (x1 : Int32) (x2 : Int32) : ev sO d 259 4 [.ref 82, .int x1, .int x2] [] σ = if x2 < (σ.1 82 25) then (ev sO d 259 4 [.ref 82, .int (x1 * (((2 : Int32) * x2) - (1 : Int32))), .int (x2 + (1 : Int32))] [] σ) else (some (some (.int x1), σ)) := by
  refine (E_il c_259_4 rfl).trans ?_
  refine (E_al c_259_5 rfl (by decide)).trans ?_
  refine (E_gfi (k := 25) c_259_6 sh_82 rfl rfl rfl (by decide)).trans ?_
  refine (E_br_ge (q := 26) c_259_9 rfl).trans (ax_ite ?_ ?_)
  · refine (E_il c_259_12 rfl).trans ?_
    refine (E_ic (v := (2 : Int32)) c_259_13 (by decide)).trans ?_
    refine (E_il c_259_14 rfl).trans ?_
    refine (E_imul c_259_15).trans ?_
    refine (E_ic (v := (1 : Int32)) c_259_16 (by decide)).trans ?_
    refine (E_isub c_259_17).trans ?_
    refine (E_imul c_259_18).trans ?_
    refine (E_is (L' := [.ref 82, .int (x1 * (((2 : Int32) * x2) - (1 : Int32))), .int x2]) c_259_19 (Nat.le_of_ble_eq_true rfl) rfl).trans ?_
    refine (E_inc (v := (1 : Int32)) (L' := [.ref 82, .int (x1 * (((2 : Int32) * x2) - (1 : Int32))), .int (x2 + (1 : Int32))]) c_259_20 rfl (by decide) rfl).trans ?_
    refine (E_goto (q := 4) c_259_23 rfl).trans ?_
    rfl
  · refine (E_il c_259_26 rfl).trans ?_
    exact E_rI c_259_27 mi_259
set_option maxHeartbeats 4000000 in
theorem u_260_82 (d : Nat) (σ : ax_S) : ev sO (d + 5) 260 0 [.ref 82, .null, .null, .null, .null] [] σ = (cI sO (d + 4) 259 [.ref 82] σ).bind fun u0 => ev sO (d + 5) 260 18 [.ref 82, .int u0.1, .int (0 : Int32), .null, .null] [] (sI (sI u0.2 82 34 (-1000000 : Int32)) 82 35 (0 : Int32)) := by
  refine (E_al c_260_0 rfl (by decide)).trans ?_
  refine (E_cIV c_260_1 mi_259 rfl rfl (sO_kl sh_82) (Nat.le_of_ble_eq_true rfl) (Nat.le_of_ble_eq_true rfl)).trans (ax_bnd fun u0 => ?_)
  refine (E_is (L' := [.ref 82, .int u0.1, .null, .null, .null]) c_260_4 (Nat.le_of_ble_eq_true rfl) rfl).trans ?_
  refine (E_al c_260_5 rfl (by decide)).trans ?_
  refine (E_ic (v := (-1000000 : Int32)) c_260_6 (by decide)).trans ?_
  refine (E_pfi (k := 34) c_260_8 sh_82 rfl rfl rfl).trans ?_
  refine (E_al c_260_11 rfl (by decide)).trans ?_
  refine (E_ic (v := (0 : Int32)) c_260_12 (by decide)).trans ?_
  refine (E_pfi (k := 35) c_260_13 sh_82 rfl rfl rfl).trans ?_
  refine (E_ic (v := (0 : Int32)) c_260_16 (by decide)).trans ?_
  refine (E_is (L' := [.ref 82, .int u0.1, .int (0 : Int32), .null, .null]) c_260_17 (Nat.le_of_ble_eq_true rfl) rfl).trans ?_
  rfl
set_option maxHeartbeats 4000000 in
theorem u_260_82p18 (d : Nat) (σ : ax_S) (x1 : Int32) (x2 : Int32) (w3 : Value) (hw3 : w3.category = 1) (w4 : Value) (hw4 : w4.category = 1) : ev sO (d + 5) 260 18 [.ref 82, .int x1, .int x2, w3, w4] [] σ = if x2 < x1 then ((cV sO (d + 4) 261 [.ref 82, .int x2] σ).bind fun u0 => (cI sO (d + 4) 263 [.ref 82] u0).bind fun u1 => if (u1.2.1 82 34) = (-1000000 : Int32) then (ev sO (d + 5) 260 53 [.ref 82, .int x1, .int x2, .int u1.1, .int (0 : Int32)] [] u1.2) else (if u1.1 < (u1.2.1 82 34) then (ev sO (d + 5) 260 53 [.ref 82, .int x1, .int x2, .int u1.1, .int (0 : Int32)] [] u1.2) else (if u1.1 = (u1.2.1 82 34) then (gd (0 ≤ x2.toInt ∧ x2.toInt < (945 : Nat)) (if u1.1 = ((sI u1.2 98 x2.toNatClampNeg (1 : Int32)).1 82 34) then (ev sO (d + 5) 260 18 [.ref 82, .int x1, .int (x2 + (1 : Int32)), .int u1.1, w4] [] (sI (sI u1.2 98 x2.toNatClampNeg (1 : Int32)) 82 35 (((sI u1.2 98 x2.toNatClampNeg (1 : Int32)).1 82 35) + (1 : Int32)))) else (ev sO (d + 5) 260 18 [.ref 82, .int x1, .int (x2 + (1 : Int32)), .int u1.1, w4] [] (sI (sI u1.2 98 x2.toNatClampNeg (1 : Int32)) 82 35 (((sI u1.2 98 x2.toNatClampNeg (1 : Int32)).1 82 35) + (0 : Int32)))))) else (gd (0 ≤ x2.toInt ∧ x2.toInt < (945 : Nat)) (if u1.1 = ((sI u1.2 98 x2.toNatClampNeg (0 : Int32)).1 82 34) then (ev sO (d + 5) 260 18 [.ref 82, .int x1, .int (x2 + (1 : Int32)), .int u1.1, w4] [] (sI (sI u1.2 98 x2.toNatClampNeg (0 : Int32)) 82 35 (((sI u1.2 98 x2.toNatClampNeg (0 : Int32)).1 82 35) + (1 : Int32)))) else (ev sO (d + 5) 260 18 [.ref 82, .int x1, .int (x2 + (1 : Int32)), .int u1.1, w4] [] (sI (sI u1.2 98 x2.toNatClampNeg (0 : Int32)) 82 35 (((sI u1.2 98 x2.toNatClampNeg (0 : Int32)).1 82 35) + (0 : Int32))))))))) else (some (none, σ)) := by
  refine (E_il c_260_18 rfl).trans ?_
  refine (E_il c_260_19 rfl).trans ?_
  refine (E_br_ge (q := 130) c_260_20 rfl).trans (ax_ite ?_ ?_)
  · refine (E_al c_260_23 rfl (by decide)).trans ?_
    refine (E_il c_260_24 rfl).trans ?_
    refine (E_cVV c_260_25 mi_261 rfl (sO_kl sh_82) (Nat.le_of_ble_eq_true rfl) (Nat.le_of_ble_eq_true rfl)).trans (ax_bnd fun u0 => ?_)
    refine (E_al c_260_28 rfl (by decide)).trans ?_
    refine (E_cIV c_260_29 mi_263 rfl rfl (sO_kl sh_82) (Nat.le_of_ble_eq_true rfl) (Nat.le_of_ble_eq_true rfl)).trans (ax_bnd fun u1 => ?_)
    refine (E_is (L' := [.ref 82, .int x1, .int x2, .int u1.1, w4]) c_260_32 (Nat.le_of_ble_eq_true rfl) rfl).trans ?_
    refine (E_al c_260_33 rfl (by decide)).trans ?_
    refine (E_gfi (k := 34) c_260_34 sh_82 rfl rfl rfl (by decide)).trans ?_
    refine (E_ic (v := (-1000000 : Int32)) c_260_37 (by decide)).trans ?_
    refine (E_br_eq (q := 50) c_260_39 rfl).trans (ax_ite ?_ ?_)
    · refine (E_ic (v := (0 : Int32)) c_260_50 (by decide)).trans ?_
      refine (E_is (L' := [.ref 82, .int x1, .int x2, .int u1.1, .int (0 : Int32)]) c_260_51 (Nat.le_of_ble_eq_true rfl) rfl).trans ?_
      rfl
    · refine (E_il c_260_42 rfl).trans ?_
      refine (E_al c_260_43 rfl (by decide)).trans ?_
      refine (E_gfi (k := 34) c_260_44 sh_82 rfl rfl rfl (by decide)).trans ?_
      refine (E_br_ge (q := 83) c_260_47 rfl).trans (ax_ite ?_ ?_)
      · refine (E_ic (v := (0 : Int32)) c_260_50 (by decide)).trans ?_
        refine (E_is (L' := [.ref 82, .int x1, .int x2, .int u1.1, .int (0 : Int32)]) c_260_51 (Nat.le_of_ble_eq_true rfl) rfl).trans ?_
        rfl
      · refine (E_al c_260_83 rfl (by decide)).trans ?_
        refine (E_gfr (k := 36) (r := 98) c_260_84 sh_82 rfl rfl rfl).trans ?_
        refine (E_il c_260_87 rfl).trans ?_
        refine (E_il c_260_88 rfl).trans ?_
        refine (E_al c_260_89 rfl (by decide)).trans ?_
        refine (E_gfi (k := 34) c_260_90 sh_82 rfl rfl rfl (by decide)).trans ?_
        refine (E_br_ne (q := 100) c_260_93 rfl).trans (ax_ite ?_ ?_)
        · refine (E_ic (v := (1 : Int32)) c_260_96 (by decide)).trans ?_
          refine (E_goto (q := 101) c_260_97 rfl).trans ?_
          refine (E_basz (v := (1 : Int32)) c_260_101 sh_98 (by decide)).trans (ax_gd ?_)
          refine (E_al c_260_102 rfl (by decide)).trans ?_
          refine (E_dup c_260_103 rfl).trans ?_
          refine (E_gfi (k := 35) c_260_104 sh_82 rfl rfl rfl (by decide)).trans ?_
          refine (E_il c_260_107 rfl).trans ?_
          refine (E_al c_260_108 rfl (by decide)).trans ?_
          refine (E_gfi (k := 34) c_260_109 sh_82 rfl rfl rfl (by decide)).trans ?_
          refine (E_br_ne (q := 119) c_260_112 rfl).trans (ax_ite ?_ ?_)
          · refine (E_ic (v := (1 : Int32)) c_260_115 (by decide)).trans ?_
            refine (E_goto (q := 120) c_260_116 rfl).trans ?_
            refine (E_iadd c_260_120).trans ?_
            refine (E_pfi (k := 35) c_260_121 sh_82 rfl rfl rfl).trans ?_
            refine (E_inc (v := (1 : Int32)) (L' := [.ref 82, .int x1, .int (x2 + (1 : Int32)), .int u1.1, w4]) c_260_124 rfl (by decide) rfl).trans ?_
            refine (E_goto (q := 18) c_260_127 rfl).trans ?_
            rfl
          · refine (E_ic (v := (0 : Int32)) c_260_119 (by decide)).trans ?_
            refine (E_iadd c_260_120).trans ?_
            refine (E_pfi (k := 35) c_260_121 sh_82 rfl rfl rfl).trans ?_
            refine (E_inc (v := (1 : Int32)) (L' := [.ref 82, .int x1, .int (x2 + (1 : Int32)), .int u1.1, w4]) c_260_124 rfl (by decide) rfl).trans ?_
            refine (E_goto (q := 18) c_260_127 rfl).trans ?_
            rfl
        · refine (E_ic (v := (0 : Int32)) c_260_100 (by decide)).trans ?_
          refine (E_basz (v := (0 : Int32)) c_260_101 sh_98 (by decide)).trans (ax_gd ?_)
          refine (E_al c_260_102 rfl (by decide)).trans ?_
          refine (E_dup c_260_103 rfl).trans ?_
          refine (E_gfi (k := 35) c_260_104 sh_82 rfl rfl rfl (by decide)).trans ?_
          refine (E_il c_260_107 rfl).trans ?_
          refine (E_al c_260_108 rfl (by decide)).trans ?_
          refine (E_gfi (k := 34) c_260_109 sh_82 rfl rfl rfl (by decide)).trans ?_
          refine (E_br_ne (q := 119) c_260_112 rfl).trans (ax_ite ?_ ?_)
          · refine (E_ic (v := (1 : Int32)) c_260_115 (by decide)).trans ?_
            refine (E_goto (q := 120) c_260_116 rfl).trans ?_
            refine (E_iadd c_260_120).trans ?_
            refine (E_pfi (k := 35) c_260_121 sh_82 rfl rfl rfl).trans ?_
            refine (E_inc (v := (1 : Int32)) (L' := [.ref 82, .int x1, .int (x2 + (1 : Int32)), .int u1.1, w4]) c_260_124 rfl (by decide) rfl).trans ?_
            refine (E_goto (q := 18) c_260_127 rfl).trans ?_
            rfl
          · refine (E_ic (v := (0 : Int32)) c_260_119 (by decide)).trans ?_
            refine (E_iadd c_260_120).trans ?_
            refine (E_pfi (k := 35) c_260_121 sh_82 rfl rfl rfl).trans ?_
            refine (E_inc (v := (1 : Int32)) (L' := [.ref 82, .int x1, .int (x2 + (1 : Int32)), .int u1.1, w4]) c_260_124 rfl (by decide) rfl).trans ?_
            refine (E_goto (q := 18) c_260_127 rfl).trans ?_
            rfl
  · exact E_rV c_260_130 mi_260
set_option maxHeartbeats 4000000 in
theorem u_260_82p53 (d : Nat) (σ : ax_S) (x1 : Int32) (x2 : Int32) (x3 : Int32) (x4 : Int32) : ev sO (d + 5) 260 53 [.ref 82, .int x1, .int x2, .int x3, .int x4] [] σ = if x4 < x2 then (gd (0 ≤ x4.toInt ∧ x4.toInt < (945 : Nat)) (ev sO (d + 5) 260 53 [.ref 82, .int x1, .int x2, .int x3, .int (x4 + (1 : Int32))] [] (sI σ 98 x4.toNatClampNeg (0 : Int32)))) else (if x3 = ((sI (sI σ 82 34 x3) 82 35 (0 : Int32)).1 82 34) then (gd (0 ≤ x2.toInt ∧ x2.toInt < (945 : Nat)) (if x3 = ((sI (sI (sI σ 82 34 x3) 82 35 (0 : Int32)) 98 x2.toNatClampNeg (1 : Int32)).1 82 34) then (ax_lt (sI (sI (sI (sI σ 82 34 x3) 82 35 (0 : Int32)) 98 x2.toNatClampNeg (1 : Int32)) 82 35 (((sI (sI (sI σ 82 34 x3) 82 35 (0 : Int32)) 98 x2.toNatClampNeg (1 : Int32)).1 82 35) + (1 : Int32))) fun s0 => ev sO (d + 5) 260 18 [.ref 82, .int x1, .int (x2 + (1 : Int32)), .int x3, .int x4] [] s0) else (ax_lt (sI (sI (sI (sI σ 82 34 x3) 82 35 (0 : Int32)) 98 x2.toNatClampNeg (1 : Int32)) 82 35 (((sI (sI (sI σ 82 34 x3) 82 35 (0 : Int32)) 98 x2.toNatClampNeg (1 : Int32)).1 82 35) + (0 : Int32))) fun s1 => ev sO (d + 5) 260 18 [.ref 82, .int x1, .int (x2 + (1 : Int32)), .int x3, .int x4] [] s1))) else (gd (0 ≤ x2.toInt ∧ x2.toInt < (945 : Nat)) (if x3 = ((sI (sI (sI σ 82 34 x3) 82 35 (0 : Int32)) 98 x2.toNatClampNeg (0 : Int32)).1 82 34) then (ax_lt (sI (sI (sI (sI σ 82 34 x3) 82 35 (0 : Int32)) 98 x2.toNatClampNeg (0 : Int32)) 82 35 (((sI (sI (sI σ 82 34 x3) 82 35 (0 : Int32)) 98 x2.toNatClampNeg (0 : Int32)).1 82 35) + (1 : Int32))) fun s2 => ev sO (d + 5) 260 18 [.ref 82, .int x1, .int (x2 + (1 : Int32)), .int x3, .int x4] [] s2) else (ax_lt (sI (sI (sI (sI σ 82 34 x3) 82 35 (0 : Int32)) 98 x2.toNatClampNeg (0 : Int32)) 82 35 (((sI (sI (sI σ 82 34 x3) 82 35 (0 : Int32)) 98 x2.toNatClampNeg (0 : Int32)).1 82 35) + (0 : Int32))) fun s3 => ev sO (d + 5) 260 18 [.ref 82, .int x1, .int (x2 + (1 : Int32)), .int x3, .int x4] [] s3)))) := by
  refine (E_il c_260_53 rfl).trans ?_
  refine (E_il c_260_55 rfl).trans ?_
  refine (E_br_ge (q := 73) c_260_56 rfl).trans (ax_ite ?_ ?_)
  · refine (E_al c_260_59 rfl (by decide)).trans ?_
    refine (E_gfr (k := 36) (r := 98) c_260_60 sh_82 rfl rfl rfl).trans ?_
    refine (E_il c_260_63 rfl).trans ?_
    refine (E_ic (v := (0 : Int32)) c_260_65 (by decide)).trans ?_
    refine (E_basz (v := (0 : Int32)) c_260_66 sh_98 (by decide)).trans (ax_gd ?_)
    refine (E_inc (v := (1 : Int32)) (L' := [.ref 82, .int x1, .int x2, .int x3, .int (x4 + (1 : Int32))]) c_260_67 rfl (by decide) rfl).trans ?_
    refine (E_goto (q := 53) c_260_70 rfl).trans ?_
    rfl
  · refine (E_al c_260_73 rfl (by decide)).trans ?_
    refine (E_il c_260_74 rfl).trans ?_
    refine (E_pfi (k := 34) c_260_75 sh_82 rfl rfl rfl).trans ?_
    refine (E_al c_260_78 rfl (by decide)).trans ?_
    refine (E_ic (v := (0 : Int32)) c_260_79 (by decide)).trans ?_
    refine (E_pfi (k := 35) c_260_80 sh_82 rfl rfl rfl).trans ?_
    refine (E_al c_260_83 rfl (by decide)).trans ?_
    refine (E_gfr (k := 36) (r := 98) c_260_84 sh_82 rfl rfl rfl).trans ?_
    refine (E_il c_260_87 rfl).trans ?_
    refine (E_il c_260_88 rfl).trans ?_
    refine (E_al c_260_89 rfl (by decide)).trans ?_
    refine (E_gfi (k := 34) c_260_90 sh_82 rfl rfl rfl (by decide)).trans ?_
    refine (E_br_ne (q := 100) c_260_93 rfl).trans (ax_ite ?_ ?_)
    · refine (E_ic (v := (1 : Int32)) c_260_96 (by decide)).trans ?_
      refine (E_goto (q := 101) c_260_97 rfl).trans ?_
      refine (E_basz (v := (1 : Int32)) c_260_101 sh_98 (by decide)).trans (ax_gd ?_)
      refine (E_al c_260_102 rfl (by decide)).trans ?_
      refine (E_dup c_260_103 rfl).trans ?_
      refine (E_gfi (k := 35) c_260_104 sh_82 rfl rfl rfl (by decide)).trans ?_
      refine (E_il c_260_107 rfl).trans ?_
      refine (E_al c_260_108 rfl (by decide)).trans ?_
      refine (E_gfi (k := 34) c_260_109 sh_82 rfl rfl rfl (by decide)).trans ?_
      refine (E_br_ne (q := 119) c_260_112 rfl).trans (ax_ite ?_ ?_)
      · refine (E_ic (v := (1 : Int32)) c_260_115 (by decide)).trans ?_
        refine (E_goto (q := 120) c_260_116 rfl).trans ?_
        refine (E_iadd c_260_120).trans ?_
        refine (E_pfi (k := 35) c_260_121 sh_82 rfl rfl rfl).trans ?_
        refine ax_ltE (fun s0 => ?_)
        refine (E_inc (v := (1 : Int32)) (L' := [.ref 82, .int x1, .int (x2 + (1 : Int32)), .int x3, .int x4]) c_260_124 rfl (by decide) rfl).trans ?_
        refine (E_goto (q := 18) c_260_127 rfl).trans ?_
        rfl
      · refine (E_ic (v := (0 : Int32)) c_260_119 (by decide)).trans ?_
        refine (E_iadd c_260_120).trans ?_
        refine (E_pfi (k := 35) c_260_121 sh_82 rfl rfl rfl).trans ?_
        refine ax_ltE (fun s1 => ?_)
        refine (E_inc (v := (1 : Int32)) (L' := [.ref 82, .int x1, .int (x2 + (1 : Int32)), .int x3, .int x4]) c_260_124 rfl (by decide) rfl).trans ?_
        refine (E_goto (q := 18) c_260_127 rfl).trans ?_
        rfl
    · refine (E_ic (v := (0 : Int32)) c_260_100 (by decide)).trans ?_
      refine (E_basz (v := (0 : Int32)) c_260_101 sh_98 (by decide)).trans (ax_gd ?_)
      refine (E_al c_260_102 rfl (by decide)).trans ?_
      refine (E_dup c_260_103 rfl).trans ?_
      refine (E_gfi (k := 35) c_260_104 sh_82 rfl rfl rfl (by decide)).trans ?_
      refine (E_il c_260_107 rfl).trans ?_
      refine (E_al c_260_108 rfl (by decide)).trans ?_
      refine (E_gfi (k := 34) c_260_109 sh_82 rfl rfl rfl (by decide)).trans ?_
      refine (E_br_ne (q := 119) c_260_112 rfl).trans (ax_ite ?_ ?_)
      · refine (E_ic (v := (1 : Int32)) c_260_115 (by decide)).trans ?_
        refine (E_goto (q := 120) c_260_116 rfl).trans ?_
        refine (E_iadd c_260_120).trans ?_
        refine (E_pfi (k := 35) c_260_121 sh_82 rfl rfl rfl).trans ?_
        refine ax_ltE (fun s2 => ?_)
        refine (E_inc (v := (1 : Int32)) (L' := [.ref 82, .int x1, .int (x2 + (1 : Int32)), .int x3, .int x4]) c_260_124 rfl (by decide) rfl).trans ?_
        refine (E_goto (q := 18) c_260_127 rfl).trans ?_
        rfl
      · refine (E_ic (v := (0 : Int32)) c_260_119 (by decide)).trans ?_
        refine (E_iadd c_260_120).trans ?_
        refine (E_pfi (k := 35) c_260_121 sh_82 rfl rfl rfl).trans ?_
        refine ax_ltE (fun s3 => ?_)
        refine (E_inc (v := (1 : Int32)) (L' := [.ref 82, .int x1, .int (x2 + (1 : Int32)), .int x3, .int x4]) c_260_124 rfl (by decide) rfl).trans ?_
        refine (E_goto (q := 18) c_260_127 rfl).trans ?_
        rfl
set_option maxHeartbeats 4000000 in
theorem u_154_66 (d : Nat) (σ : ax_S) (x1 : Int32) : ev sO (d + 1) 154 0 [.ref 66, .int x1, .null, .null] [] σ = ev sO (d + 1) 154 4 [.ref 66, .int x1, .int (0 : Int32), .int (0 : Int32)] [] σ := by
  refine (E_ic (v := (0 : Int32)) c_154_0 (by decide)).trans ?_
  refine (E_is (L' := [.ref 66, .int x1, .int (0 : Int32), .null]) c_154_1 (Nat.le_of_ble_eq_true rfl) rfl).trans ?_
  refine (E_ic (v := (0 : Int32)) c_154_2 (by decide)).trans ?_
  refine (E_is (L' := [.ref 66, .int x1, .int (0 : Int32), .int (0 : Int32)]) c_154_3 (Nat.le_of_ble_eq_true rfl) rfl).trans ?_
  rfl
set_option maxHeartbeats 4000000 in
theorem u_154_66p4 (d : Nat) (σ : ax_S) (x1 : Int32) (x2 : Int32) (x3 : Int32) : ev sO (d + 1) 154 4 [.ref 66, .int x1, .int x2, .int x3] [] σ = if x3 < (64 : Int32) then (if (lg_cmp ((σ.2 >>> (x3.toInt64 &&& 63)) &&& (1 : Int64)) (0 : Int64)) = 0 then (ev sO (d + 1) 154 4 [.ref 66, .int x1, .int x2, .int (x3 + (1 : Int32))] [] σ) else (if x2 = x1 then ((cI sO d 155 [.ref 67, .int x3] σ).bind fun u0 => some (some (.long u0.1.toInt64), u0.2)) else (ev sO (d + 1) 154 4 [.ref 66, .int x1, .int (x2 + (1 : Int32)), .int (x3 + (1 : Int32))] [] σ))) else (if x1 = (-1 : Int32) then (some (some (.long x2.toInt64), σ)) else (some (some (.long (-1000000 : Int64)), σ))) := by
  refine (E_il c_154_4 rfl).trans ?_
  refine (E_ic (v := (64 : Int32)) c_154_5 (by decide)).trans ?_
  refine (E_br_ge (q := 47) c_154_7 rfl).trans (ax_ite ?_ ?_)
  · refine (E_al c_154_10 rfl (by decide)).trans ?_
    refine (E_gfl (k := 15) c_154_11 sh_66 rfl rfl rfl).trans ?_
    refine (E_il c_154_14 rfl).trans ?_
    refine (E_lshr c_154_15).trans ?_
    refine (E_lc (v := (1 : Int64)) c_154_16 (by decide)).trans ?_
    refine (E_land c_154_17).trans ?_
    refine (E_lc (v := (0 : Int64)) c_154_18 (by decide)).trans ?_
    refine (E_lcmp c_154_19).trans ?_
    refine (E_b0_eq (q := 41) c_154_20 rfl).trans (ax_ite ?_ ?_)
    · refine (E_inc (v := (1 : Int32)) (L' := [.ref 66, .int x1, .int x2, .int (x3 + (1 : Int32))]) c_154_41 rfl (by decide) rfl).trans ?_
      refine (E_goto (q := 4) c_154_44 rfl).trans ?_
      rfl
    · refine (E_il c_154_23 rfl).trans ?_
      refine (E_il c_154_24 rfl).trans ?_
      refine (E_br_ne (q := 38) c_154_25 rfl).trans (ax_ite ?_ ?_)
      · refine (E_al c_154_28 rfl (by decide)).trans ?_
        refine (E_gfr (k := 0) (r := 67) c_154_29 sh_66 rfl rfl rfl).trans ?_
        refine (E_il c_154_32 rfl).trans ?_
        refine (E_cIV c_154_33 mi_155 rfl rfl (sO_kl sh_67) (Nat.le_of_ble_eq_true rfl) (Nat.le_of_ble_eq_true rfl)).trans (ax_bnd fun u0 => ?_)
        refine (E_i2l c_154_36).trans ?_
        exact E_rL c_154_37 mi_154
      · refine (E_inc (v := (1 : Int32)) (L' := [.ref 66, .int x1, .int (x2 + (1 : Int32)), .int x3]) c_154_38 rfl (by decide) rfl).trans ?_
        refine (E_inc (v := (1 : Int32)) (L' := [.ref 66, .int x1, .int (x2 + (1 : Int32)), .int (x3 + (1 : Int32))]) c_154_41 rfl (by decide) rfl).trans ?_
        refine (E_goto (q := 4) c_154_44 rfl).trans ?_
        rfl
  · refine (E_il c_154_47 rfl).trans ?_
    refine (E_ic (v := (-1 : Int32)) c_154_48 (by decide)).trans ?_
    refine (E_br_ne (q := 57) c_154_49 rfl).trans (ax_ite ?_ ?_)
    · refine (E_il c_154_52 rfl).trans ?_
      refine (E_i2l c_154_53).trans ?_
      refine (E_goto (q := 60) c_154_54 rfl).trans ?_
      exact E_rL c_154_60 mi_154
    · refine (E_l2 (v := (-1000000 : Int64)) c_154_57 (by decide)).trans ?_
      exact E_rL c_154_60 mi_154
set_option maxHeartbeats 4000000 in
theorem u_261_82 (d : Nat) (σ : ax_S) (x1 : Int32) : ev sO (d + 1) 261 0 [.ref 82, .int x1, .null, .null, .null] [] σ = (cV sO d 262 [.ref 82, .int (1 : Int32), .int (6 : Int32), .int (0 : Int32)] (sI (sI σ 92 0 (-1 : Int32)) 82 29 (0 : Int32))).bind fun u0 => ev sO (d + 1) 261 24 [.ref 82, .int x1, .int x1, .int (2 : Int32), .null] [] u0 := by
  refine (E_al c_261_0 rfl (by decide)).trans ?_
  refine (E_gfr (k := 26) (r := 92) c_261_1 sh_82 rfl rfl rfl).trans ?_
  refine (E_ic (v := (0 : Int32)) c_261_4 (by decide)).trans ?_
  refine (E_ic (v := (-1 : Int32)) c_261_5 (by decide)).trans ?_
  refine (E_iask (k := 0) (v := (-1 : Int32)) c_261_6 sh_92 rfl (by decide) (by decide)).trans ?_
  refine (E_al c_261_7 rfl (by decide)).trans ?_
  refine (E_ic (v := (0 : Int32)) c_261_8 (by decide)).trans ?_
  refine (E_pfi (k := 29) c_261_9 sh_82 rfl rfl rfl).trans ?_
  refine (E_al c_261_12 rfl (by decide)).trans ?_
  refine (E_ic (v := (1 : Int32)) c_261_13 (by decide)).trans ?_
  refine (E_ic (v := (6 : Int32)) c_261_14 (by decide)).trans ?_
  refine (E_ic (v := (0 : Int32)) c_261_16 (by decide)).trans ?_
  refine (E_cVV c_261_17 mi_262 rfl (sO_kl sh_82) (Nat.le_of_ble_eq_true rfl) (Nat.le_of_ble_eq_true rfl)).trans (ax_bnd fun u0 => ?_)
  refine (E_il c_261_20 rfl).trans ?_
  refine (E_is (L' := [.ref 82, .int x1, .int x1, .null, .null]) c_261_21 (Nat.le_of_ble_eq_true rfl) rfl).trans ?_
  refine (E_ic (v := (2 : Int32)) c_261_22 (by decide)).trans ?_
  refine (E_is (L' := [.ref 82, .int x1, .int x1, .int (2 : Int32), .null]) c_261_23 (Nat.le_of_ble_eq_true rfl) rfl).trans ?_
  rfl
set_option maxHeartbeats 4000000 in
theorem u_261_82p24 (d : Nat) (σ : ax_S) (w1 : Value) (hw1 : w1.category = 1) (x2 : Int32) (x3 : Int32) (w4 : Value) (hw4 : w4.category = 1) : ev sO (d + 1) 261 24 [.ref 82, w1, .int x2, .int x3, w4] [] σ = if x3 < (σ.1 82 25) then (gd (¬ (((2 : Int32) * x3) - (1 : Int32)) = 0) (gd (¬ (((2 : Int32) * x3) - (1 : Int32)) = 0) (if (x2 - x2 / (((2 : Int32) * x3) - (1 : Int32)) * (((2 : Int32) * x3) - (1 : Int32))) < x3 then ((cV sO d 262 [.ref 82, .int x3, .int ((5 : Int32) + x3), .int (x2 - x2 / (((2 : Int32) * x3) - (1 : Int32)) * (((2 : Int32) * x3) - (1 : Int32)))] σ).bind fun u0 => ev sO (d + 1) 261 24 [.ref 82, w1, .int (x2 / (((2 : Int32) * x3) - (1 : Int32))), .int (x3 + (1 : Int32)), .int (x2 - x2 / (((2 : Int32) * x3) - (1 : Int32)) * (((2 : Int32) * x3) - (1 : Int32)))] [] u0) else ((cV sO d 262 [.ref 82, .int x3, .int ((5 : Int32) + x3), .int (((6 : Int32) + (x2 - x2 / (((2 : Int32) * x3) - (1 : Int32)) * (((2 : Int32) * x3) - (1 : Int32)))) - x3)] σ).bind fun u1 => ev sO (d + 1) 261 24 [.ref 82, w1, .int (x2 / (((2 : Int32) * x3) - (1 : Int32))), .int (x3 + (1 : Int32)), .int (x2 - x2 / (((2 : Int32) * x3) - (1 : Int32)) * (((2 : Int32) * x3) - (1 : Int32)))] [] u1)))) else (ev sO (d + 1) 261 83 [.ref 82, w1, .int x2, .int (0 : Int32), w4] [] σ) := by
  refine (E_il c_261_24 rfl).trans ?_
  refine (E_al c_261_25 rfl (by decide)).trans ?_
  refine (E_gfi (k := 25) c_261_26 sh_82 rfl rfl rfl (by decide)).trans ?_
  refine (E_br_ge (q := 81) c_261_29 rfl).trans (ax_ite ?_ ?_)
  · refine (E_il c_261_32 rfl).trans ?_
    refine (E_ic (v := (2 : Int32)) c_261_33 (by decide)).trans ?_
    refine (E_il c_261_34 rfl).trans ?_
    refine (E_imul c_261_35).trans ?_
    refine (E_ic (v := (1 : Int32)) c_261_36 (by decide)).trans ?_
    refine (E_isub c_261_37).trans ?_
    refine (E_iremg c_261_38).trans (ax_gd ?_)
    refine (E_is (L' := [.ref 82, w1, .int x2, .int x3, .int (x2 - x2 / (((2 : Int32) * x3) - (1 : Int32)) * (((2 : Int32) * x3) - (1 : Int32)))]) c_261_39 (Nat.le_of_ble_eq_true rfl) rfl).trans ?_
    refine (E_il c_261_41 rfl).trans ?_
    refine (E_ic (v := (2 : Int32)) c_261_42 (by decide)).trans ?_
    refine (E_il c_261_43 rfl).trans ?_
    refine (E_imul c_261_44).trans ?_
    refine (E_ic (v := (1 : Int32)) c_261_45 (by decide)).trans ?_
    refine (E_isub c_261_46).trans ?_
    refine (E_idivg c_261_47).trans (ax_gd ?_)
    refine (E_is (L' := [.ref 82, w1, .int (x2 / (((2 : Int32) * x3) - (1 : Int32))), .int x3, .int (x2 - x2 / (((2 : Int32) * x3) - (1 : Int32)) * (((2 : Int32) * x3) - (1 : Int32)))]) c_261_48 (Nat.le_of_ble_eq_true rfl) (by simp [ax_st1, ax_st2, ax_drp, hw1])).trans ?_
    refine (E_al c_261_49 rfl (by decide)).trans ?_
    refine (E_il c_261_50 rfl).trans ?_
    refine (E_ic (v := (5 : Int32)) c_261_51 (by decide)).trans ?_
    refine (E_il c_261_52 rfl).trans ?_
    refine (E_iadd c_261_53).trans ?_
    refine (E_il c_261_54 rfl).trans ?_
    refine (E_il c_261_56 rfl).trans ?_
    refine (E_br_ge (q := 65) c_261_57 rfl).trans (ax_ite ?_ ?_)
    · refine (E_il c_261_60 rfl).trans ?_
      refine (E_goto (q := 72) c_261_62 rfl).trans ?_
      refine (E_cVV c_261_72 mi_262 rfl (sO_kl sh_82) (Nat.le_of_ble_eq_true rfl) (Nat.le_of_ble_eq_true rfl)).trans (ax_bnd fun u0 => ?_)
      refine (E_inc (v := (1 : Int32)) (L' := [.ref 82, w1, .int (x2 / (((2 : Int32) * x3) - (1 : Int32))), .int (x3 + (1 : Int32)), .int (x2 - x2 / (((2 : Int32) * x3) - (1 : Int32)) * (((2 : Int32) * x3) - (1 : Int32)))]) c_261_75 rfl (by decide) rfl).trans ?_
      refine (E_goto (q := 24) c_261_78 rfl).trans ?_
      rfl
    · refine (E_ic (v := (6 : Int32)) c_261_65 (by decide)).trans ?_
      refine (E_il c_261_67 rfl).trans ?_
      refine (E_iadd c_261_69).trans ?_
      refine (E_il c_261_70 rfl).trans ?_
      refine (E_isub c_261_71).trans ?_
      refine (E_cVV c_261_72 mi_262 rfl (sO_kl sh_82) (Nat.le_of_ble_eq_true rfl) (Nat.le_of_ble_eq_true rfl)).trans (ax_bnd fun u1 => ?_)
      refine (E_inc (v := (1 : Int32)) (L' := [.ref 82, w1, .int (x2 / (((2 : Int32) * x3) - (1 : Int32))), .int (x3 + (1 : Int32)), .int (x2 - x2 / (((2 : Int32) * x3) - (1 : Int32)) * (((2 : Int32) * x3) - (1 : Int32)))]) c_261_75 rfl (by decide) rfl).trans ?_
      refine (E_goto (q := 24) c_261_78 rfl).trans ?_
      rfl
  · refine (E_ic (v := (0 : Int32)) c_261_81 (by decide)).trans ?_
    refine (E_is (L' := [.ref 82, w1, .int x2, .int (0 : Int32), w4]) c_261_82 (Nat.le_of_ble_eq_true rfl) rfl).trans ?_
    rfl
set_option maxHeartbeats 4000000 in
theorem u_261_82p83 (d : Nat) (σ : ax_S) (w1 : Value) (hw1 : w1.category = 1) (w2 : Value) (hw2 : w2.category = 1) (x3 : Int32) (w4 : Value) (hw4 : w4.category = 1) : ev sO (d + 1) 261 83 [.ref 82, w1, w2, .int x3, w4] [] σ = if x3 < (11 : Int32) then (gd (0 ≤ x3.toInt ∧ x3.toInt < (11 : Nat)) (ev sO (d + 1) 261 83 [.ref 82, w1, w2, .int (x3 + (1 : Int32)), w4] [] (sI σ 95 x3.toNatClampNeg (0 : Int32)))) else (ev sO (d + 1) 261 104 [.ref 82, w1, w2, .int (0 : Int32), w4] [] σ) := by
  refine (E_il c_261_83 rfl).trans ?_
  refine (E_ic (v := (11 : Int32)) c_261_84 (by decide)).trans ?_
  refine (E_br_ge (q := 102) c_261_86 rfl).trans (ax_ite ?_ ?_)
  · refine (E_al c_261_89 rfl (by decide)).trans ?_
    refine (E_gfr (k := 30) (r := 95) c_261_90 sh_82 rfl rfl rfl).trans ?_
    refine (E_il c_261_93 rfl).trans ?_
    refine (E_ic (v := (0 : Int32)) c_261_94 (by decide)).trans ?_
    refine (E_ias (v := (0 : Int32)) c_261_95 sh_95 rfl).trans (ax_gd ?_)
    refine (E_inc (v := (1 : Int32)) (L' := [.ref 82, w1, w2, .int (x3 + (1 : Int32)), w4]) c_261_96 rfl (by decide) (by simp [ax_st1, ax_drp, hw2])).trans ?_
    refine (E_goto (q := 83) c_261_99 rfl).trans ?_
    rfl
  · refine (E_ic (v := (0 : Int32)) c_261_102 (by decide)).trans ?_
    refine (E_is (L' := [.ref 82, w1, w2, .int (0 : Int32), w4]) c_261_103 (Nat.le_of_ble_eq_true rfl) (by simp [ax_st1, ax_st2, ax_drp, hw2])).trans ?_
    rfl
set_option maxHeartbeats 4000000 in
theorem u_261_82p104 (d : Nat) (σ : ax_S) (w1 : Value) (hw1 : w1.category = 1) (w2 : Value) (hw2 : w2.category = 1) (x3 : Int32) (w4 : Value) (hw4 : w4.category = 1) : ev sO (d + 1) 261 104 [.ref 82, w1, w2, .int x3, w4] [] σ = if x3 < (σ.1 82 25) then (ev sO (d + 1) 261 115 [.ref 82, w1, w2, .int x3, .int x3] [] σ) else (some (none, σ)) := by
  refine (E_il c_261_104 rfl).trans ?_
  refine (E_al c_261_105 rfl (by decide)).trans ?_
  refine (E_gfi (k := 25) c_261_106 sh_82 rfl rfl rfl (by decide)).trans ?_
  refine (E_br_ge (q := 156) c_261_109 rfl).trans (ax_ite ?_ ?_)
  · refine (E_il c_261_112 rfl).trans ?_
    refine (E_is (L' := [.ref 82, w1, w2, .int x3, .int x3]) c_261_113 (Nat.le_of_ble_eq_true rfl) rfl).trans ?_
    rfl
  · exact E_rV c_261_156 mi_261
set_option maxHeartbeats 4000000 in
theorem u_261_82p115 (d : Nat) (σ : ax_S) (w1 : Value) (hw1 : w1.category = 1) (w2 : Value) (hw2 : w2.category = 1) (x3 : Int32) (x4 : Int32) : ev sO (d + 1) 261 115 [.ref 82, w1, w2, .int x3, .int x4] [] σ = if x4 < 0 then (ev sO (d + 1) 261 104 [.ref 82, w1, w2, .int (x3 + (1 : Int32)), .int x4] [] σ) else (gd (0 ≤ x4.toInt ∧ x4.toInt < (11 : Nat)) (gd (0 ≤ x3.toInt ∧ x3.toInt < (6 : Nat)) (gd (0 ≤ x4.toInt ∧ x4.toInt < (11 : Nat)) (gd (0 ≤ x4.toInt ∧ x4.toInt < (11 : Nat)) (ev sO (d + 1) 261 115 [.ref 82, w1, w2, .int x3, .int ((sI σ 95 x4.toNatClampNeg ((σ.1 95 x4.toNatClampNeg) ||| ((1 : Int32) <<< ((σ.1 91 x3.toNatClampNeg) &&& 31)))).1 92 x4.toNatClampNeg)] [] (sI σ 95 x4.toNatClampNeg ((σ.1 95 x4.toNatClampNeg) ||| ((1 : Int32) <<< ((σ.1 91 x3.toNatClampNeg) &&& 31))))))))) := by
  refine (E_il c_261_115 rfl).trans ?_
  refine (E_b0_lt (q := 150) c_261_117 rfl).trans (ax_ite ?_ ?_)
  · refine (E_inc (v := (1 : Int32)) (L' := [.ref 82, w1, w2, .int (x3 + (1 : Int32)), .int x4]) c_261_150 rfl (by decide) (by simp [ax_st1, ax_drp, hw2])).trans ?_
    refine (E_goto (q := 104) c_261_153 rfl).trans ?_
    rfl
  · refine (E_al c_261_120 rfl (by decide)).trans ?_
    refine (E_gfr (k := 30) (r := 95) c_261_121 sh_82 rfl rfl rfl).trans ?_
    refine (E_il c_261_124 rfl).trans ?_
    refine (E_dup2 c_261_126 ⟨rfl, rfl⟩).trans ?_
    refine (E_ial c_261_127 sh_95).trans (ax_gd ?_)
    refine (E_ic (v := (1 : Int32)) c_261_128 (by decide)).trans ?_
    refine (E_al c_261_129 rfl (by decide)).trans ?_
    refine (E_gfr (k := 24) (r := 91) c_261_130 sh_82 rfl rfl rfl).trans ?_
    refine (E_il c_261_133 rfl).trans ?_
    refine (E_ial c_261_134 sh_91).trans (ax_gd ?_)
    refine (E_ishl c_261_135).trans ?_
    refine (E_ior c_261_136).trans ?_
    refine (E_ias (v := ((σ.1 95 x4.toNatClampNeg) ||| ((1 : Int32) <<< ((σ.1 91 x3.toNatClampNeg) &&& 31)))) c_261_137 sh_95 rfl).trans (ax_gd ?_)
    refine (E_al c_261_138 rfl (by decide)).trans ?_
    refine (E_gfr (k := 26) (r := 92) c_261_139 sh_82 rfl rfl rfl).trans ?_
    refine (E_il c_261_142 rfl).trans ?_
    refine (E_ial c_261_144 sh_92).trans (ax_gd ?_)
    refine (E_is (L' := [.ref 82, w1, w2, .int x3, .int ((sI σ 95 x4.toNatClampNeg ((σ.1 95 x4.toNatClampNeg) ||| ((1 : Int32) <<< ((σ.1 91 x3.toNatClampNeg) &&& 31)))).1 92 x4.toNatClampNeg)]) c_261_145 (Nat.le_of_ble_eq_true rfl) rfl).trans ?_
    refine (E_goto (q := 115) c_261_147 rfl).trans ?_
    rfl
set_option maxHeartbeats 4000000 in
theorem u_267_82 (d : Nat) (σ : ax_S) (x1 : Int32) : ev sO d 267 0 [.ref 82, .int x1, .null, .null] [] σ = ev sO d 267 5 [.ref 82, .int x1, .int (0 : Int32), .int (6 : Int32)] [] σ := by
  refine (E_ic (v := (0 : Int32)) c_267_0 (by decide)).trans ?_
  refine (E_is (L' := [.ref 82, .int x1, .int (0 : Int32), .null]) c_267_1 (Nat.le_of_ble_eq_true rfl) rfl).trans ?_
  refine (E_ic (v := (6 : Int32)) c_267_2 (by decide)).trans ?_
  refine (E_is (L' := [.ref 82, .int x1, .int (0 : Int32), .int (6 : Int32)]) c_267_4 (Nat.le_of_ble_eq_true rfl) rfl).trans ?_
  rfl
set_option maxHeartbeats 4000000 in
theorem u_267_82p5 (d : Nat) (σ : ax_S) (x1 : Int32) (x2 : Int32) (x3 : Int32) : ev sO d 267 5 [.ref 82, .int x1, .int x2, .int x3] [] σ = if x3 < ((5 : Int32) + (σ.1 82 25)) then (if x2 = 0 then (gd (0 ≤ x3.toInt ∧ x3.toInt < (11 : Nat)) (if (σ.1 95 x3.toNatClampNeg) = x1 then (ev sO d 267 5 [.ref 82, .int x1, .int (1 : Int32), .int (x3 + (1 : Int32))] [] σ) else (ev sO d 267 5 [.ref 82, .int x1, .int (0 : Int32), .int (x3 + (1 : Int32))] [] σ))) else (ev sO d 267 5 [.ref 82, .int x1, .int (1 : Int32), .int (x3 + (1 : Int32))] [] σ)) else (some (some (.int (x2 &&& 1)), σ)) := by
  refine (E_il c_267_5 rfl).trans ?_
  refine (E_ic (v := (5 : Int32)) c_267_6 (by decide)).trans ?_
  refine (E_al c_267_7 rfl (by decide)).trans ?_
  refine (E_gfi (k := 25) c_267_8 sh_82 rfl rfl rfl (by decide)).trans ?_
  refine (E_iadd c_267_11).trans ?_
  refine (E_br_ge (q := 41) c_267_12 rfl).trans (ax_ite ?_ ?_)
  · refine (E_il c_267_15 rfl).trans ?_
    refine (E_b0_ne (q := 29) c_267_16 rfl).trans (ax_ite ?_ ?_)
    · refine (E_al c_267_19 rfl (by decide)).trans ?_
      refine (E_gfr (k := 30) (r := 95) c_267_20 sh_82 rfl rfl rfl).trans ?_
      refine (E_il c_267_23 rfl).trans ?_
      refine (E_ial c_267_24 sh_95).trans (ax_gd ?_)
      refine (E_il c_267_25 rfl).trans ?_
      refine (E_br_ne (q := 33) c_267_26 rfl).trans (ax_ite ?_ ?_)
      · refine (E_ic (v := (1 : Int32)) c_267_29 (by decide)).trans ?_
        refine (E_goto (q := 34) c_267_30 rfl).trans ?_
        refine (E_is (L' := [.ref 82, .int x1, .int (1 : Int32), .int x3]) c_267_34 (Nat.le_of_ble_eq_true rfl) rfl).trans ?_
        refine (E_inc (v := (1 : Int32)) (L' := [.ref 82, .int x1, .int (1 : Int32), .int (x3 + (1 : Int32))]) c_267_35 rfl (by decide) rfl).trans ?_
        refine (E_goto (q := 5) c_267_38 rfl).trans ?_
        rfl
      · refine (E_ic (v := (0 : Int32)) c_267_33 (by decide)).trans ?_
        refine (E_is (L' := [.ref 82, .int x1, .int (0 : Int32), .int x3]) c_267_34 (Nat.le_of_ble_eq_true rfl) rfl).trans ?_
        refine (E_inc (v := (1 : Int32)) (L' := [.ref 82, .int x1, .int (0 : Int32), .int (x3 + (1 : Int32))]) c_267_35 rfl (by decide) rfl).trans ?_
        refine (E_goto (q := 5) c_267_38 rfl).trans ?_
        rfl
    · refine (E_ic (v := (1 : Int32)) c_267_29 (by decide)).trans ?_
      refine (E_goto (q := 34) c_267_30 rfl).trans ?_
      refine (E_is (L' := [.ref 82, .int x1, .int (1 : Int32), .int x3]) c_267_34 (Nat.le_of_ble_eq_true rfl) rfl).trans ?_
      refine (E_inc (v := (1 : Int32)) (L' := [.ref 82, .int x1, .int (1 : Int32), .int (x3 + (1 : Int32))]) c_267_35 rfl (by decide) rfl).trans ?_
      refine (E_goto (q := 5) c_267_38 rfl).trans ?_
      rfl
  · refine (E_il c_267_41 rfl).trans ?_
    exact E_rZ (v := (x2 &&& 1)) c_267_42 mi_267 rfl
set_option maxHeartbeats 4000000 in
theorem u_157_66 (d : Nat) (σ : ax_S) (x1 : Int32) (x2 : Int32) : ev sO (d + 2) 157 0 [.ref 66, .int x1, .int x2, .null, .null] [] σ = ev sO (d + 2) 157 5 [.ref 66, .int x1, .int x2, .int (0 : Int32), .int (0 : Int32)] [] σ := by
  refine (E_ic (v := (0 : Int32)) c_157_0 (by decide)).trans ?_
  refine (E_is (L' := [.ref 66, .int x1, .int x2, .int (0 : Int32), .null]) c_157_1 (Nat.le_of_ble_eq_true rfl) rfl).trans ?_
  refine (E_ic (v := (0 : Int32)) c_157_2 (by decide)).trans ?_
  refine (E_is (L' := [.ref 66, .int x1, .int x2, .int (0 : Int32), .int (0 : Int32)]) c_157_3 (Nat.le_of_ble_eq_true rfl) rfl).trans ?_
  rfl
set_option maxHeartbeats 4000000 in
theorem u_157_66p5 (d : Nat) (σ : ax_S) (x1 : Int32) (x2 : Int32) (x3 : Int32) (x4 : Int32) : ev sO (d + 2) 157 5 [.ref 66, .int x1, .int x2, .int x3, .int x4] [] σ = if x4 < (6 : Int32) then ((cI sO (d + 1) 82 [.int x1] σ).bind fun u0 => if u0.1 = 0 then (if x2 = (-1 : Int32) then (some (some (.long x3.toInt64), u0.2)) else (some (some (.long (-1000000 : Int64)), u0.2))) else (gd (0 ≤ x1.toInt ∧ x1.toInt < (11 : Nat)) (if (((u0.2.1 79 x1.toNatClampNeg) >>> (x4 &&& 31)) &&& (1 : Int32)) = 0 then (ev sO (d + 2) 157 5 [.ref 66, .int x1, .int x2, .int x3, .int (x4 + (1 : Int32))] [] u0.2) else (if x3 = x2 then ((cI sO (d + 1) 158 [.ref 67, .int x1, .int x4] u0.2).bind fun u1 => some (some (.long u1.1.toInt64), u1.2)) else (ev sO (d + 2) 157 5 [.ref 66, .int x1, .int x2, .int (x3 + (1 : Int32)), .int (x4 + (1 : Int32))] [] u0.2))))) else (if x2 = (-1 : Int32) then (some (some (.long x3.toInt64), σ)) else (some (some (.long (-1000000 : Int64)), σ))) := by
  refine (E_il c_157_5 rfl).trans ?_
  refine (E_ic (v := (6 : Int32)) c_157_7 (by decide)).trans ?_
  refine (E_br_ge (q := 59) c_157_9 rfl).trans (ax_ite ?_ ?_)
  · refine (E_il c_157_12 rfl).trans ?_
    refine (E_cIS c_157_13 mi_82 rfl rfl (Nat.le_of_ble_eq_true rfl) (Nat.le_of_ble_eq_true rfl)).trans (ax_bnd fun u0 => ?_)
    refine (E_b0_eq (q := 59) c_157_16 rfl).trans (ax_ite ?_ ?_)
    · refine (E_il c_157_59 rfl).trans ?_
      refine (E_ic (v := (-1 : Int32)) c_157_60 (by decide)).trans ?_
      refine (E_br_ne (q := 69) c_157_61 rfl).trans (ax_ite ?_ ?_)
      · refine (E_il c_157_64 rfl).trans ?_
        refine (E_i2l c_157_65).trans ?_
        refine (E_goto (q := 72) c_157_66 rfl).trans ?_
        exact E_rL c_157_72 mi_157
      · refine (E_l2 (v := (-1000000 : Int64)) c_157_69 (by decide)).trans ?_
        exact E_rL c_157_72 mi_157
    · refine (E_al c_157_19 rfl (by decide)).trans ?_
      refine (E_gfr (k := 16) (r := 79) c_157_20 sh_66 rfl rfl rfl).trans ?_
      refine (E_il c_157_23 rfl).trans ?_
      refine (E_ial c_157_24 sh_79).trans (ax_gd ?_)
      refine (E_il c_157_25 rfl).trans ?_
      refine (E_ishr c_157_27).trans ?_
      refine (E_ic (v := (1 : Int32)) c_157_28 (by decide)).trans ?_
      refine (E_iand c_157_29).trans ?_
      refine (E_b0_eq (q := 53) c_157_30 rfl).trans (ax_ite ?_ ?_)
      · refine (E_inc (v := (1 : Int32)) (L' := [.ref 66, .int x1, .int x2, .int x3, .int (x4 + (1 : Int32))]) c_157_53 rfl (by decide) rfl).trans ?_
        refine (E_goto (q := 5) c_157_56 rfl).trans ?_
        rfl
      · refine (E_il c_157_33 rfl).trans ?_
        refine (E_il c_157_34 rfl).trans ?_
        refine (E_br_ne (q := 50) c_157_35 rfl).trans (ax_ite ?_ ?_)
        · refine (E_al c_157_38 rfl (by decide)).trans ?_
          refine (E_gfr (k := 0) (r := 67) c_157_39 sh_66 rfl rfl rfl).trans ?_
          refine (E_il c_157_42 rfl).trans ?_
          refine (E_il c_157_43 rfl).trans ?_
          refine (E_cIV c_157_45 mi_158 rfl rfl (sO_kl sh_67) (Nat.le_of_ble_eq_true rfl) (Nat.le_of_ble_eq_true rfl)).trans (ax_bnd fun u1 => ?_)
          refine (E_i2l c_157_48).trans ?_
          exact E_rL c_157_49 mi_157
        · refine (E_inc (v := (1 : Int32)) (L' := [.ref 66, .int x1, .int x2, .int (x3 + (1 : Int32)), .int x4]) c_157_50 rfl (by decide) rfl).trans ?_
          refine (E_inc (v := (1 : Int32)) (L' := [.ref 66, .int x1, .int x2, .int (x3 + (1 : Int32)), .int (x4 + (1 : Int32))]) c_157_53 rfl (by decide) rfl).trans ?_
          refine (E_goto (q := 5) c_157_56 rfl).trans ?_
          rfl
  · refine (E_il c_157_59 rfl).trans ?_
    refine (E_ic (v := (-1 : Int32)) c_157_60 (by decide)).trans ?_
    refine (E_br_ne (q := 69) c_157_61 rfl).trans (ax_ite ?_ ?_)
    · refine (E_il c_157_64 rfl).trans ?_
      refine (E_i2l c_157_65).trans ?_
      refine (E_goto (q := 72) c_157_66 rfl).trans ?_
      exact E_rL c_157_72 mi_157
    · refine (E_l2 (v := (-1000000 : Int64)) c_157_69 (by decide)).trans ?_
      exact E_rL c_157_72 mi_157
set_option maxHeartbeats 4000000 in
theorem u_264_82 (d : Nat) (σ : ax_S) (x1 : Int32) : ev sO (d + 3) 264 0 [.ref 82, .int x1, .null, .null, .null, .null] [] σ = (cV sO (d + 2) 265 [.ref 82, .int x1] σ).bind fun u0 => if (u0.1 82 33) = 0 then (some (some (.int (0 : Int32)), u0)) else (ev sO (d + 3) 264 16 [.ref 82, .int x1, .int (0 : Int32), .null, .null, .null] [] u0) := by
  refine (E_al c_264_0 rfl (by decide)).trans ?_
  refine (E_il c_264_1 rfl).trans ?_
  refine (E_cVV c_264_2 mi_265 rfl (sO_kl sh_82) (Nat.le_of_ble_eq_true rfl) (Nat.le_of_ble_eq_true rfl)).trans (ax_bnd fun u0 => ?_)
  refine (E_al c_264_5 rfl (by decide)).trans ?_
  refine (E_gfi (k := 33) c_264_6 sh_82 rfl rfl rfl (by decide)).trans ?_
  refine (E_b0_ne (q := 14) c_264_9 rfl).trans (ax_ite ?_ ?_)
  · refine (E_ic (v := (0 : Int32)) c_264_12 (by decide)).trans ?_
    exact E_rI c_264_13 mi_264
  · refine (E_ic (v := (0 : Int32)) c_264_14 (by decide)).trans ?_
    refine (E_is (L' := [.ref 82, .int x1, .int (0 : Int32), .null, .null, .null]) c_264_15 (Nat.le_of_ble_eq_true rfl) rfl).trans ?_
    rfl
set_option maxHeartbeats 4000000 in
theorem u_264_82p16 (d : Nat) (σ : ax_S) (x1 : Int32) (x2 : Int32) (w3 : Value) (hw3 : w3.category = 1) (w4 : Value) (hw4 : w4.category = 1) (w5 : Value) (hw5 : w5.category = 1) : ev sO (d + 3) 264 16 [.ref 82, .int x1, .int x2, w3, w4, w5] [] σ = if x2 < (σ.1 82 25) then (gd (0 ≤ x2.toInt ∧ x2.toInt < (11 : Nat)) (ev sO (d + 3) 264 40 [.ref 82, .int x1, .int x2, .int (0 : Int32), w4, w5] [] (sI σ 96 x2.toNatClampNeg (((1 : Int32) <<< ((σ.1 82 33) &&& 31)) - (1 : Int32))))) else (ev sO (d + 3) 264 116 [.ref 82, .int x1, .int (0 : Int32), .int (2 : Int32), w4, w5] [] σ) := by
  refine (E_il c_264_16 rfl).trans ?_
  refine (E_al c_264_17 rfl (by decide)).trans ?_
  refine (E_gfi (k := 25) c_264_18 sh_82 rfl rfl rfl (by decide)).trans ?_
  refine (E_br_ge (q := 112) c_264_21 rfl).trans (ax_ite ?_ ?_)
  · refine (E_al c_264_24 rfl (by decide)).trans ?_
    refine (E_gfr (k := 31) (r := 96) c_264_25 sh_82 rfl rfl rfl).trans ?_
    refine (E_il c_264_28 rfl).trans ?_
    refine (E_ic (v := (1 : Int32)) c_264_29 (by decide)).trans ?_
    refine (E_al c_264_30 rfl (by decide)).trans ?_
    refine (E_gfi (k := 33) c_264_31 sh_82 rfl rfl rfl (by decide)).trans ?_
    refine (E_ishl c_264_34).trans ?_
    refine (E_ic (v := (1 : Int32)) c_264_35 (by decide)).trans ?_
    refine (E_isub c_264_36).trans ?_
    refine (E_ias (v := (((1 : Int32) <<< ((σ.1 82 33) &&& 31)) - (1 : Int32))) c_264_37 sh_96 rfl).trans (ax_gd ?_)
    refine (E_ic (v := (0 : Int32)) c_264_38 (by decide)).trans ?_
    refine (E_is (L' := [.ref 82, .int x1, .int x2, .int (0 : Int32), w4, w5]) c_264_39 (Nat.le_of_ble_eq_true rfl) rfl).trans ?_
    rfl
  · refine (E_ic (v := (0 : Int32)) c_264_112 (by decide)).trans ?_
    refine (E_is (L' := [.ref 82, .int x1, .int (0 : Int32), w3, w4, w5]) c_264_113 (Nat.le_of_ble_eq_true rfl) rfl).trans ?_
    refine (E_ic (v := (2 : Int32)) c_264_114 (by decide)).trans ?_
    refine (E_is (L' := [.ref 82, .int x1, .int (0 : Int32), .int (2 : Int32), w4, w5]) c_264_115 (Nat.le_of_ble_eq_true rfl) rfl).trans ?_
    rfl
set_option maxHeartbeats 4000000 in
theorem u_264_82p40 (d : Nat) (σ : ax_S) (x1 : Int32) (x2 : Int32) (x3 : Int32) (w4 : Value) (hw4 : w4.category = 1) (w5 : Value) (hw5 : w5.category = 1) : ev sO (d + 3) 264 40 [.ref 82, .int x1, .int x2, .int x3, w4, w5] [] σ = if x3 < (σ.1 82 33) then (gd (0 ≤ x2.toInt ∧ x2.toInt < (6 : Nat)) ((cI sO (d + 2) 234 [.ref 82, .int (σ.1 91 x2.toNatClampNeg), .int x1] σ).bind fun u0 => if u0.1 = 0 then (gd (0 ≤ x2.toInt ∧ x2.toInt < (11 : Nat)) (gd (0 ≤ x2.toInt ∧ x2.toInt < (11 : Nat)) (ev sO (d + 3) 264 40 [.ref 82, .int x1, .int x2, .int (x3 + (1 : Int32)), w4, w5] [] (sI u0.2 96 x2.toNatClampNeg (u0.2.1 96 x2.toNatClampNeg))))) else (gd (0 ≤ x2.toInt ∧ x2.toInt < (6 : Nat)) ((cI sO (d + 2) 235 [.ref 82, .int (u0.2.1 91 x2.toNatClampNeg), .int x1] u0.2).bind fun u1 => gd (0 ≤ x3.toInt ∧ x3.toInt < (6 : Nat)) (if u1.1 = (u1.2.1 97 x3.toNatClampNeg) then (gd (0 ≤ x2.toInt ∧ x2.toInt < (11 : Nat)) (ev sO (d + 3) 264 40 [.ref 82, .int x1, .int x2, .int (x3 + (1 : Int32)), w4, w5] [] (sI u1.2 96 x2.toNatClampNeg ((1 : Int32) <<< (x3 &&& 31))))) else (gd (0 ≤ x2.toInt ∧ x2.toInt < (11 : Nat)) (gd (0 ≤ x2.toInt ∧ x2.toInt < (11 : Nat)) (ev sO (d + 3) 264 40 [.ref 82, .int x1, .int x2, .int (x3 + (1 : Int32)), w4, w5] [] (sI u1.2 96 x2.toNatClampNeg (u1.2.1 96 x2.toNatClampNeg)))))))))) else (ev sO (d + 3) 264 16 [.ref 82, .int x1, .int (x2 + (1 : Int32)), .int x3, w4, w5] [] σ) := by
  refine (E_il c_264_40 rfl).trans ?_
  refine (E_al c_264_41 rfl (by decide)).trans ?_
  refine (E_gfi (k := 33) c_264_42 sh_82 rfl rfl rfl (by decide)).trans ?_
  refine (E_br_ge (q := 106) c_264_45 rfl).trans (ax_ite ?_ ?_)
  · refine (E_al c_264_48 rfl (by decide)).trans ?_
    refine (E_gfr (k := 31) (r := 96) c_264_49 sh_82 rfl rfl rfl).trans ?_
    refine (E_il c_264_52 rfl).trans ?_
    refine (E_al c_264_53 rfl (by decide)).trans ?_
    refine (E_al c_264_54 rfl (by decide)).trans ?_
    refine (E_gfr (k := 24) (r := 91) c_264_55 sh_82 rfl rfl rfl).trans ?_
    refine (E_il c_264_58 rfl).trans ?_
    refine (E_ial c_264_59 sh_91).trans (ax_gd ?_)
    refine (E_il c_264_60 rfl).trans ?_
    refine (E_cIV c_264_61 mi_234 rfl rfl (sO_kl sh_82) (Nat.le_of_ble_eq_true rfl) (Nat.le_of_ble_eq_true rfl)).trans (ax_bnd fun u0 => ?_)
    refine (E_b0_eq (q := 93) c_264_64 rfl).trans (ax_ite ?_ ?_)
    · refine (E_al c_264_93 rfl (by decide)).trans ?_
      refine (E_gfr (k := 31) (r := 96) c_264_94 sh_82 rfl rfl rfl).trans ?_
      refine (E_il c_264_97 rfl).trans ?_
      refine (E_ial c_264_98 sh_96).trans (ax_gd ?_)
      refine (E_ias (v := (u0.2.1 96 x2.toNatClampNeg)) c_264_99 sh_96 rfl).trans (ax_gd ?_)
      refine (E_inc (v := (1 : Int32)) (L' := [.ref 82, .int x1, .int x2, .int (x3 + (1 : Int32)), w4, w5]) c_264_100 rfl (by decide) rfl).trans ?_
      refine (E_goto (q := 40) c_264_103 rfl).trans ?_
      rfl
    · refine (E_al c_264_67 rfl (by decide)).trans ?_
      refine (E_al c_264_68 rfl (by decide)).trans ?_
      refine (E_gfr (k := 24) (r := 91) c_264_69 sh_82 rfl rfl rfl).trans ?_
      refine (E_il c_264_72 rfl).trans ?_
      refine (E_ial c_264_73 sh_91).trans (ax_gd ?_)
      refine (E_il c_264_74 rfl).trans ?_
      refine (E_cIV c_264_75 mi_235 rfl rfl (sO_kl sh_82) (Nat.le_of_ble_eq_true rfl) (Nat.le_of_ble_eq_true rfl)).trans (ax_bnd fun u1 => ?_)
      refine (E_al c_264_78 rfl (by decide)).trans ?_
      refine (E_gfr (k := 32) (r := 97) c_264_79 sh_82 rfl rfl rfl).trans ?_
      refine (E_il c_264_82 rfl).trans ?_
      refine (E_ial c_264_83 sh_97).trans (ax_gd ?_)
      refine (E_br_ne (q := 93) c_264_84 rfl).trans (ax_ite ?_ ?_)
      · refine (E_ic (v := (1 : Int32)) c_264_87 (by decide)).trans ?_
        refine (E_il c_264_88 rfl).trans ?_
        refine (E_ishl c_264_89).trans ?_
        refine (E_goto (q := 99) c_264_90 rfl).trans ?_
        refine (E_ias (v := ((1 : Int32) <<< (x3 &&& 31))) c_264_99 sh_96 rfl).trans (ax_gd ?_)
        refine (E_inc (v := (1 : Int32)) (L' := [.ref 82, .int x1, .int x2, .int (x3 + (1 : Int32)), w4, w5]) c_264_100 rfl (by decide) rfl).trans ?_
        refine (E_goto (q := 40) c_264_103 rfl).trans ?_
        rfl
      · refine (E_al c_264_93 rfl (by decide)).trans ?_
        refine (E_gfr (k := 31) (r := 96) c_264_94 sh_82 rfl rfl rfl).trans ?_
        refine (E_il c_264_97 rfl).trans ?_
        refine (E_ial c_264_98 sh_96).trans (ax_gd ?_)
        refine (E_ias (v := (u1.2.1 96 x2.toNatClampNeg)) c_264_99 sh_96 rfl).trans (ax_gd ?_)
        refine (E_inc (v := (1 : Int32)) (L' := [.ref 82, .int x1, .int x2, .int (x3 + (1 : Int32)), w4, w5]) c_264_100 rfl (by decide) rfl).trans ?_
        refine (E_goto (q := 40) c_264_103 rfl).trans ?_
        rfl
  · refine (E_inc (v := (1 : Int32)) (L' := [.ref 82, .int x1, .int (x2 + (1 : Int32)), .int x3, w4, w5]) c_264_106 rfl (by decide) rfl).trans ?_
    refine (E_goto (q := 16) c_264_109 rfl).trans ?_
    rfl
set_option maxHeartbeats 4000000 in
theorem u_264_82p116 (d : Nat) (σ : ax_S) (w1 : Value) (hw1 : w1.category = 1) (x2 : Int32) (x3 : Int32) (w4 : Value) (hw4 : w4.category = 1) (w5 : Value) (hw5 : w5.category = 1) : ev sO (d + 3) 264 116 [.ref 82, w1, .int x2, .int x3, w4, w5] [] σ = if (σ.1 82 25) < x3 then (some (some (.int x2), σ)) else (ev sO (d + 3) 264 128 [.ref 82, w1, .int x2, .int x3, .int (6 : Int32), w5] [] σ) := by
  refine (E_il c_264_116 rfl).trans ?_
  refine (E_al c_264_117 rfl (by decide)).trans ?_
  refine (E_gfi (k := 25) c_264_118 sh_82 rfl rfl rfl (by decide)).trans ?_
  refine (E_br_gt (q := 247) c_264_121 rfl).trans (ax_ite ?_ ?_)
  · refine (E_il c_264_247 rfl).trans ?_
    exact E_rI c_264_248 mi_264
  · refine (E_ic (v := (6 : Int32)) c_264_124 (by decide)).trans ?_
    refine (E_is (L' := [.ref 82, w1, .int x2, .int x3, .int (6 : Int32), w5]) c_264_126 (Nat.le_of_ble_eq_true rfl) rfl).trans ?_
    rfl
set_option maxHeartbeats 4000000 in
theorem u_264_82p128 (d : Nat) (σ : ax_S) (w1 : Value) (hw1 : w1.category = 1) (x2 : Int32) (x3 : Int32) (x4 : Int32) (w5 : Value) (hw5 : w5.category = 1) : ev sO (d + 3) 264 128 [.ref 82, w1, .int x2, .int x3, .int x4, w5] [] σ = if x4 < ((5 : Int32) + (σ.1 82 25)) then (gd (0 ≤ x4.toInt ∧ x4.toInt < (11 : Nat)) ((cI sO (d + 2) 240 [.int (σ.1 95 x4.toNatClampNeg)] σ).bind fun u0 => if u0.1 = x3 then (gd (0 ≤ x4.toInt ∧ x4.toInt < (11 : Nat)) (gd (0 ≤ (u0.2.1 93 x4.toNatClampNeg).toInt ∧ (u0.2.1 93 x4.toNatClampNeg).toInt < (11 : Nat)) (gd (0 ≤ x4.toInt ∧ x4.toInt < (11 : Nat)) (gd (0 ≤ (u0.2.1 94 x4.toNatClampNeg).toInt ∧ (u0.2.1 94 x4.toNatClampNeg).toInt < (11 : Nat)) (if ((u0.2.1 96 (u0.2.1 93 x4.toNatClampNeg).toNatClampNeg) &&& (u0.2.1 96 (u0.2.1 94 x4.toNatClampNeg).toNatClampNeg)) = 0 then (if ((u0.2.1 96 (u0.2.1 93 x4.toNatClampNeg).toNatClampNeg) &&& (u0.2.1 96 (u0.2.1 94 x4.toNatClampNeg).toNatClampNeg)) = 0 then (gd (0 ≤ x4.toInt ∧ x4.toInt < (11 : Nat)) (gd (0 ≤ (u0.2.1 93 x4.toNatClampNeg).toInt ∧ (u0.2.1 93 x4.toNatClampNeg).toInt < (11 : Nat)) (gd (0 ≤ x4.toInt ∧ x4.toInt < (11 : Nat)) (gd (0 ≤ (u0.2.1 94 x4.toNatClampNeg).toInt ∧ (u0.2.1 94 x4.toNatClampNeg).toInt < (11 : Nat)) (gd (0 ≤ x4.toInt ∧ x4.toInt < (11 : Nat)) (ev sO (d + 3) 264 128 [.ref 82, w1, .int (x2 + (1 : Int32)), .int x3, .int (x4 + (1 : Int32)), .int ((u0.2.1 96 (u0.2.1 93 x4.toNatClampNeg).toNatClampNeg) &&& (u0.2.1 96 (u0.2.1 94 x4.toNatClampNeg).toNatClampNeg))] [] (sI u0.2 96 x4.toNatClampNeg ((u0.2.1 96 (u0.2.1 93 x4.toNatClampNeg).toNatClampNeg) ||| (u0.2.1 96 (u0.2.1 94 x4.toNatClampNeg).toNatClampNeg))))))))) else (gd (0 ≤ x4.toInt ∧ x4.toInt < (11 : Nat)) (ev sO (d + 3) 264 128 [.ref 82, w1, .int (x2 + (1 : Int32)), .int x3, .int (x4 + (1 : Int32)), .int ((u0.2.1 96 (u0.2.1 93 x4.toNatClampNeg).toNatClampNeg) &&& (u0.2.1 96 (u0.2.1 94 x4.toNatClampNeg).toNatClampNeg))] [] (sI u0.2 96 x4.toNatClampNeg ((u0.2.1 96 (u0.2.1 93 x4.toNatClampNeg).toNatClampNeg) &&& (u0.2.1 96 (u0.2.1 94 x4.toNatClampNeg).toNatClampNeg)))))) else (if ((u0.2.1 96 (u0.2.1 93 x4.toNatClampNeg).toNatClampNeg) &&& (u0.2.1 96 (u0.2.1 94 x4.toNatClampNeg).toNatClampNeg)) = 0 then (gd (0 ≤ x4.toInt ∧ x4.toInt < (11 : Nat)) (gd (0 ≤ (u0.2.1 93 x4.toNatClampNeg).toInt ∧ (u0.2.1 93 x4.toNatClampNeg).toInt < (11 : Nat)) (gd (0 ≤ x4.toInt ∧ x4.toInt < (11 : Nat)) (gd (0 ≤ (u0.2.1 94 x4.toNatClampNeg).toInt ∧ (u0.2.1 94 x4.toNatClampNeg).toInt < (11 : Nat)) (gd (0 ≤ x4.toInt ∧ x4.toInt < (11 : Nat)) (ev sO (d + 3) 264 128 [.ref 82, w1, .int (x2 + (0 : Int32)), .int x3, .int (x4 + (1 : Int32)), .int ((u0.2.1 96 (u0.2.1 93 x4.toNatClampNeg).toNatClampNeg) &&& (u0.2.1 96 (u0.2.1 94 x4.toNatClampNeg).toNatClampNeg))] [] (sI u0.2 96 x4.toNatClampNeg ((u0.2.1 96 (u0.2.1 93 x4.toNatClampNeg).toNatClampNeg) ||| (u0.2.1 96 (u0.2.1 94 x4.toNatClampNeg).toNatClampNeg))))))))) else (gd (0 ≤ x4.toInt ∧ x4.toInt < (11 : Nat)) (ev sO (d + 3) 264 128 [.ref 82, w1, .int (x2 + (0 : Int32)), .int x3, .int (x4 + (1 : Int32)), .int ((u0.2.1 96 (u0.2.1 93 x4.toNatClampNeg).toNatClampNeg) &&& (u0.2.1 96 (u0.2.1 94 x4.toNatClampNeg).toNatClampNeg))] [] (sI u0.2 96 x4.toNatClampNeg ((u0.2.1 96 (u0.2.1 93 x4.toNatClampNeg).toNatClampNeg) &&& (u0.2.1 96 (u0.2.1 94 x4.toNatClampNeg).toNatClampNeg))))))))))) else (ev sO (d + 3) 264 128 [.ref 82, w1, .int x2, .int x3, .int (x4 + (1 : Int32)), w5] [] u0.2))) else (ev sO (d + 3) 264 116 [.ref 82, w1, .int x2, .int (x3 + (1 : Int32)), .int x4, w5] [] σ) := by
  refine (E_il c_264_128 rfl).trans ?_
  refine (E_ic (v := (5 : Int32)) c_264_130 (by decide)).trans ?_
  refine (E_al c_264_131 rfl (by decide)).trans ?_
  refine (E_gfi (k := 25) c_264_132 sh_82 rfl rfl rfl (by decide)).trans ?_
  refine (E_iadd c_264_135).trans ?_
  refine (E_br_ge (q := 241) c_264_136 rfl).trans (ax_ite ?_ ?_)
  · refine (E_al c_264_139 rfl (by decide)).trans ?_
    refine (E_gfr (k := 30) (r := 95) c_264_140 sh_82 rfl rfl rfl).trans ?_
    refine (E_il c_264_143 rfl).trans ?_
    refine (E_ial c_264_145 sh_95).trans (ax_gd ?_)
    refine (E_cIS c_264_146 mi_240 rfl rfl (Nat.le_of_ble_eq_true rfl) (Nat.le_of_ble_eq_true rfl)).trans (ax_bnd fun u0 => ?_)
    refine (E_il c_264_149 rfl).trans ?_
    refine (E_br_ne (q := 235) c_264_150 rfl).trans (ax_ite ?_ ?_)
    · refine (E_al c_264_153 rfl (by decide)).trans ?_
      refine (E_gfr (k := 31) (r := 96) c_264_154 sh_82 rfl rfl rfl).trans ?_
      refine (E_al c_264_157 rfl (by decide)).trans ?_
      refine (E_gfr (k := 27) (r := 93) c_264_158 sh_82 rfl rfl rfl).trans ?_
      refine (E_il c_264_161 rfl).trans ?_
      refine (E_ial c_264_163 sh_93).trans (ax_gd ?_)
      refine (E_ial c_264_164 sh_96).trans (ax_gd ?_)
      refine (E_al c_264_165 rfl (by decide)).trans ?_
      refine (E_gfr (k := 31) (r := 96) c_264_166 sh_82 rfl rfl rfl).trans ?_
      refine (E_al c_264_169 rfl (by decide)).trans ?_
      refine (E_gfr (k := 28) (r := 94) c_264_170 sh_82 rfl rfl rfl).trans ?_
      refine (E_il c_264_173 rfl).trans ?_
      refine (E_ial c_264_175 sh_94).trans (ax_gd ?_)
      refine (E_ial c_264_176 sh_96).trans (ax_gd ?_)
      refine (E_iand c_264_177).trans ?_
      refine (E_is (L' := [.ref 82, w1, .int x2, .int x3, .int x4, .int ((u0.2.1 96 (u0.2.1 93 x4.toNatClampNeg).toNatClampNeg) &&& (u0.2.1 96 (u0.2.1 94 x4.toNatClampNeg).toNatClampNeg))]) c_264_178 (Nat.le_of_ble_eq_true rfl) rfl).trans ?_
      refine (E_il c_264_180 rfl).trans ?_
      refine (E_il c_264_181 rfl).trans ?_
      refine (E_b0_ne (q := 190) c_264_183 rfl).trans (ax_ite ?_ ?_)
      · refine (E_ic (v := (1 : Int32)) c_264_186 (by decide)).trans ?_
        refine (E_goto (q := 191) c_264_187 rfl).trans ?_
        refine (E_iadd c_264_191).trans ?_
        refine (E_is (L' := [.ref 82, w1, .int (x2 + (1 : Int32)), .int x3, .int x4, .int ((u0.2.1 96 (u0.2.1 93 x4.toNatClampNeg).toNatClampNeg) &&& (u0.2.1 96 (u0.2.1 94 x4.toNatClampNeg).toNatClampNeg))]) c_264_192 (Nat.le_of_ble_eq_true rfl) (by simp [ax_st1, ax_st2, ax_drp, hw1])).trans ?_
        refine (E_al c_264_193 rfl (by decide)).trans ?_
        refine (E_gfr (k := 31) (r := 96) c_264_194 sh_82 rfl rfl rfl).trans ?_
        refine (E_il c_264_197 rfl).trans ?_
        refine (E_il c_264_199 rfl).trans ?_
        refine (E_b0_ne (q := 232) c_264_201 rfl).trans (ax_ite ?_ ?_)
        · refine (E_al c_264_204 rfl (by decide)).trans ?_
          refine (E_gfr (k := 31) (r := 96) c_264_205 sh_82 rfl rfl rfl).trans ?_
          refine (E_al c_264_208 rfl (by decide)).trans ?_
          refine (E_gfr (k := 27) (r := 93) c_264_209 sh_82 rfl rfl rfl).trans ?_
          refine (E_il c_264_212 rfl).trans ?_
          refine (E_ial c_264_214 sh_93).trans (ax_gd ?_)
          refine (E_ial c_264_215 sh_96).trans (ax_gd ?_)
          refine (E_al c_264_216 rfl (by decide)).trans ?_
          refine (E_gfr (k := 31) (r := 96) c_264_217 sh_82 rfl rfl rfl).trans ?_
          refine (E_al c_264_220 rfl (by decide)).trans ?_
          refine (E_gfr (k := 28) (r := 94) c_264_221 sh_82 rfl rfl rfl).trans ?_
          refine (E_il c_264_224 rfl).trans ?_
          refine (E_ial c_264_226 sh_94).trans (ax_gd ?_)
          refine (E_ial c_264_227 sh_96).trans (ax_gd ?_)
          refine (E_ior c_264_228).trans ?_
          refine (E_goto (q := 234) c_264_229 rfl).trans ?_
          refine (E_ias (v := ((u0.2.1 96 (u0.2.1 93 x4.toNatClampNeg).toNatClampNeg) ||| (u0.2.1 96 (u0.2.1 94 x4.toNatClampNeg).toNatClampNeg))) c_264_234 sh_96 rfl).trans (ax_gd ?_)
          refine (E_inc (v := (1 : Int32)) (L' := [.ref 82, w1, .int (x2 + (1 : Int32)), .int x3, .int (x4 + (1 : Int32)), .int ((u0.2.1 96 (u0.2.1 93 x4.toNatClampNeg).toNatClampNeg) &&& (u0.2.1 96 (u0.2.1 94 x4.toNatClampNeg).toNatClampNeg))]) c_264_235 rfl (by decide) rfl).trans ?_
          refine (E_goto (q := 128) c_264_238 rfl).trans ?_
          rfl
        · refine (E_il c_264_232 rfl).trans ?_
          refine (E_ias (v := ((u0.2.1 96 (u0.2.1 93 x4.toNatClampNeg).toNatClampNeg) &&& (u0.2.1 96 (u0.2.1 94 x4.toNatClampNeg).toNatClampNeg))) c_264_234 sh_96 rfl).trans (ax_gd ?_)
          refine (E_inc (v := (1 : Int32)) (L' := [.ref 82, w1, .int (x2 + (1 : Int32)), .int x3, .int (x4 + (1 : Int32)), .int ((u0.2.1 96 (u0.2.1 93 x4.toNatClampNeg).toNatClampNeg) &&& (u0.2.1 96 (u0.2.1 94 x4.toNatClampNeg).toNatClampNeg))]) c_264_235 rfl (by decide) rfl).trans ?_
          refine (E_goto (q := 128) c_264_238 rfl).trans ?_
          rfl
      · refine (E_ic (v := (0 : Int32)) c_264_190 (by decide)).trans ?_
        refine (E_iadd c_264_191).trans ?_
        refine (E_is (L' := [.ref 82, w1, .int (x2 + (0 : Int32)), .int x3, .int x4, .int ((u0.2.1 96 (u0.2.1 93 x4.toNatClampNeg).toNatClampNeg) &&& (u0.2.1 96 (u0.2.1 94 x4.toNatClampNeg).toNatClampNeg))]) c_264_192 (Nat.le_of_ble_eq_true rfl) (by simp [ax_st1, ax_st2, ax_drp, hw1])).trans ?_
        refine (E_al c_264_193 rfl (by decide)).trans ?_
        refine (E_gfr (k := 31) (r := 96) c_264_194 sh_82 rfl rfl rfl).trans ?_
        refine (E_il c_264_197 rfl).trans ?_
        refine (E_il c_264_199 rfl).trans ?_
        refine (E_b0_ne (q := 232) c_264_201 rfl).trans (ax_ite ?_ ?_)
        · refine (E_al c_264_204 rfl (by decide)).trans ?_
          refine (E_gfr (k := 31) (r := 96) c_264_205 sh_82 rfl rfl rfl).trans ?_
          refine (E_al c_264_208 rfl (by decide)).trans ?_
          refine (E_gfr (k := 27) (r := 93) c_264_209 sh_82 rfl rfl rfl).trans ?_
          refine (E_il c_264_212 rfl).trans ?_
          refine (E_ial c_264_214 sh_93).trans (ax_gd ?_)
          refine (E_ial c_264_215 sh_96).trans (ax_gd ?_)
          refine (E_al c_264_216 rfl (by decide)).trans ?_
          refine (E_gfr (k := 31) (r := 96) c_264_217 sh_82 rfl rfl rfl).trans ?_
          refine (E_al c_264_220 rfl (by decide)).trans ?_
          refine (E_gfr (k := 28) (r := 94) c_264_221 sh_82 rfl rfl rfl).trans ?_
          refine (E_il c_264_224 rfl).trans ?_
          refine (E_ial c_264_226 sh_94).trans (ax_gd ?_)
          refine (E_ial c_264_227 sh_96).trans (ax_gd ?_)
          refine (E_ior c_264_228).trans ?_
          refine (E_goto (q := 234) c_264_229 rfl).trans ?_
          refine (E_ias (v := ((u0.2.1 96 (u0.2.1 93 x4.toNatClampNeg).toNatClampNeg) ||| (u0.2.1 96 (u0.2.1 94 x4.toNatClampNeg).toNatClampNeg))) c_264_234 sh_96 rfl).trans (ax_gd ?_)
          refine (E_inc (v := (1 : Int32)) (L' := [.ref 82, w1, .int (x2 + (0 : Int32)), .int x3, .int (x4 + (1 : Int32)), .int ((u0.2.1 96 (u0.2.1 93 x4.toNatClampNeg).toNatClampNeg) &&& (u0.2.1 96 (u0.2.1 94 x4.toNatClampNeg).toNatClampNeg))]) c_264_235 rfl (by decide) rfl).trans ?_
          refine (E_goto (q := 128) c_264_238 rfl).trans ?_
          rfl
        · refine (E_il c_264_232 rfl).trans ?_
          refine (E_ias (v := ((u0.2.1 96 (u0.2.1 93 x4.toNatClampNeg).toNatClampNeg) &&& (u0.2.1 96 (u0.2.1 94 x4.toNatClampNeg).toNatClampNeg))) c_264_234 sh_96 rfl).trans (ax_gd ?_)
          refine (E_inc (v := (1 : Int32)) (L' := [.ref 82, w1, .int (x2 + (0 : Int32)), .int x3, .int (x4 + (1 : Int32)), .int ((u0.2.1 96 (u0.2.1 93 x4.toNatClampNeg).toNatClampNeg) &&& (u0.2.1 96 (u0.2.1 94 x4.toNatClampNeg).toNatClampNeg))]) c_264_235 rfl (by decide) rfl).trans ?_
          refine (E_goto (q := 128) c_264_238 rfl).trans ?_
          rfl
    · refine (E_inc (v := (1 : Int32)) (L' := [.ref 82, w1, .int x2, .int x3, .int (x4 + (1 : Int32)), w5]) c_264_235 rfl (by decide) rfl).trans ?_
      refine (E_goto (q := 128) c_264_238 rfl).trans ?_
      rfl
  · refine (E_inc (v := (1 : Int32)) (L' := [.ref 82, w1, .int x2, .int (x3 + (1 : Int32)), .int x4, w5]) c_264_241 rfl (by decide) rfl).trans ?_
    refine (E_goto (q := 116) c_264_244 rfl).trans ?_
    rfl
set_option maxHeartbeats 4000000 in
theorem u_265_82 (d : Nat) (σ : ax_S) (x1 : Int32) : ev sO (d + 2) 265 0 [.ref 82, .int x1, .null, .null, .null, .null, .null] [] σ = ev sO (d + 2) 265 9 [.ref 82, .int x1, .int (-1 : Int32), .int (1 : Int32), .null, .null, .null] [] (sI σ 82 33 (0 : Int32)) := by
  refine (E_al c_265_0 rfl (by decide)).trans ?_
  refine (E_ic (v := (0 : Int32)) c_265_1 (by decide)).trans ?_
  refine (E_pfi (k := 33) c_265_2 sh_82 rfl rfl rfl).trans ?_
  refine (E_ic (v := (-1 : Int32)) c_265_5 (by decide)).trans ?_
  refine (E_is (L' := [.ref 82, .int x1, .int (-1 : Int32), .null, .null, .null, .null]) c_265_6 (Nat.le_of_ble_eq_true rfl) rfl).trans ?_
  refine (E_ic (v := (1 : Int32)) c_265_7 (by decide)).trans ?_
  refine (E_is (L' := [.ref 82, .int x1, .int (-1 : Int32), .int (1 : Int32), .null, .null, .null]) c_265_8 (Nat.le_of_ble_eq_true rfl) rfl).trans ?_
  rfl
set_option maxHeartbeats 4000000 in
theorem u_265_82p9 (d : Nat) (σ : ax_S) (x1 : Int32) (x2 : Int32) (x3 : Int32) (w4 : Value) (hw4 : w4.category = 1) (w5 : Value) (hw5 : w5.category = 1) (w6 : Value) (hw6 : w6.category = 1) : ev sO (d + 2) 265 9 [.ref 82, .int x1, .int x2, .int x3, w4, w5, w6] [] σ = if x3 = 0 then (some (none, σ)) else (ev sO (d + 2) 265 20 [.ref 82, .int x1, .int x2, .int x3, .int (-1000000 : Int32), .int (0 : Int32), w6] [] σ) := by
  refine (E_il c_265_9 rfl).trans ?_
  refine (E_b0_eq (q := 137) c_265_10 rfl).trans (ax_ite ?_ ?_)
  · exact E_rV c_265_137 mi_265
  · refine (E_ic (v := (-1000000 : Int32)) c_265_13 (by decide)).trans ?_
    refine (E_is (L' := [.ref 82, .int x1, .int x2, .int x3, .int (-1000000 : Int32), w5, w6]) c_265_15 (Nat.le_of_ble_eq_true rfl) rfl).trans ?_
    refine (E_ic (v := (0 : Int32)) c_265_17 (by decide)).trans ?_
    refine (E_is (L' := [.ref 82, .int x1, .int x2, .int x3, .int (-1000000 : Int32), .int (0 : Int32), w6]) c_265_18 (Nat.le_of_ble_eq_true rfl) rfl).trans ?_
    rfl
set_option maxHeartbeats 4000000 in
theorem u_265_82p20 (d : Nat) (σ : ax_S) (x1 : Int32) (x2 : Int32) (w3 : Value) (hw3 : w3.category = 1) (x4 : Int32) (x5 : Int32) (w6 : Value) (hw6 : w6.category = 1) : ev sO (d + 2) 265 20 [.ref 82, .int x1, .int x2, w3, .int x4, .int x5, w6] [] σ = if x5 < (σ.1 82 25) then (gd (0 ≤ x5.toInt ∧ x5.toInt < (6 : Nat)) ((cI sO (d + 1) 235 [.ref 82, .int (σ.1 91 x5.toNatClampNeg), .int x1] σ).bind fun u0 => gd (0 ≤ x5.toInt ∧ x5.toInt < (6 : Nat)) ((cI sO (d + 1) 234 [.ref 82, .int (u0.2.1 91 x5.toNatClampNeg), .int x1] u0.2).bind fun u1 => if u1.1 = 0 then (ev sO (d + 2) 265 20 [.ref 82, .int x1, .int x2, w3, .int x4, .int (x5 + (1 : Int32)), .int u0.1] [] u1.2) else (if x2 < u0.1 then (if x4 = (-1000000 : Int32) then (ev sO (d + 2) 265 20 [.ref 82, .int x1, .int x2, w3, .int u0.1, .int (x5 + (1 : Int32)), .int u0.1] [] u1.2) else (if u0.1 < x4 then (ev sO (d + 2) 265 20 [.ref 82, .int x1, .int x2, w3, .int u0.1, .int (x5 + (1 : Int32)), .int u0.1] [] u1.2) else (ev sO (d + 2) 265 20 [.ref 82, .int x1, .int x2, w3, .int x4, .int (x5 + (1 : Int32)), .int u0.1] [] u1.2))) else (ev sO (d + 2) 265 20 [.ref 82, .int x1, .int x2, w3, .int x4, .int (x5 + (1 : Int32)), .int u0.1] [] u1.2))))) else (if x4 = (-1000000 : Int32) then (ev sO (d + 2) 265 9 [.ref 82, .int x1, .int x2, .int (0 : Int32), .int x4, .int x5, w6] [] σ) else (gd (0 ≤ (σ.1 82 33).toInt ∧ (σ.1 82 33).toInt < (6 : Nat)) (ev sO (d + 2) 265 9 [.ref 82, .int x1, .int x4, .int (1 : Int32), .int x4, .int x5, w6] [] (sI (sI σ 97 (σ.1 82 33).toNatClampNeg x4) 82 33 (((sI σ 97 (σ.1 82 33).toNatClampNeg x4).1 82 33) + (1 : Int32)))))) := by
  refine (E_il c_265_20 rfl).trans ?_
  refine (E_al c_265_22 rfl (by decide)).trans ?_
  refine (E_gfi (k := 25) c_265_23 sh_82 rfl rfl rfl (by decide)).trans ?_
  refine (E_br_ge (q := 93) c_265_26 rfl).trans (ax_ite ?_ ?_)
  · refine (E_al c_265_29 rfl (by decide)).trans ?_
    refine (E_al c_265_30 rfl (by decide)).trans ?_
    refine (E_gfr (k := 24) (r := 91) c_265_31 sh_82 rfl rfl rfl).trans ?_
    refine (E_il c_265_34 rfl).trans ?_
    refine (E_ial c_265_36 sh_91).trans (ax_gd ?_)
    refine (E_il c_265_37 rfl).trans ?_
    refine (E_cIV c_265_38 mi_235 rfl rfl (sO_kl sh_82) (Nat.le_of_ble_eq_true rfl) (Nat.le_of_ble_eq_true rfl)).trans (ax_bnd fun u0 => ?_)
    refine (E_is (L' := [.ref 82, .int x1, .int x2, w3, .int x4, .int x5, .int u0.1]) c_265_41 (Nat.le_of_ble_eq_true rfl) rfl).trans ?_
    refine (E_al c_265_43 rfl (by decide)).trans ?_
    refine (E_al c_265_44 rfl (by decide)).trans ?_
    refine (E_gfr (k := 24) (r := 91) c_265_45 sh_82 rfl rfl rfl).trans ?_
    refine (E_il c_265_48 rfl).trans ?_
    refine (E_ial c_265_50 sh_91).trans (ax_gd ?_)
    refine (E_il c_265_51 rfl).trans ?_
    refine (E_cIV c_265_52 mi_234 rfl rfl (sO_kl sh_82) (Nat.le_of_ble_eq_true rfl) (Nat.le_of_ble_eq_true rfl)).trans (ax_bnd fun u1 => ?_)
    refine (E_b0_eq (q := 83) c_265_55 rfl).trans (ax_ite ?_ ?_)
    · refine (E_il c_265_83 rfl).trans ?_
      refine (E_is (L' := [.ref 82, .int x1, .int x2, w3, .int x4, .int x5, .int u0.1]) c_265_85 (Nat.le_of_ble_eq_true rfl) (by simp [ax_st1, ax_st2, ax_drp, hw3])).trans ?_
      refine (E_inc (v := (1 : Int32)) (L' := [.ref 82, .int x1, .int x2, w3, .int x4, .int (x5 + (1 : Int32)), .int u0.1]) c_265_87 rfl (by decide) rfl).trans ?_
      refine (E_goto (q := 20) c_265_90 rfl).trans ?_
      rfl
    · refine (E_il c_265_58 rfl).trans ?_
      refine (E_il c_265_60 rfl).trans ?_
      refine (E_br_le (q := 83) c_265_61 rfl).trans (ax_ite ?_ ?_)
      · refine (E_il c_265_64 rfl).trans ?_
        refine (E_ic (v := (-1000000 : Int32)) c_265_66 (by decide)).trans ?_
        refine (E_br_eq (q := 78) c_265_68 rfl).trans (ax_ite ?_ ?_)
        · refine (E_il c_265_78 rfl).trans ?_
          refine (E_goto (q := 85) c_265_80 rfl).trans ?_
          refine (E_is (L' := [.ref 82, .int x1, .int x2, w3, .int u0.1, .int x5, .int u0.1]) c_265_85 (Nat.le_of_ble_eq_true rfl) (by simp [ax_st1, ax_st2, ax_drp, hw3])).trans ?_
          refine (E_inc (v := (1 : Int32)) (L' := [.ref 82, .int x1, .int x2, w3, .int u0.1, .int (x5 + (1 : Int32)), .int u0.1]) c_265_87 rfl (by decide) rfl).trans ?_
          refine (E_goto (q := 20) c_265_90 rfl).trans ?_
          rfl
        · refine (E_il c_265_71 rfl).trans ?_
          refine (E_il c_265_73 rfl).trans ?_
          refine (E_br_ge (q := 83) c_265_75 rfl).trans (ax_ite ?_ ?_)
          · refine (E_il c_265_78 rfl).trans ?_
            refine (E_goto (q := 85) c_265_80 rfl).trans ?_
            refine (E_is (L' := [.ref 82, .int x1, .int x2, w3, .int u0.1, .int x5, .int u0.1]) c_265_85 (Nat.le_of_ble_eq_true rfl) (by simp [ax_st1, ax_st2, ax_drp, hw3])).trans ?_
            refine (E_inc (v := (1 : Int32)) (L' := [.ref 82, .int x1, .int x2, w3, .int u0.1, .int (x5 + (1 : Int32)), .int u0.1]) c_265_87 rfl (by decide) rfl).trans ?_
            refine (E_goto (q := 20) c_265_90 rfl).trans ?_
            rfl
          · refine (E_il c_265_83 rfl).trans ?_
            refine (E_is (L' := [.ref 82, .int x1, .int x2, w3, .int x4, .int x5, .int u0.1]) c_265_85 (Nat.le_of_ble_eq_true rfl) (by simp [ax_st1, ax_st2, ax_drp, hw3])).trans ?_
            refine (E_inc (v := (1 : Int32)) (L' := [.ref 82, .int x1, .int x2, w3, .int x4, .int (x5 + (1 : Int32)), .int u0.1]) c_265_87 rfl (by decide) rfl).trans ?_
            refine (E_goto (q := 20) c_265_90 rfl).trans ?_
            rfl
      · refine (E_il c_265_83 rfl).trans ?_
        refine (E_is (L' := [.ref 82, .int x1, .int x2, w3, .int x4, .int x5, .int u0.1]) c_265_85 (Nat.le_of_ble_eq_true rfl) (by simp [ax_st1, ax_st2, ax_drp, hw3])).trans ?_
        refine (E_inc (v := (1 : Int32)) (L' := [.ref 82, .int x1, .int x2, w3, .int x4, .int (x5 + (1 : Int32)), .int u0.1]) c_265_87 rfl (by decide) rfl).trans ?_
        refine (E_goto (q := 20) c_265_90 rfl).trans ?_
        rfl
  · refine (E_il c_265_93 rfl).trans ?_
    refine (E_ic (v := (-1000000 : Int32)) c_265_95 (by decide)).trans ?_
    refine (E_br_eq (q := 104) c_265_97 rfl).trans (ax_ite ?_ ?_)
    · refine (E_ic (v := (0 : Int32)) c_265_104 (by decide)).trans ?_
      refine (E_is (L' := [.ref 82, .int x1, .int x2, .int (0 : Int32), .int x4, .int x5, w6]) c_265_105 (Nat.le_of_ble_eq_true rfl) rfl).trans ?_
      refine (E_il c_265_106 rfl).trans ?_
      refine (E_b0_eq (q := 134) c_265_107 rfl).trans ?_
      refine (if_pos (by decide)).trans ?_
      refine (E_goto (q := 9) c_265_134 rfl).trans ?_
      rfl
    · refine (E_ic (v := (1 : Int32)) c_265_100 (by decide)).trans ?_
      refine (E_goto (q := 105) c_265_101 rfl).trans ?_
      refine (E_is (L' := [.ref 82, .int x1, .int x2, .int (1 : Int32), .int x4, .int x5, w6]) c_265_105 (Nat.le_of_ble_eq_true rfl) rfl).trans ?_
      refine (E_il c_265_106 rfl).trans ?_
      refine (E_b0_eq (q := 134) c_265_107 rfl).trans ?_
      refine (if_neg (by decide)).trans ?_
      refine (E_al c_265_110 rfl (by decide)).trans ?_
      refine (E_gfr (k := 32) (r := 97) c_265_111 sh_82 rfl rfl rfl).trans ?_
      refine (E_al c_265_114 rfl (by decide)).trans ?_
      refine (E_gfi (k := 33) c_265_115 sh_82 rfl rfl rfl (by decide)).trans ?_
      refine (E_il c_265_118 rfl).trans ?_
      refine (E_ias (v := x4) c_265_120 sh_97 rfl).trans (ax_gd ?_)
      refine (E_al c_265_121 rfl (by decide)).trans ?_
      refine (E_dup c_265_122 rfl).trans ?_
      refine (E_gfi (k := 33) c_265_123 sh_82 rfl rfl rfl (by decide)).trans ?_
      refine (E_ic (v := (1 : Int32)) c_265_126 (by decide)).trans ?_
      refine (E_iadd c_265_127).trans ?_
      refine (E_pfi (k := 33) c_265_128 sh_82 rfl rfl rfl).trans ?_
      refine (E_il c_265_131 rfl).trans ?_
      refine (E_is (L' := [.ref 82, .int x1, .int x4, .int (1 : Int32), .int x4, .int x5, w6]) c_265_133 (Nat.le_of_ble_eq_true rfl) rfl).trans ?_
      refine (E_goto (q := 9) c_265_134 rfl).trans ?_
      rfl
set_option maxHeartbeats 4000000 in
theorem u_160_7 (d : Nat) (σ : ax_S) (x1 : Int32) : ev sO (d + 2) 160 0 [.ref 7, .int x1, .null, .null] [] σ = ev sO (d + 2) 160 5 [.ref 7, .int x1, .int (-1000000 : Int32), .int (0 : Int32)] [] σ := by
  refine (E_ic (v := (-1000000 : Int32)) c_160_0 (by decide)).trans ?_
  refine (E_is (L' := [.ref 7, .int x1, .int (-1000000 : Int32), .null]) c_160_2 (Nat.le_of_ble_eq_true rfl) rfl).trans ?_
  refine (E_ic (v := (0 : Int32)) c_160_3 (by decide)).trans ?_
  refine (E_is (L' := [.ref 7, .int x1, .int (-1000000 : Int32), .int (0 : Int32)]) c_160_4 (Nat.le_of_ble_eq_true rfl) rfl).trans ?_
  rfl
set_option maxHeartbeats 4000000 in
theorem u_160_7p5 (d : Nat) (σ : ax_S) (x1 : Int32) (x2 : Int32) (x3 : Int32) : ev sO (d + 2) 160 5 [.ref 7, .int x1, .int x2, .int x3] [] σ = if x3 < (8 : Int32) then ((cI sO (d + 1) 97 [.ref 17, .int x1, .int x3] σ).bind fun u0 => if 0 < u0.1 then ((cI sO (d + 1) 161 [.ref 8, .int x3] u0.2).bind fun u1 => ev sO (d + 2) 160 5 [.ref 7, .int x1, .int (if x2 < u1.1 then u1.1 else x2), .int (x3 + (1 : Int32))] [] u1.2) else (ev sO (d + 2) 160 5 [.ref 7, .int x1, .int x2, .int (x3 + (1 : Int32))] [] u0.2)) else (some (some (.int x2), σ)) := by
  refine (E_il c_160_5 rfl).trans ?_
  refine (E_ic (v := (8 : Int32)) c_160_6 (by decide)).trans ?_
  refine (E_br_ge (q := 42) c_160_8 rfl).trans (ax_ite ?_ ?_)
  · refine (E_al c_160_11 rfl (by decide)).trans ?_
    refine (E_gfr (k := 1) (r := 17) c_160_12 sh_7 rfl rfl rfl).trans ?_
    refine (E_il c_160_15 rfl).trans ?_
    refine (E_il c_160_16 rfl).trans ?_
    refine (E_cIV c_160_17 mi_97 rfl rfl (sO_kl sh_17) (Nat.le_of_ble_eq_true rfl) (Nat.le_of_ble_eq_true rfl)).trans (ax_bnd fun u0 => ?_)
    refine (E_b0_le (q := 36) c_160_20 rfl).trans (ax_ite ?_ ?_)
    · refine (E_il c_160_23 rfl).trans ?_
      refine (E_al c_160_24 rfl (by decide)).trans ?_
      refine (E_gfr (k := 0) (r := 8) c_160_25 sh_7 rfl rfl rfl).trans ?_
      refine (E_il c_160_28 rfl).trans ?_
      refine (E_cIV c_160_29 mi_161 rfl rfl (sO_kl sh_8) (Nat.le_of_ble_eq_true rfl) (Nat.le_of_ble_eq_true rfl)).trans (ax_bnd fun u1 => ?_)
      refine (E_max c_160_32 (Nat.le_of_ble_eq_true rfl)).trans ?_
      refine (E_is (L' := [.ref 7, .int x1, .int (if x2 < u1.1 then u1.1 else x2), .int x3]) c_160_35 (Nat.le_of_ble_eq_true rfl) rfl).trans ?_
      refine (E_inc (v := (1 : Int32)) (L' := [.ref 7, .int x1, .int (if x2 < u1.1 then u1.1 else x2), .int (x3 + (1 : Int32))]) c_160_36 rfl (by decide) rfl).trans ?_
      refine (E_goto (q := 5) c_160_39 rfl).trans ?_
      rfl
    · refine (E_inc (v := (1 : Int32)) (L' := [.ref 7, .int x1, .int x2, .int (x3 + (1 : Int32))]) c_160_36 rfl (by decide) rfl).trans ?_
      refine (E_goto (q := 5) c_160_39 rfl).trans ?_
      rfl
  · refine (E_il c_160_42 rfl).trans ?_
    exact E_rI c_160_43 mi_160
set_option maxHeartbeats 4000000 in
theorem u_162_7 (d : Nat) (σ : ax_S) (x1 : Int32) : ev sO (d + 2) 162 0 [.ref 7, .int x1, .null, .null] [] σ = ev sO (d + 2) 162 6 [.ref 7, .int x1, .int (2001 : Int32), .int (0 : Int32)] [] σ := by
  refine (E_ic (v := (2001 : Int32)) c_162_0 (by decide)).trans ?_
  refine (E_is (L' := [.ref 7, .int x1, .int (2001 : Int32), .null]) c_162_3 (Nat.le_of_ble_eq_true rfl) rfl).trans ?_
  refine (E_ic (v := (0 : Int32)) c_162_4 (by decide)).trans ?_
  refine (E_is (L' := [.ref 7, .int x1, .int (2001 : Int32), .int (0 : Int32)]) c_162_5 (Nat.le_of_ble_eq_true rfl) rfl).trans ?_
  rfl
set_option maxHeartbeats 4000000 in
theorem u_162_7p6 (d : Nat) (σ : ax_S) (x1 : Int32) (x2 : Int32) (x3 : Int32) : ev sO (d + 2) 162 6 [.ref 7, .int x1, .int x2, .int x3] [] σ = if x3 < (8 : Int32) then ((cI sO (d + 1) 97 [.ref 17, .int x1, .int x3] σ).bind fun u0 => if 0 < u0.1 then ((cI sO (d + 1) 163 [.ref 8, .int x3] u0.2).bind fun u1 => ev sO (d + 2) 162 6 [.ref 7, .int x1, .int (if u1.1 < x2 then u1.1 else x2), .int (x3 + (1 : Int32))] [] u1.2) else (ev sO (d + 2) 162 6 [.ref 7, .int x1, .int x2, .int (x3 + (1 : Int32))] [] u0.2)) else (some (some (.int x2), σ)) := by
  refine (E_il c_162_6 rfl).trans ?_
  refine (E_ic (v := (8 : Int32)) c_162_7 (by decide)).trans ?_
  refine (E_br_ge (q := 43) c_162_9 rfl).trans (ax_ite ?_ ?_)
  · refine (E_al c_162_12 rfl (by decide)).trans ?_
    refine (E_gfr (k := 1) (r := 17) c_162_13 sh_7 rfl rfl rfl).trans ?_
    refine (E_il c_162_16 rfl).trans ?_
    refine (E_il c_162_17 rfl).trans ?_
    refine (E_cIV c_162_18 mi_97 rfl rfl (sO_kl sh_17) (Nat.le_of_ble_eq_true rfl) (Nat.le_of_ble_eq_true rfl)).trans (ax_bnd fun u0 => ?_)
    refine (E_b0_le (q := 37) c_162_21 rfl).trans (ax_ite ?_ ?_)
    · refine (E_il c_162_24 rfl).trans ?_
      refine (E_al c_162_25 rfl (by decide)).trans ?_
      refine (E_gfr (k := 0) (r := 8) c_162_26 sh_7 rfl rfl rfl).trans ?_
      refine (E_il c_162_29 rfl).trans ?_
      refine (E_cIV c_162_30 mi_163 rfl rfl (sO_kl sh_8) (Nat.le_of_ble_eq_true rfl) (Nat.le_of_ble_eq_true rfl)).trans (ax_bnd fun u1 => ?_)
      refine (E_min c_162_33 (Nat.le_of_ble_eq_true rfl)).trans ?_
      refine (E_is (L' := [.ref 7, .int x1, .int (if u1.1 < x2 then u1.1 else x2), .int x3]) c_162_36 (Nat.le_of_ble_eq_true rfl) rfl).trans ?_
      refine (E_inc (v := (1 : Int32)) (L' := [.ref 7, .int x1, .int (if u1.1 < x2 then u1.1 else x2), .int (x3 + (1 : Int32))]) c_162_37 rfl (by decide) rfl).trans ?_
      refine (E_goto (q := 6) c_162_40 rfl).trans ?_
      rfl
    · refine (E_inc (v := (1 : Int32)) (L' := [.ref 7, .int x1, .int x2, .int (x3 + (1 : Int32))]) c_162_37 rfl (by decide) rfl).trans ?_
      refine (E_goto (q := 6) c_162_40 rfl).trans ?_
      rfl
  · refine (E_il c_162_43 rfl).trans ?_
    exact E_rI c_162_44 mi_162
set_option maxHeartbeats 4000000 in
theorem u_270_82 (d : Nat) (σ : ax_S) (x1 : Int32) (x2 : Int32) : ev sO (d + 2) 270 0 [.ref 82, .int x1, .int x2] [] σ = (cI sO (d + 1) 234 [.ref 82, .int x1, .int x2] σ).bind fun u0 => if u0.1 = 0 then (some (some (.int (0 : Int32)), u0.2)) else ((cI sO (d + 1) 235 [.ref 82, .int x1, .int x2] u0.2).bind fun u1 => if 0 < u1.1 then (some (some (.int (1 : Int32)), u1.2)) else (some (some (.int (0 : Int32)), u1.2))) := by
  refine (E_al c_270_0 rfl (by decide)).trans ?_
  refine (E_il c_270_1 rfl).trans ?_
  refine (E_il c_270_2 rfl).trans ?_
  refine (E_cIV c_270_3 mi_234 rfl rfl (sO_kl sh_82) (Nat.le_of_ble_eq_true rfl) (Nat.le_of_ble_eq_true rfl)).trans (ax_bnd fun u0 => ?_)
  refine (E_b0_eq (q := 22) c_270_6 rfl).trans (ax_ite ?_ ?_)
  · refine (E_ic (v := (0 : Int32)) c_270_22 (by decide)).trans ?_
    exact E_rZ (v := (0 : Int32)) c_270_23 mi_270 (by decide)
  · refine (E_al c_270_9 rfl (by decide)).trans ?_
    refine (E_il c_270_10 rfl).trans ?_
    refine (E_il c_270_11 rfl).trans ?_
    refine (E_cIV c_270_12 mi_235 rfl rfl (sO_kl sh_82) (Nat.le_of_ble_eq_true rfl) (Nat.le_of_ble_eq_true rfl)).trans (ax_bnd fun u1 => ?_)
    refine (E_b0_le (q := 22) c_270_15 rfl).trans (ax_ite ?_ ?_)
    · refine (E_ic (v := (1 : Int32)) c_270_18 (by decide)).trans ?_
      refine (E_goto (q := 23) c_270_19 rfl).trans ?_
      exact E_rZ (v := (1 : Int32)) c_270_23 mi_270 (by decide)
    · refine (E_ic (v := (0 : Int32)) c_270_22 (by decide)).trans ?_
      exact E_rZ (v := (0 : Int32)) c_270_23 mi_270 (by decide)
set_option maxHeartbeats 4000000 in
theorem u_165_17 (d : Nat) (σ : ax_S) (x1 : Int32) (x2 : Int32) : ev sO (d + 2) 165 0 [.ref 17, .int x1, .int x2, .null, .null, .null, .null] [] σ = (cI sO (d + 1) 102 [.ref 17, .int x1] σ).bind fun u0 => (cI sO (d + 1) 97 [.ref 17, .int u0.1, .int x2] u0.2).bind fun u1 => if 0 < u1.1 then ((cI sO (d + 1) 97 [.ref 17, .int x1, .int x2] u1.2).bind fun u2 => if u2.1 = 0 then (ev sO (d + 2) 165 37 [.ref 17, .int x1, .int x2, .int (0 : Int32), .int ((1 : Int32) <<< (x1 &&& 31)), .int (x1 + (1 : Int32)), .null] [] u2.2) else (some (some (.int (-1000000 : Int32)), u2.2))) else (some (some (.int (-1000000 : Int32)), u1.2)) := by
  refine (E_al c_165_0 rfl (by decide)).trans ?_
  refine (E_al c_165_1 rfl (by decide)).trans ?_
  refine (E_il c_165_2 rfl).trans ?_
  refine (E_cIV c_165_3 mi_102 rfl rfl (sO_kl sh_17) (Nat.le_of_ble_eq_true rfl) (Nat.le_of_ble_eq_true rfl)).trans (ax_bnd fun u0 => ?_)
  refine (E_il c_165_6 rfl).trans ?_
  refine (E_cIV c_165_7 mi_97 rfl rfl (sO_kl sh_17) (Nat.le_of_ble_eq_true rfl) (Nat.le_of_ble_eq_true rfl)).trans (ax_bnd fun u1 => ?_)
  refine (E_b0_le (q := 22) c_165_10 rfl).trans (ax_ite ?_ ?_)
  · refine (E_al c_165_13 rfl (by decide)).trans ?_
    refine (E_il c_165_14 rfl).trans ?_
    refine (E_il c_165_15 rfl).trans ?_
    refine (E_cIV c_165_16 mi_97 rfl rfl (sO_kl sh_17) (Nat.le_of_ble_eq_true rfl) (Nat.le_of_ble_eq_true rfl)).trans (ax_bnd fun u2 => ?_)
    refine (E_b0_eq (q := 25) c_165_19 rfl).trans (ax_ite ?_ ?_)
    · refine (E_ic (v := (0 : Int32)) c_165_25 (by decide)).trans ?_
      refine (E_is (L' := [.ref 17, .int x1, .int x2, .int (0 : Int32), .null, .null, .null]) c_165_26 (Nat.le_of_ble_eq_true rfl) rfl).trans ?_
      refine (E_ic (v := (1 : Int32)) c_165_27 (by decide)).trans ?_
      refine (E_il c_165_28 rfl).trans ?_
      refine (E_ishl c_165_29).trans ?_
      refine (E_is (L' := [.ref 17, .int x1, .int x2, .int (0 : Int32), .int ((1 : Int32) <<< (x1 &&& 31)), .null, .null]) c_165_30 (Nat.le_of_ble_eq_true rfl) rfl).trans ?_
      refine (E_il c_165_32 rfl).trans ?_
      refine (E_ic (v := (1 : Int32)) c_165_33 (by decide)).trans ?_
      refine (E_iadd c_165_34).trans ?_
      refine (E_is (L' := [.ref 17, .int x1, .int x2, .int (0 : Int32), .int ((1 : Int32) <<< (x1 &&& 31)), .int (x1 + (1 : Int32)), .null]) c_165_35 (Nat.le_of_ble_eq_true rfl) rfl).trans ?_
      rfl
    · refine (E_ic (v := (-1000000 : Int32)) c_165_22 (by decide)).trans ?_
      exact E_rI c_165_24 mi_165
  · refine (E_ic (v := (-1000000 : Int32)) c_165_22 (by decide)).trans ?_
    exact E_rI c_165_24 mi_165
set_option maxHeartbeats 4000000 in
theorem u_165_17p37 (d : Nat) (σ : ax_S) (w1 : Value) (hw1 : w1.category = 1) (x2 : Int32) (x3 : Int32) (x4 : Int32) (x5 : Int32) (w6 : Value) (hw6 : w6.category = 1) : ev sO (d + 2) 165 37 [.ref 17, w1, .int x2, .int x3, .int x4, .int x5, w6] [] σ = if x5 < (σ.1 17 0) then ((cI sO (d + 1) 102 [.ref 17, .int x5] σ).bind fun u0 => if u0.1 < 0 then (ev sO (d + 2) 165 37 [.ref 17, w1, .int x2, .int x3, .int x4, .int (x5 + (1 : Int32)), .int u0.1] [] u0.2) else (if ((x4 >>> (u0.1 &&& 31)) &&& (1 : Int32)) = 0 then (ev sO (d + 2) 165 37 [.ref 17, w1, .int x2, .int x3, .int x4, .int (x5 + (1 : Int32)), .int u0.1] [] u0.2) else ((cI sO (d + 1) 97 [.ref 17, .int x5, .int x2] u0.2).bind fun u1 => if u1.1 = 0 then (ev sO (d + 2) 165 37 [.ref 17, w1, .int x2, .int (x3 + (1 : Int32)), .int (x4 ||| ((1 : Int32) <<< (x5 &&& 31))), .int (x5 + (1 : Int32)), .int u0.1] [] u1.2) else (some (some (.int (-1000000 : Int32)), u1.2))))) else (some (some (.int x3), σ)) := by
  refine (E_il c_165_37 rfl).trans ?_
  refine (E_al c_165_39 rfl (by decide)).trans ?_
  refine (E_gfi (k := 0) c_165_40 sh_17 rfl rfl rfl (by decide)).trans ?_
  refine (E_br_ge (q := 100) c_165_43 rfl).trans (ax_ite ?_ ?_)
  · refine (E_al c_165_46 rfl (by decide)).trans ?_
    refine (E_il c_165_47 rfl).trans ?_
    refine (E_cIV c_165_49 mi_102 rfl rfl (sO_kl sh_17) (Nat.le_of_ble_eq_true rfl) (Nat.le_of_ble_eq_true rfl)).trans (ax_bnd fun u0 => ?_)
    refine (E_is (L' := [.ref 17, w1, .int x2, .int x3, .int x4, .int x5, .int u0.1]) c_165_52 (Nat.le_of_ble_eq_true rfl) rfl).trans ?_
    refine (E_il c_165_54 rfl).trans ?_
    refine (E_b0_lt (q := 94) c_165_56 rfl).trans (ax_ite ?_ ?_)
    · refine (E_inc (v := (1 : Int32)) (L' := [.ref 17, w1, .int x2, .int x3, .int x4, .int (x5 + (1 : Int32)), .int u0.1]) c_165_94 rfl (by decide) rfl).trans ?_
      refine (E_goto (q := 37) c_165_97 rfl).trans ?_
      rfl
    · refine (E_il c_165_59 rfl).trans ?_
      refine (E_il c_165_61 rfl).trans ?_
      refine (E_ishr c_165_63).trans ?_
      refine (E_ic (v := (1 : Int32)) c_165_64 (by decide)).trans ?_
      refine (E_iand c_165_65).trans ?_
      refine (E_b0_eq (q := 94) c_165_66 rfl).trans (ax_ite ?_ ?_)
      · refine (E_inc (v := (1 : Int32)) (L' := [.ref 17, w1, .int x2, .int x3, .int x4, .int (x5 + (1 : Int32)), .int u0.1]) c_165_94 rfl (by decide) rfl).trans ?_
        refine (E_goto (q := 37) c_165_97 rfl).trans ?_
        rfl
      · refine (E_al c_165_69 rfl (by decide)).trans ?_
        refine (E_il c_165_70 rfl).trans ?_
        refine (E_il c_165_72 rfl).trans ?_
        refine (E_cIV c_165_73 mi_97 rfl rfl (sO_kl sh_17) (Nat.le_of_ble_eq_true rfl) (Nat.le_of_ble_eq_true rfl)).trans (ax_bnd fun u1 => ?_)
        refine (E_b0_eq (q := 82) c_165_76 rfl).trans (ax_ite ?_ ?_)
        · refine (E_il c_165_82 rfl).trans ?_
          refine (E_ic (v := (1 : Int32)) c_165_84 (by decide)).trans ?_
          refine (E_il c_165_85 rfl).trans ?_
          refine (E_ishl c_165_87).trans ?_
          refine (E_ior c_165_88).trans ?_
          refine (E_is (L' := [.ref 17, w1, .int x2, .int x3, .int (x4 ||| ((1 : Int32) <<< (x5 &&& 31))), .int x5, .int u0.1]) c_165_89 (Nat.le_of_ble_eq_true rfl) rfl).trans ?_
          refine (E_inc (v := (1 : Int32)) (L' := [.ref 17, w1, .int x2, .int (x3 + (1 : Int32)), .int (x4 ||| ((1 : Int32) <<< (x5 &&& 31))), .int x5, .int u0.1]) c_165_91 rfl (by decide) rfl).trans ?_
          refine (E_inc (v := (1 : Int32)) (L' := [.ref 17, w1, .int x2, .int (x3 + (1 : Int32)), .int (x4 ||| ((1 : Int32) <<< (x5 &&& 31))), .int (x5 + (1 : Int32)), .int u0.1]) c_165_94 rfl (by decide) rfl).trans ?_
          refine (E_goto (q := 37) c_165_97 rfl).trans ?_
          rfl
        · refine (E_ic (v := (-1000000 : Int32)) c_165_79 (by decide)).trans ?_
          exact E_rI c_165_81 mi_165
  · refine (E_il c_165_100 rfl).trans ?_
    exact E_rI c_165_101 mi_165
set_option maxHeartbeats 4000000 in
theorem u_272 (d : Nat) (σ : ax_S) (x0 : Int32) : ev sO (d + 1) 272 0 [.int x0] [] σ = (cI sO d 198 [.long x0.toInt64, .long (0 : Int64), .long (7 : Int64)] σ).bind fun u0 => some (some (.int (u0.1 &&& 1)), u0.2) := by
  refine (E_il c_272_0 rfl).trans ?_
  refine (E_i2l c_272_1).trans ?_
  refine (E_lc (v := (0 : Int64)) c_272_2 (by decide)).trans ?_
  refine (E_l2 (v := (7 : Int64)) c_272_3 (by decide)).trans ?_
  refine (E_cIS c_272_6 mi_198 rfl rfl (Nat.le_of_ble_eq_true rfl) (Nat.le_of_ble_eq_true rfl)).trans (ax_bnd fun u0 => ?_)
  exact E_rZ (v := (u0.1 &&& 1)) c_272_9 mi_272 rfl
set_option maxHeartbeats 4000000 in
theorem u_273_82 (d : Nat) (σ : ax_S) (x1 : Int32) (x2 : Int32) : ev sO (d + 3) 273 0 [.ref 82, .int x1, .int x2, .null, .null, .null, .null] [] σ = (cI sO (d + 2) 232 [.ref 82, .int x1, .int (3 : Int32)] σ).bind fun u0 => if u0.1 < 0 then (some (some (.int (-1000000 : Int32)), u0.2)) else ((cI sO (d + 2) 270 [.ref 82, .int u0.1, .int x2] u0.2).bind fun u1 => if u1.1 = 0 then (some (some (.int (-1000000 : Int32)), u1.2)) else ((cI sO (d + 2) 274 [.ref 82, .int x1, .int x2] u1.2).bind fun u2 => if u2.1 = 0 then (some (some (.int (-1000000 : Int32)), u2.2)) else (ev sO (d + 3) 273 42 [.ref 82, .int x1, .int x2, .int u0.1, .int ((1 : Int32) <<< (x1 &&& 31)), .int (x1 + (1 : Int32)), .null] [] u2.2))) := by
  refine (E_al c_273_0 rfl (by decide)).trans ?_
  refine (E_il c_273_1 rfl).trans ?_
  refine (E_ic (v := (3 : Int32)) c_273_2 (by decide)).trans ?_
  refine (E_cIV c_273_3 mi_232 rfl rfl (sO_kl sh_82) (Nat.le_of_ble_eq_true rfl) (Nat.le_of_ble_eq_true rfl)).trans (ax_bnd fun u0 => ?_)
  refine (E_is (L' := [.ref 82, .int x1, .int x2, .int u0.1, .null, .null, .null]) c_273_6 (Nat.le_of_ble_eq_true rfl) rfl).trans ?_
  refine (E_il c_273_7 rfl).trans ?_
  refine (E_b0_lt (q := 29) c_273_8 rfl).trans (ax_ite ?_ ?_)
  · refine (E_ic (v := (-1000000 : Int32)) c_273_29 (by decide)).trans ?_
    exact E_rI c_273_31 mi_273
  · refine (E_al c_273_11 rfl (by decide)).trans ?_
    refine (E_il c_273_12 rfl).trans ?_
    refine (E_il c_273_13 rfl).trans ?_
    refine (E_cIV c_273_14 mi_270 rfl rfl (sO_kl sh_82) (Nat.le_of_ble_eq_true rfl) (Nat.le_of_ble_eq_true rfl)).trans (ax_bnd fun u1 => ?_)
    refine (E_b0_eq (q := 29) c_273_17 rfl).trans (ax_ite ?_ ?_)
    · refine (E_ic (v := (-1000000 : Int32)) c_273_29 (by decide)).trans ?_
      exact E_rI c_273_31 mi_273
    · refine (E_al c_273_20 rfl (by decide)).trans ?_
      refine (E_il c_273_21 rfl).trans ?_
      refine (E_il c_273_22 rfl).trans ?_
      refine (E_cIV c_273_23 mi_274 rfl rfl (sO_kl sh_82) (Nat.le_of_ble_eq_true rfl) (Nat.le_of_ble_eq_true rfl)).trans (ax_bnd fun u2 => ?_)
      refine (E_b0_ne (q := 32) c_273_26 rfl).trans (ax_ite ?_ ?_)
      · refine (E_ic (v := (-1000000 : Int32)) c_273_29 (by decide)).trans ?_
        exact E_rI c_273_31 mi_273
      · refine (E_ic (v := (1 : Int32)) c_273_32 (by decide)).trans ?_
        refine (E_il c_273_33 rfl).trans ?_
        refine (E_ishl c_273_34).trans ?_
        refine (E_is (L' := [.ref 82, .int x1, .int x2, .int u0.1, .int ((1 : Int32) <<< (x1 &&& 31)), .null, .null]) c_273_35 (Nat.le_of_ble_eq_true rfl) rfl).trans ?_
        refine (E_il c_273_37 rfl).trans ?_
        refine (E_ic (v := (1 : Int32)) c_273_38 (by decide)).trans ?_
        refine (E_iadd c_273_39).trans ?_
        refine (E_is (L' := [.ref 82, .int x1, .int x2, .int u0.1, .int ((1 : Int32) <<< (x1 &&& 31)), .int (x1 + (1 : Int32)), .null]) c_273_40 (Nat.le_of_ble_eq_true rfl) rfl).trans ?_
        rfl
set_option maxHeartbeats 4000000 in
theorem u_273_82p42 (d : Nat) (σ : ax_S) (w1 : Value) (hw1 : w1.category = 1) (x2 : Int32) (w3 : Value) (hw3 : w3.category = 1) (x4 : Int32) (x5 : Int32) (w6 : Value) (hw6 : w6.category = 1) : ev sO (d + 3) 273 42 [.ref 82, w1, .int x2, w3, .int x4, .int x5, w6] [] σ = if x5 < (σ.1 88 0) then ((cI sO (d + 2) 232 [.ref 82, .int x5, .int (3 : Int32)] σ).bind fun u0 => if u0.1 < 0 then (ev sO (d + 3) 273 42 [.ref 82, w1, .int x2, w3, .int x4, .int (x5 + (1 : Int32)), .int u0.1] [] u0.2) else (if ((x4 >>> (u0.1 &&& 31)) &&& (1 : Int32)) = (1 : Int32) then ((cI sO (d + 2) 274 [.ref 82, .int x5, .int x2] u0.2).bind fun u1 => if u1.1 = 0 then (some (some (.int (-1000000 : Int32)), u1.2)) else (ev sO (d + 3) 273 42 [.ref 82, w1, .int x2, w3, .int (x4 ||| ((1 : Int32) <<< (x5 &&& 31))), .int (x5 + (1 : Int32)), .int u0.1] [] u1.2)) else (ev sO (d + 3) 273 42 [.ref 82, w1, .int x2, w3, .int x4, .int (x5 + (1 : Int32)), .int u0.1] [] u0.2))) else ((cI sO (d + 2) 240 [.int x4] σ).bind fun u2 => some (some (.int (u2.1 - (1 : Int32))), u2.2)) := by
  refine (E_il c_273_42 rfl).trans ?_
  refine (E_al c_273_44 rfl (by decide)).trans ?_
  refine (E_gfr (k := 8) (r := 88) c_273_45 sh_82 rfl rfl rfl).trans ?_
  refine (E_ic (v := (0 : Int32)) c_273_48 (by decide)).trans ?_
  refine (E_ialk (k := 0) c_273_49 sh_88 (by decide) (by decide)).trans ?_
  refine (E_br_ge (q := 106) c_273_50 rfl).trans (ax_ite ?_ ?_)
  · refine (E_al c_273_53 rfl (by decide)).trans ?_
    refine (E_il c_273_54 rfl).trans ?_
    refine (E_ic (v := (3 : Int32)) c_273_56 (by decide)).trans ?_
    refine (E_cIV c_273_57 mi_232 rfl rfl (sO_kl sh_82) (Nat.le_of_ble_eq_true rfl) (Nat.le_of_ble_eq_true rfl)).trans (ax_bnd fun u0 => ?_)
    refine (E_is (L' := [.ref 82, w1, .int x2, w3, .int x4, .int x5, .int u0.1]) c_273_60 (Nat.le_of_ble_eq_true rfl) rfl).trans ?_
    refine (E_il c_273_62 rfl).trans ?_
    refine (E_b0_lt (q := 100) c_273_64 rfl).trans (ax_ite ?_ ?_)
    · refine (E_inc (v := (1 : Int32)) (L' := [.ref 82, w1, .int x2, w3, .int x4, .int (x5 + (1 : Int32)), .int u0.1]) c_273_100 rfl (by decide) rfl).trans ?_
      refine (E_goto (q := 42) c_273_103 rfl).trans ?_
      rfl
    · refine (E_il c_273_67 rfl).trans ?_
      refine (E_il c_273_69 rfl).trans ?_
      refine (E_ishr c_273_71).trans ?_
      refine (E_ic (v := (1 : Int32)) c_273_72 (by decide)).trans ?_
      refine (E_iand c_273_73).trans ?_
      refine (E_ic (v := (1 : Int32)) c_273_74 (by decide)).trans ?_
      refine (E_br_ne (q := 100) c_273_75 rfl).trans (ax_ite ?_ ?_)
      · refine (E_il c_273_78 rfl).trans ?_
        refine (E_ic (v := (1 : Int32)) c_273_80 (by decide)).trans ?_
        refine (E_il c_273_81 rfl).trans ?_
        refine (E_ishl c_273_83).trans ?_
        refine (E_ior c_273_84).trans ?_
        refine (E_is (L' := [.ref 82, w1, .int x2, w3, .int (x4 ||| ((1 : Int32) <<< (x5 &&& 31))), .int x5, .int u0.1]) c_273_85 (Nat.le_of_ble_eq_true rfl) (by simp [ax_st1, ax_st2, ax_drp, hw3])).trans ?_
        refine (E_al c_273_87 rfl (by decide)).trans ?_
        refine (E_il c_273_88 rfl).trans ?_
        refine (E_il c_273_90 rfl).trans ?_
        refine (E_cIV c_273_91 mi_274 rfl rfl (sO_kl sh_82) (Nat.le_of_ble_eq_true rfl) (Nat.le_of_ble_eq_true rfl)).trans (ax_bnd fun u1 => ?_)
        refine (E_b0_ne (q := 100) c_273_94 rfl).trans (ax_ite ?_ ?_)
        · refine (E_ic (v := (-1000000 : Int32)) c_273_97 (by decide)).trans ?_
          exact E_rI c_273_99 mi_273
        · refine (E_inc (v := (1 : Int32)) (L' := [.ref 82, w1, .int x2, w3, .int (x4 ||| ((1 : Int32) <<< (x5 &&& 31))), .int (x5 + (1 : Int32)), .int u0.1]) c_273_100 rfl (by decide) rfl).trans ?_
          refine (E_goto (q := 42) c_273_103 rfl).trans ?_
          rfl
      · refine (E_inc (v := (1 : Int32)) (L' := [.ref 82, w1, .int x2, w3, .int x4, .int (x5 + (1 : Int32)), .int u0.1]) c_273_100 rfl (by decide) rfl).trans ?_
        refine (E_goto (q := 42) c_273_103 rfl).trans ?_
        rfl
  · refine (E_il c_273_106 rfl).trans ?_
    refine (E_cIS c_273_108 mi_240 rfl rfl (Nat.le_of_ble_eq_true rfl) (Nat.le_of_ble_eq_true rfl)).trans (ax_bnd fun u2 => ?_)
    refine (E_ic (v := (1 : Int32)) c_273_111 (by decide)).trans ?_
    refine (E_isub c_273_112).trans ?_
    exact E_rI c_273_113 mi_273
set_option maxHeartbeats 4000000 in
theorem u_168_17 (d : Nat) (σ : ax_S) (x1 : Int32) (x2 : Int32) (x3 : Int32) (x4 : Int32) : ev sO (d + 2) 168 0 [.ref 17, .int x1, .int x2, .int x3, .int x4, .null, .null, .null] [] σ = ev sO (d + 2) 168 6 [.ref 17, .int x1, .int x2, .int x3, .int x4, .int (0 : Int32), .int (0 : Int32), .null] [] σ := by
  refine (E_ic (v := (0 : Int32)) c_168_0 (by decide)).trans ?_
  refine (E_is (L' := [.ref 17, .int x1, .int x2, .int x3, .int x4, .int (0 : Int32), .null, .null]) c_168_1 (Nat.le_of_ble_eq_true rfl) rfl).trans ?_
  refine (E_ic (v := (0 : Int32)) c_168_3 (by decide)).trans ?_
  refine (E_is (L' := [.ref 17, .int x1, .int x2, .int x3, .int x4, .int (0 : Int32), .int (0 : Int32), .null]) c_168_4 (Nat.le_of_ble_eq_true rfl) rfl).trans ?_
  rfl
set_option maxHeartbeats 4000000 in
theorem u_168_17p6 (d : Nat) (σ : ax_S) (x1 : Int32) (x2 : Int32) (x3 : Int32) (x4 : Int32) (x5 : Int32) (x6 : Int32) (w7 : Value) (hw7 : w7.category = 1) : ev sO (d + 2) 168 6 [.ref 17, .int x1, .int x2, .int x3, .int x4, .int x5, .int x6, w7] [] σ = if x6 < (11 : Int32) then ((cI sO (d + 1) 97 [.ref 17, .int x1, .int x6] σ).bind fun u0 => if u0.1 = (-1000000 : Int32) then ((cI sO (d + 1) 97 [.ref 17, .int x2, .int x6] u0.2).bind fun u1 => (cI sO (d + 1) 97 [.ref 17, .int x3, .int x6] u1.2).bind fun u2 => (cI sO (d + 1) 97 [.ref 17, .int x4, .int x6] u2.2).bind fun u3 => (cI sO (d + 1) 169 [.int u1.1, .int u2.1, .int u3.1] u3.2).bind fun u4 => (cV sO (d + 1) 83 [.ref 17, .int x1, .int x6, .int u4.1] u4.2).bind fun u5 => if u4.1 = (-1000000 : Int32) then (ev sO (d + 2) 168 6 [.ref 17, .int x1, .int x2, .int x3, .int x4, .int (x5 + (0 : Int32)), .int (x6 + (1 : Int32)), .int u4.1] [] u5) else (ev sO (d + 2) 168 6 [.ref 17, .int x1, .int x2, .int x3, .int x4, .int (x5 + (1 : Int32)), .int (x6 + (1 : Int32)), .int u4.1] [] u5)) else (ev sO (d + 2) 168 6 [.ref 17, .int x1, .int x2, .int x3, .int x4, .int x5, .int (x6 + (1 : Int32)), w7] [] u0.2)) else (some (some (.int x5), σ)) := by
  refine (E_il c_168_6 rfl).trans ?_
  refine (E_ic (v := (11 : Int32)) c_168_8 (by decide)).trans ?_
  refine (E_br_ge (q := 84) c_168_10 rfl).trans (ax_ite ?_ ?_)
  · refine (E_al c_168_13 rfl (by decide)).trans ?_
    refine (E_il c_168_14 rfl).trans ?_
    refine (E_il c_168_15 rfl).trans ?_
    refine (E_cIV c_168_17 mi_97 rfl rfl (sO_kl sh_17) (Nat.le_of_ble_eq_true rfl) (Nat.le_of_ble_eq_true rfl)).trans (ax_bnd fun u0 => ?_)
    refine (E_ic (v := (-1000000 : Int32)) c_168_20 (by decide)).trans ?_
    refine (E_br_ne (q := 78) c_168_22 rfl).trans (ax_ite ?_ ?_)
    · refine (E_al c_168_25 rfl (by decide)).trans ?_
      refine (E_il c_168_26 rfl).trans ?_
      refine (E_il c_168_27 rfl).trans ?_
      refine (E_cIV c_168_29 mi_97 rfl rfl (sO_kl sh_17) (Nat.le_of_ble_eq_true rfl) (Nat.le_of_ble_eq_true rfl)).trans (ax_bnd fun u1 => ?_)
      refine (E_al c_168_32 rfl (by decide)).trans ?_
      refine (E_il c_168_33 rfl).trans ?_
      refine (E_il c_168_34 rfl).trans ?_
      refine (E_cIV c_168_36 mi_97 rfl rfl (sO_kl sh_17) (Nat.le_of_ble_eq_true rfl) (Nat.le_of_ble_eq_true rfl)).trans (ax_bnd fun u2 => ?_)
      refine (E_al c_168_39 rfl (by decide)).trans ?_
      refine (E_il c_168_40 rfl).trans ?_
      refine (E_il c_168_42 rfl).trans ?_
      refine (E_cIV c_168_44 mi_97 rfl rfl (sO_kl sh_17) (Nat.le_of_ble_eq_true rfl) (Nat.le_of_ble_eq_true rfl)).trans (ax_bnd fun u3 => ?_)
      refine (E_cIS c_168_47 mi_169 rfl rfl (Nat.le_of_ble_eq_true rfl) (Nat.le_of_ble_eq_true rfl)).trans (ax_bnd fun u4 => ?_)
      refine (E_is (L' := [.ref 17, .int x1, .int x2, .int x3, .int x4, .int x5, .int x6, .int u4.1]) c_168_50 (Nat.le_of_ble_eq_true rfl) rfl).trans ?_
      refine (E_al c_168_52 rfl (by decide)).trans ?_
      refine (E_il c_168_53 rfl).trans ?_
      refine (E_il c_168_54 rfl).trans ?_
      refine (E_il c_168_56 rfl).trans ?_
      refine (E_cVV c_168_58 mi_83 rfl (sO_kl sh_17) (Nat.le_of_ble_eq_true rfl) (Nat.le_of_ble_eq_true rfl)).trans (ax_bnd fun u5 => ?_)
      refine (E_il c_168_61 rfl).trans ?_
      refine (E_il c_168_63 rfl).trans ?_
      refine (E_ic (v := (-1000000 : Int32)) c_168_65 (by decide)).trans ?_
      refine (E_br_ne (q := 74) c_168_67 rfl).trans (ax_ite ?_ ?_)
      · refine (E_ic (v := (0 : Int32)) c_168_70 (by decide)).trans ?_
        refine (E_goto (q := 75) c_168_71 rfl).trans ?_
        refine (E_iadd c_168_75).trans ?_
        refine (E_is (L' := [.ref 17, .int x1, .int x2, .int x3, .int x4, .int (x5 + (0 : Int32)), .int x6, .int u4.1]) c_168_76 (Nat.le_of_ble_eq_true rfl) rfl).trans ?_
        refine (E_inc (v := (1 : Int32)) (L' := [.ref 17, .int x1, .int x2, .int x3, .int x4, .int (x5 + (0 : Int32)), .int (x6 + (1 : Int32)), .int u4.1]) c_168_78 rfl (by decide) rfl).trans ?_
        refine (E_goto (q := 6) c_168_81 rfl).trans ?_
        rfl
      · refine (E_ic (v := (1 : Int32)) c_168_74 (by decide)).trans ?_
        refine (E_iadd c_168_75).trans ?_
        refine (E_is (L' := [.ref 17, .int x1, .int x2, .int x3, .int x4, .int (x5 + (1 : Int32)), .int x6, .int u4.1]) c_168_76 (Nat.le_of_ble_eq_true rfl) rfl).trans ?_
        refine (E_inc (v := (1 : Int32)) (L' := [.ref 17, .int x1, .int x2, .int x3, .int x4, .int (x5 + (1 : Int32)), .int (x6 + (1 : Int32)), .int u4.1]) c_168_78 rfl (by decide) rfl).trans ?_
        refine (E_goto (q := 6) c_168_81 rfl).trans ?_
        rfl
    · refine (E_inc (v := (1 : Int32)) (L' := [.ref 17, .int x1, .int x2, .int x3, .int x4, .int x5, .int (x6 + (1 : Int32)), w7]) c_168_78 rfl (by decide) rfl).trans ?_
      refine (E_goto (q := 6) c_168_81 rfl).trans ?_
      rfl
  · refine (E_il c_168_84 rfl).trans ?_
    exact E_rI c_168_86 mi_168
set_option maxHeartbeats 4000000 in
theorem u_171_63_17 (d : Nat) (σ : ax_S) (x2 : Int32) : ev sO (d + 5) 171 0 [.ref 63, .ref 17, .int x2, .null, .null, .null, .null] [] σ = (cV sO (d + 4) 117 [.ref 63] σ).bind fun u0 => (cI sO (d + 4) 124 [.ref 17] u0).bind fun u1 => ev sO (d + 5) 171 19 [.ref 63, .ref 17, .int x2, .int u1.1, .int (((1 : Int32) <<< (u1.1 &&& 31)) - (1 : Int32)), .int (0 : Int32), .null] [] u1.2 := by
  refine (E_al c_171_0 rfl (by decide)).trans ?_
  refine (E_cVV c_171_1 mi_117 rfl (sO_kl sh_63) (Nat.le_of_ble_eq_true rfl) (Nat.le_of_ble_eq_true rfl)).trans (ax_bnd fun u0 => ?_)
  refine (E_al c_171_4 rfl (by decide)).trans ?_
  refine (E_cIV c_171_5 mi_124 rfl rfl (sO_kl sh_17) (Nat.le_of_ble_eq_true rfl) (Nat.le_of_ble_eq_true rfl)).trans (ax_bnd fun u1 => ?_)
  refine (E_is (L' := [.ref 63, .ref 17, .int x2, .int u1.1, .null, .null, .null]) c_171_8 (Nat.le_of_ble_eq_true rfl) rfl).trans ?_
  refine (E_ic (v := (1 : Int32)) c_171_9 (by decide)).trans ?_
  refine (E_il c_171_10 rfl).trans ?_
  refine (E_ishl c_171_11).trans ?_
  refine (E_ic (v := (1 : Int32)) c_171_12 (by decide)).trans ?_
  refine (E_isub c_171_13).trans ?_
  refine (E_is (L' := [.ref 63, .ref 17, .int x2, .int u1.1, .int (((1 : Int32) <<< (u1.1 &&& 31)) - (1 : Int32)), .null, .null]) c_171_14 (Nat.le_of_ble_eq_true rfl) rfl).trans ?_
  refine (E_ic (v := (0 : Int32)) c_171_16 (by decide)).trans ?_
  refine (E_is (L' := [.ref 63, .ref 17, .int x2, .int u1.1, .int (((1 : Int32) <<< (u1.1 &&& 31)) - (1 : Int32)), .int (0 : Int32), .null]) c_171_17 (Nat.le_of_ble_eq_true rfl) rfl).trans ?_
  rfl
set_option maxHeartbeats 4000000 in
theorem u_171_63_17p19 (d : Nat) (σ : ax_S) (x2 : Int32) (x3 : Int32) (x4 : Int32) (x5 : Int32) (w6 : Value) (hw6 : w6.category = 1) : ev sO (d + 5) 171 19 [.ref 63, .ref 17, .int x2, .int x3, .int x4, .int x5, w6] [] σ = if x5 < x3 then (if x5 < (12 : Int32) then ((cI sO (d + 4) 172 [.ref 17, .int x5, .int x2] σ).bind fun u0 => gd (0 ≤ x5.toInt ∧ x5.toInt < (12 : Nat)) (ev sO (d + 5) 171 19 [.ref 63, .ref 17, .int x2, .int x3, .int x4, .int (x5 + (1 : Int32)), w6] [] (sI u0.2 64 x5.toNatClampNeg u0.1))) else (ev sO (d + 5) 171 55 [.ref 63, .ref 17, .int x2, .int x3, .int x4, .int (1 : Int32), w6] [] σ)) else (ev sO (d + 5) 171 55 [.ref 63, .ref 17, .int x2, .int x3, .int x4, .int (1 : Int32), w6] [] σ) := by
  refine (E_il c_171_19 rfl).trans ?_
  refine (E_il c_171_21 rfl).trans ?_
  refine (E_br_ge (q := 52) c_171_22 rfl).trans (ax_ite ?_ ?_)
  · refine (E_il c_171_25 rfl).trans ?_
    refine (E_ic (v := (12 : Int32)) c_171_27 (by decide)).trans ?_
    refine (E_br_ge (q := 52) c_171_29 rfl).trans (ax_ite ?_ ?_)
    · refine (E_al c_171_32 rfl (by decide)).trans ?_
      refine (E_gfr (k := 0) (r := 64) c_171_33 sh_63 rfl rfl rfl).trans ?_
      refine (E_il c_171_36 rfl).trans ?_
      refine (E_al c_171_38 rfl (by decide)).trans ?_
      refine (E_il c_171_39 rfl).trans ?_
      refine (E_il c_171_41 rfl).trans ?_
      refine (E_cIS c_171_42 mi_172 rfl rfl (Nat.le_of_ble_eq_true rfl) (Nat.le_of_ble_eq_true rfl)).trans (ax_bnd fun u0 => ?_)
      refine (E_ias (v := u0.1) c_171_45 sh_64 rfl).trans (ax_gd ?_)
      refine (E_inc (v := (1 : Int32)) (L' := [.ref 63, .ref 17, .int x2, .int x3, .int x4, .int (x5 + (1 : Int32)), w6]) c_171_46 rfl (by decide) rfl).trans ?_
      refine (E_goto (q := 19) c_171_49 rfl).trans ?_
      rfl
    · refine (E_ic (v := (1 : Int32)) c_171_52 (by decide)).trans ?_
      refine (E_is (L' := [.ref 63, .ref 17, .int x2, .int x3, .int x4, .int (1 : Int32), w6]) c_171_53 (Nat.le_of_ble_eq_true rfl) rfl).trans ?_
      rfl
  · refine (E_ic (v := (1 : Int32)) c_171_52 (by decide)).trans ?_
    refine (E_is (L' := [.ref 63, .ref 17, .int x2, .int x3, .int x4, .int (1 : Int32), w6]) c_171_53 (Nat.le_of_ble_eq_true rfl) rfl).trans ?_
    rfl
set_option maxHeartbeats 4000000 in
theorem u_171_63_17p55 (d : Nat) (σ : ax_S) (w1 : Value) (hw1 : w1.category = 1) (w2 : Value) (hw2 : w2.category = 1) (w3 : Value) (hw3 : w3.category = 1) (x4 : Int32) (x5 : Int32) (w6 : Value) (hw6 : w6.category = 1) : ev sO (d + 5) 171 55 [.ref 63, w1, w2, w3, .int x4, .int x5, w6] [] σ = if x4 < x5 then (some (none, σ)) else (if x5 < (4096 : Int32) then ((cI sO (d + 4) 118 [.int x5] σ).bind fun u0 => gd (0 ≤ (x5 &&& (x5 - (1 : Int32))).toInt ∧ (x5 &&& (x5 - (1 : Int32))).toInt < (4096 : Nat)) (gd (0 ≤ u0.1.toInt ∧ u0.1.toInt < (12 : Nat)) (gd (0 ≤ x5.toInt ∧ x5.toInt < (4096 : Nat)) (gd (0 ≤ x5.toInt ∧ x5.toInt < (4096 : Nat)) (if ((sI u0.2 65 x5.toNatClampNeg ((u0.2.1 65 (x5 &&& (x5 - (1 : Int32))).toNatClampNeg) ||| (u0.2.1 64 u0.1.toNatClampNeg))).1 65 x5.toNatClampNeg) = x4 then ((cV sO (d + 4) 119 [.ref 63, .int x5] (sI u0.2 65 x5.toNatClampNeg ((u0.2.1 65 (x5 &&& (x5 - (1 : Int32))).toNatClampNeg) ||| (u0.2.1 64 u0.1.toNatClampNeg)))).bind fun u1 => ev sO (d + 5) 171 55 [.ref 63, w1, w2, w3, .int x4, .int (x5 + (1 : Int32)), .int u0.1] [] u1) else (ev sO (d + 5) 171 55 [.ref 63, w1, w2, w3, .int x4, .int (x5 + (1 : Int32)), .int u0.1] [] (sI u0.2 65 x5.toNatClampNeg ((u0.2.1 65 (x5 &&& (x5 - (1 : Int32))).toNatClampNeg) ||| (u0.2.1 64 u0.1.toNatClampNeg))))))))) else (some (none, σ))) := by
  refine (E_il c_171_55 rfl).trans ?_
  refine (E_il c_171_57 rfl).trans ?_
  refine (E_br_gt (q := 128) c_171_59 rfl).trans (ax_ite ?_ ?_)
  · exact E_rV c_171_128 mi_171
  · refine (E_il c_171_62 rfl).trans ?_
    refine (E_ic (v := (4096 : Int32)) c_171_64 (by decide)).trans ?_
    refine (E_br_ge (q := 128) c_171_67 rfl).trans (ax_ite ?_ ?_)
    · refine (E_il c_171_70 rfl).trans ?_
      refine (E_cIS c_171_72 mi_118 rfl rfl (Nat.le_of_ble_eq_true rfl) (Nat.le_of_ble_eq_true rfl)).trans (ax_bnd fun u0 => ?_)
      refine (E_is (L' := [.ref 63, w1, w2, w3, .int x4, .int x5, .int u0.1]) c_171_75 (Nat.le_of_ble_eq_true rfl) rfl).trans ?_
      refine (E_al c_171_77 rfl (by decide)).trans ?_
      refine (E_gfr (k := 1) (r := 65) c_171_78 sh_63 rfl rfl rfl).trans ?_
      refine (E_il c_171_81 rfl).trans ?_
      refine (E_al c_171_83 rfl (by decide)).trans ?_
      refine (E_gfr (k := 1) (r := 65) c_171_84 sh_63 rfl rfl rfl).trans ?_
      refine (E_il c_171_87 rfl).trans ?_
      refine (E_il c_171_89 rfl).trans ?_
      refine (E_ic (v := (1 : Int32)) c_171_91 (by decide)).trans ?_
      refine (E_isub c_171_92).trans ?_
      refine (E_iand c_171_93).trans ?_
      refine (E_ial c_171_94 sh_65).trans (ax_gd ?_)
      refine (E_al c_171_95 rfl (by decide)).trans ?_
      refine (E_gfr (k := 0) (r := 64) c_171_96 sh_63 rfl rfl rfl).trans ?_
      refine (E_il c_171_99 rfl).trans ?_
      refine (E_ial c_171_101 sh_64).trans (ax_gd ?_)
      refine (E_ior c_171_102).trans ?_
      refine (E_ias (v := ((u0.2.1 65 (x5 &&& (x5 - (1 : Int32))).toNatClampNeg) ||| (u0.2.1 64 u0.1.toNatClampNeg))) c_171_103 sh_65 rfl).trans (ax_gd ?_)
      refine (E_al c_171_104 rfl (by decide)).trans ?_
      refine (E_gfr (k := 1) (r := 65) c_171_105 sh_63 rfl rfl rfl).trans ?_
      refine (E_il c_171_108 rfl).trans ?_
      refine (E_ial c_171_110 sh_65).trans (ax_gd ?_)
      refine (E_il c_171_111 rfl).trans ?_
      refine (E_br_ne (q := 122) c_171_113 rfl).trans (ax_ite ?_ ?_)
      · refine (E_al c_171_116 rfl (by decide)).trans ?_
        refine (E_il c_171_117 rfl).trans ?_
        refine (E_cVV c_171_119 mi_119 rfl (sO_kl sh_63) (Nat.le_of_ble_eq_true rfl) (Nat.le_of_ble_eq_true rfl)).trans (ax_bnd fun u1 => ?_)
        refine (E_inc (v := (1 : Int32)) (L' := [.ref 63, w1, w2, w3, .int x4, .int (x5 + (1 : Int32)), .int u0.1]) c_171_122 rfl (by decide) rfl).trans ?_
        refine (E_goto (q := 55) c_171_125 rfl).trans ?_
        rfl
      · refine (E_inc (v := (1 : Int32)) (L' := [.ref 63, w1, w2, w3, .int x4, .int (x5 + (1 : Int32)), .int u0.1]) c_171_122 rfl (by decide) rfl).trans ?_
        refine (E_goto (q := 55) c_171_125 rfl).trans ?_
        rfl
    · exact E_rV c_171_128 mi_171
set_option maxHeartbeats 4000000 in
theorem u_175_22_7 (d : Nat) (σ : ax_S) : ev sO (d + 1) 175 0 [.ref 22, .ref 7] [] σ = (cV sO d 62 [.ref 23, .ref 8] σ).bind fun u0 => (cV sO d 176 [.ref 32, .ref 17] u0).bind fun u1 => some (none, u1) := by
  refine (E_al c_175_0 rfl (by decide)).trans ?_
  refine (E_gfr (k := 0) (r := 23) c_175_1 sh_22 rfl rfl rfl).trans ?_
  refine (E_al c_175_4 rfl (by decide)).trans ?_
  refine (E_gfr (k := 0) (r := 8) c_175_5 sh_7 rfl rfl rfl).trans ?_
  refine (E_cVV c_175_8 mi_62 rfl (sO_kl sh_23) (Nat.le_of_ble_eq_true rfl) (Nat.le_of_ble_eq_true rfl)).trans (ax_bnd fun u0 => ?_)
  refine (E_al c_175_11 rfl (by decide)).trans ?_
  refine (E_gfr (k := 1) (r := 32) c_175_12 sh_22 rfl rfl rfl).trans ?_
  refine (E_al c_175_15 rfl (by decide)).trans ?_
  refine (E_gfr (k := 1) (r := 17) c_175_16 sh_7 rfl rfl rfl).trans ?_
  refine (E_cVV c_175_19 mi_176 rfl (sO_kl sh_32) (Nat.le_of_ble_eq_true rfl) (Nat.le_of_ble_eq_true rfl)).trans (ax_bnd fun u1 => ?_)
  exact E_rV c_175_22 mi_175
set_option maxHeartbeats 4000000 in
theorem u_175_37_7 (d : Nat) (σ : ax_S) : ev sO (d + 1) 175 0 [.ref 37, .ref 7] [] σ = (cV sO d 62 [.ref 38, .ref 8] σ).bind fun u0 => (cV sO d 176 [.ref 47, .ref 17] u0).bind fun u1 => some (none, u1) := by
  refine (E_al c_175_0 rfl (by decide)).trans ?_
  refine (E_gfr (k := 0) (r := 38) c_175_1 sh_37 rfl rfl rfl).trans ?_
  refine (E_al c_175_4 rfl (by decide)).trans ?_
  refine (E_gfr (k := 0) (r := 8) c_175_5 sh_7 rfl rfl rfl).trans ?_
  refine (E_cVV c_175_8 mi_62 rfl (sO_kl sh_38) (Nat.le_of_ble_eq_true rfl) (Nat.le_of_ble_eq_true rfl)).trans (ax_bnd fun u0 => ?_)
  refine (E_al c_175_11 rfl (by decide)).trans ?_
  refine (E_gfr (k := 1) (r := 47) c_175_12 sh_37 rfl rfl rfl).trans ?_
  refine (E_al c_175_15 rfl (by decide)).trans ?_
  refine (E_gfr (k := 1) (r := 17) c_175_16 sh_7 rfl rfl rfl).trans ?_
  refine (E_cVV c_175_19 mi_176 rfl (sO_kl sh_47) (Nat.le_of_ble_eq_true rfl) (Nat.le_of_ble_eq_true rfl)).trans (ax_bnd fun u1 => ?_)
  exact E_rV c_175_22 mi_175
set_option maxHeartbeats 4000000 in
theorem u_67_23 (d : Nat) (σ : ax_S) : ev sO d 67 0 [.ref 23] [] σ = some (some (.int ((σ.1 23 0) &&& 1)), σ) := by
  refine (E_al c_67_0 rfl (by decide)).trans ?_
  refine (E_gfi (k := 0) c_67_1 sh_23 rfl rfl rfl (by decide)).trans ?_
  exact E_rZ (v := ((σ.1 23 0) &&& 1)) c_67_4 mi_67 rfl
set_option maxHeartbeats 4000000 in
theorem u_175_7_22 (d : Nat) (σ : ax_S) : ev sO (d + 1) 175 0 [.ref 7, .ref 22] [] σ = (cV sO d 62 [.ref 8, .ref 23] σ).bind fun u0 => (cV sO d 176 [.ref 17, .ref 32] u0).bind fun u1 => some (none, u1) := by
  refine (E_al c_175_0 rfl (by decide)).trans ?_
  refine (E_gfr (k := 0) (r := 8) c_175_1 sh_7 rfl rfl rfl).trans ?_
  refine (E_al c_175_4 rfl (by decide)).trans ?_
  refine (E_gfr (k := 0) (r := 23) c_175_5 sh_22 rfl rfl rfl).trans ?_
  refine (E_cVV c_175_8 mi_62 rfl (sO_kl sh_8) (Nat.le_of_ble_eq_true rfl) (Nat.le_of_ble_eq_true rfl)).trans (ax_bnd fun u0 => ?_)
  refine (E_al c_175_11 rfl (by decide)).trans ?_
  refine (E_gfr (k := 1) (r := 17) c_175_12 sh_7 rfl rfl rfl).trans ?_
  refine (E_al c_175_15 rfl (by decide)).trans ?_
  refine (E_gfr (k := 1) (r := 32) c_175_16 sh_22 rfl rfl rfl).trans ?_
  refine (E_cVV c_175_19 mi_176 rfl (sO_kl sh_17) (Nat.le_of_ble_eq_true rfl) (Nat.le_of_ble_eq_true rfl)).trans (ax_bnd fun u1 => ?_)
  exact E_rV c_175_22 mi_175
set_option maxHeartbeats 4000000 in
theorem u_175_7_37 (d : Nat) (σ : ax_S) : ev sO (d + 1) 175 0 [.ref 7, .ref 37] [] σ = (cV sO d 62 [.ref 8, .ref 38] σ).bind fun u0 => (cV sO d 176 [.ref 17, .ref 47] u0).bind fun u1 => some (none, u1) := by
  refine (E_al c_175_0 rfl (by decide)).trans ?_
  refine (E_gfr (k := 0) (r := 8) c_175_1 sh_7 rfl rfl rfl).trans ?_
  refine (E_al c_175_4 rfl (by decide)).trans ?_
  refine (E_gfr (k := 0) (r := 38) c_175_5 sh_37 rfl rfl rfl).trans ?_
  refine (E_cVV c_175_8 mi_62 rfl (sO_kl sh_8) (Nat.le_of_ble_eq_true rfl) (Nat.le_of_ble_eq_true rfl)).trans (ax_bnd fun u0 => ?_)
  refine (E_al c_175_11 rfl (by decide)).trans ?_
  refine (E_gfr (k := 1) (r := 17) c_175_12 sh_7 rfl rfl rfl).trans ?_
  refine (E_al c_175_15 rfl (by decide)).trans ?_
  refine (E_gfr (k := 1) (r := 47) c_175_16 sh_37 rfl rfl rfl).trans ?_
  refine (E_cVV c_175_19 mi_176 rfl (sO_kl sh_17) (Nat.le_of_ble_eq_true rfl) (Nat.le_of_ble_eq_true rfl)).trans (ax_bnd fun u1 => ?_)
  exact E_rV c_175_22 mi_175
set_option maxHeartbeats 4000000 in
theorem u_67_38 (d : Nat) (σ : ax_S) : ev sO d 67 0 [.ref 38] [] σ = some (some (.int ((σ.1 38 0) &&& 1)), σ) := by
  refine (E_al c_67_0 rfl (by decide)).trans ?_
  refine (E_gfi (k := 0) c_67_1 sh_38 rfl rfl rfl (by decide)).trans ?_
  exact E_rZ (v := ((σ.1 38 0) &&& 1)) c_67_4 mi_67 rfl
set_option maxHeartbeats 4000000 in
theorem u_179_7 (d : Nat) (σ : ax_S) (x1 : Int32) : ev sO (d + 4) 179 0 [.ref 7, .int x1, .null] [] σ = (cI sO (d + 3) 103 [.ref 17, .int x1] σ).bind fun u0 => if u0.1 = 0 then ((cI sO (d + 3) 113 [.ref 7, .int x1] u0.2).bind fun u1 => if u1.1 = 0 then ((cI sO (d + 3) 102 [.ref 17, .int x1] u1.2).bind fun u2 => if u2.1 = (-1000000 : Int32) then (some (some (.int (4 : Int32)), u2.2)) else (some (some (.int (1 : Int32)), u2.2))) else (some (some (.int (3 : Int32)), u1.2))) else ((cI sO (d + 3) 102 [.ref 17, .int x1] u0.2).bind fun u3 => if u3.1 = (-1000000 : Int32) then (some (some (.int (2 : Int32)), u3.2)) else ((cI sO (d + 3) 108 [.ref 17, .int x1, .int u3.1] u3.2).bind fun u4 => if u4.1 < (2 : Int32) then (some (some (.int (2 : Int32)), u4.2)) else (some (some (.int (5 : Int32)), u4.2)))) := by
  refine (E_al c_179_0 rfl (by decide)).trans ?_
  refine (E_gfr (k := 1) (r := 17) c_179_1 sh_7 rfl rfl rfl).trans ?_
  refine (E_il c_179_4 rfl).trans ?_
  refine (E_cIV c_179_5 mi_103 rfl rfl (sO_kl sh_17) (Nat.le_of_ble_eq_true rfl) (Nat.le_of_ble_eq_true rfl)).trans (ax_bnd fun u0 => ?_)
  refine (E_b0_ne (q := 40) c_179_8 rfl).trans (ax_ite ?_ ?_)
  · refine (E_al c_179_11 rfl (by decide)).trans ?_
    refine (E_il c_179_12 rfl).trans ?_
    refine (E_cIV c_179_13 mi_113 rfl rfl (sO_kl sh_7) (Nat.le_of_ble_eq_true rfl) (Nat.le_of_ble_eq_true rfl)).trans (ax_bnd fun u1 => ?_)
    refine (E_b0_eq (q := 21) c_179_16 rfl).trans (ax_ite ?_ ?_)
    · refine (E_al c_179_21 rfl (by decide)).trans ?_
      refine (E_gfr (k := 1) (r := 17) c_179_22 sh_7 rfl rfl rfl).trans ?_
      refine (E_il c_179_25 rfl).trans ?_
      refine (E_cIV c_179_26 mi_102 rfl rfl (sO_kl sh_17) (Nat.le_of_ble_eq_true rfl) (Nat.le_of_ble_eq_true rfl)).trans (ax_bnd fun u2 => ?_)
      refine (E_ic (v := (-1000000 : Int32)) c_179_29 (by decide)).trans ?_
      refine (E_br_ne (q := 38) c_179_31 rfl).trans (ax_ite ?_ ?_)
      · refine (E_ic (v := (4 : Int32)) c_179_34 (by decide)).trans ?_
        refine (E_goto (q := 39) c_179_35 rfl).trans ?_
        exact E_rI c_179_39 mi_179
      · refine (E_ic (v := (1 : Int32)) c_179_38 (by decide)).trans ?_
        exact E_rI c_179_39 mi_179
    · refine (E_ic (v := (3 : Int32)) c_179_19 (by decide)).trans ?_
      exact E_rI c_179_20 mi_179
  · refine (E_al c_179_40 rfl (by decide)).trans ?_
    refine (E_gfr (k := 1) (r := 17) c_179_41 sh_7 rfl rfl rfl).trans ?_
    refine (E_il c_179_44 rfl).trans ?_
    refine (E_cIV c_179_45 mi_102 rfl rfl (sO_kl sh_17) (Nat.le_of_ble_eq_true rfl) (Nat.le_of_ble_eq_true rfl)).trans (ax_bnd fun u3 => ?_)
    refine (E_is (L' := [.ref 7, .int x1, .int u3.1]) c_179_48 (Nat.le_of_ble_eq_true rfl) rfl).trans ?_
    refine (E_il c_179_49 rfl).trans ?_
    refine (E_ic (v := (-1000000 : Int32)) c_179_50 (by decide)).trans ?_
    refine (E_br_eq (q := 72) c_179_52 rfl).trans (ax_ite ?_ ?_)
    · refine (E_ic (v := (2 : Int32)) c_179_72 (by decide)).trans ?_
      exact E_rI c_179_73 mi_179
    · refine (E_al c_179_55 rfl (by decide)).trans ?_
      refine (E_gfr (k := 1) (r := 17) c_179_56 sh_7 rfl rfl rfl).trans ?_
      refine (E_il c_179_59 rfl).trans ?_
      refine (E_il c_179_60 rfl).trans ?_
      refine (E_cIV c_179_61 mi_108 rfl rfl (sO_kl sh_17) (Nat.le_of_ble_eq_true rfl) (Nat.le_of_ble_eq_true rfl)).trans (ax_bnd fun u4 => ?_)
      refine (E_ic (v := (2 : Int32)) c_179_64 (by decide)).trans ?_
      refine (E_br_lt (q := 72) c_179_65 rfl).trans (ax_ite ?_ ?_)
      · refine (E_ic (v := (2 : Int32)) c_179_72 (by decide)).trans ?_
        exact E_rI c_179_73 mi_179
      · refine (E_ic (v := (5 : Int32)) c_179_68 (by decide)).trans ?_
        refine (E_goto (q := 73) c_179_69 rfl).trans ?_
        exact E_rI c_179_73 mi_179
set_option maxHeartbeats 4000000 in
theorem u_281_82 (d : Nat) (σ : ax_S) (x1 : Int32) : ev sO (d + 4) 281 0 [.ref 82, .int x1, .null] [] σ = (cI sO (d + 3) 232 [.ref 82, .int x1, .int (4 : Int32)] σ).bind fun u0 => if u0.1 = 0 then ((cI sO (d + 3) 249 [.ref 82, .int x1, .int x1, .int (0 : Int32)] u0.2).bind fun u1 => if u1.1 = 0 then ((cI sO (d + 3) 232 [.ref 82, .int x1, .int (3 : Int32)] u1.2).bind fun u2 => if u2.1 < 0 then (some (some (.int (4 : Int32)), u2.2)) else (some (some (.int (1 : Int32)), u2.2))) else (some (some (.int (3 : Int32)), u1.2))) else ((cI sO (d + 3) 232 [.ref 82, .int x1, .int (3 : Int32)] u0.2).bind fun u3 => if u3.1 < 0 then (some (some (.int (2 : Int32)), u3.2)) else ((cI sO (d + 3) 244 [.ref 82, .int x1, .int u3.1] u3.2).bind fun u4 => if (1 : Int32) < u4.1 then (some (some (.int (5 : Int32)), u4.2)) else (some (some (.int (2 : Int32)), u4.2)))) := by
  refine (E_al c_281_0 rfl (by decide)).trans ?_
  refine (E_il c_281_1 rfl).trans ?_
  refine (E_ic (v := (4 : Int32)) c_281_2 (by decide)).trans ?_
  refine (E_cIV c_281_3 mi_232 rfl rfl (sO_kl sh_82) (Nat.le_of_ble_eq_true rfl) (Nat.le_of_ble_eq_true rfl)).trans (ax_bnd fun u0 => ?_)
  refine (E_b0_ne (q := 38) c_281_6 rfl).trans (ax_ite ?_ ?_)
  · refine (E_al c_281_9 rfl (by decide)).trans ?_
    refine (E_il c_281_10 rfl).trans ?_
    refine (E_il c_281_11 rfl).trans ?_
    refine (E_ic (v := (0 : Int32)) c_281_12 (by decide)).trans ?_
    refine (E_cIV c_281_13 mi_249 rfl rfl (sO_kl sh_82) (Nat.le_of_ble_eq_true rfl) (Nat.le_of_ble_eq_true rfl)).trans (ax_bnd fun u1 => ?_)
    refine (E_b0_eq (q := 23) c_281_16 rfl).trans (ax_ite ?_ ?_)
    · refine (E_al c_281_23 rfl (by decide)).trans ?_
      refine (E_il c_281_24 rfl).trans ?_
      refine (E_ic (v := (3 : Int32)) c_281_25 (by decide)).trans ?_
      refine (E_cIV c_281_26 mi_232 rfl rfl (sO_kl sh_82) (Nat.le_of_ble_eq_true rfl) (Nat.le_of_ble_eq_true rfl)).trans (ax_bnd fun u2 => ?_)
      refine (E_b0_ge (q := 36) c_281_29 rfl).trans (ax_ite ?_ ?_)
      · refine (E_ic (v := (4 : Int32)) c_281_32 (by decide)).trans ?_
        refine (E_goto (q := 37) c_281_33 rfl).trans ?_
        exact E_rI c_281_37 mi_281
      · refine (E_ic (v := (1 : Int32)) c_281_36 (by decide)).trans ?_
        exact E_rI c_281_37 mi_281
    · refine (E_ic (v := (3 : Int32)) c_281_19 (by decide)).trans ?_
      refine (E_goto (q := 37) c_281_20 rfl).trans ?_
      exact E_rI c_281_37 mi_281
  · refine (E_al c_281_38 rfl (by decide)).trans ?_
    refine (E_il c_281_39 rfl).trans ?_
    refine (E_ic (v := (3 : Int32)) c_281_40 (by decide)).trans ?_
    refine (E_cIV c_281_41 mi_232 rfl rfl (sO_kl sh_82) (Nat.le_of_ble_eq_true rfl) (Nat.le_of_ble_eq_true rfl)).trans (ax_bnd fun u3 => ?_)
    refine (E_is (L' := [.ref 82, .int x1, .int u3.1]) c_281_44 (Nat.le_of_ble_eq_true rfl) rfl).trans ?_
    refine (E_il c_281_45 rfl).trans ?_
    refine (E_b0_lt (q := 63) c_281_46 rfl).trans (ax_ite ?_ ?_)
    · refine (E_ic (v := (2 : Int32)) c_281_63 (by decide)).trans ?_
      exact E_rI c_281_64 mi_281
    · refine (E_al c_281_49 rfl (by decide)).trans ?_
      refine (E_il c_281_50 rfl).trans ?_
      refine (E_il c_281_51 rfl).trans ?_
      refine (E_cIV c_281_52 mi_244 rfl rfl (sO_kl sh_82) (Nat.le_of_ble_eq_true rfl) (Nat.le_of_ble_eq_true rfl)).trans (ax_bnd fun u4 => ?_)
      refine (E_ic (v := (1 : Int32)) c_281_55 (by decide)).trans ?_
      refine (E_br_le (q := 63) c_281_56 rfl).trans (ax_ite ?_ ?_)
      · refine (E_ic (v := (5 : Int32)) c_281_59 (by decide)).trans ?_
        refine (E_goto (q := 64) c_281_60 rfl).trans ?_
        exact E_rI c_281_64 mi_281
      · refine (E_ic (v := (2 : Int32)) c_281_63 (by decide)).trans ?_
        exact E_rI c_281_64 mi_281
