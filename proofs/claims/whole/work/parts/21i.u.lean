set_option maxHeartbeats 4000000 in
theorem u_176_17_47 (d : Nat) (σ : ax_S) : ev sO d 176 0 [.ref 17, .ref 47] [] σ = ax_lt (sR (sI σ 17 0 (σ.1 47 0)) 18 (va_cpy ((sI σ 17 0 (σ.1 47 0)).1 48) ((sI σ 17 0 (σ.1 47 0)).1 18) (0 : Int32).toNatClampNeg (0 : Int32).toNatClampNeg (12 : Int32).toNatClampNeg)) fun s0 => ax_lt (sR s0 19 (va_cpy (s0.1 49) (s0.1 19) (0 : Int32).toNatClampNeg (0 : Int32).toNatClampNeg (12 : Int32).toNatClampNeg)) fun s1 => ax_lt (sR s1 20 (va_cpy (s1.1 50) (s1.1 20) (0 : Int32).toNatClampNeg (0 : Int32).toNatClampNeg (12 : Int32).toNatClampNeg)) fun s2 => ax_lt (sR s2 21 (va_cpy (s2.1 51) (s2.1 21) (0 : Int32).toNatClampNeg (0 : Int32).toNatClampNeg (132 : Int32).toNatClampNeg)) fun s3 => some (none, s3) := by
  refine (E_al c_176_0 rfl (by decide)).trans ?_
  refine (E_al c_176_1 rfl (by decide)).trans ?_
  refine (E_gfi (k := 0) c_176_2 sh_47 rfl rfl rfl (by decide)).trans ?_
  refine (E_pfi (k := 0) c_176_5 sh_17 rfl rfl rfl).trans ?_
  refine (E_al c_176_8 rfl (by decide)).trans ?_
  refine (E_gfr (k := 1) (r := 48) c_176_9 sh_47 rfl rfl rfl).trans ?_
  refine (E_ic (v := (0 : Int32)) c_176_12 (by decide)).trans ?_
  refine (E_al c_176_13 rfl (by decide)).trans ?_
  refine (E_gfr (k := 1) (r := 18) c_176_14 sh_17 rfl rfl rfl).trans ?_
  refine (E_ic (v := (0 : Int32)) c_176_17 (by decide)).trans ?_
  refine (E_ic (v := (12 : Int32)) c_176_18 (by decide)).trans ?_
  refine (E_cpy c_176_20 sh_48 sh_18 (Nat.le_of_ble_eq_true rfl) (by unfold cpOk; decide)).trans ?_
  refine ax_ltE (fun s0 => ?_)
  refine (E_al c_176_23 rfl (by decide)).trans ?_
  refine (E_gfr (k := 2) (r := 49) c_176_24 sh_47 rfl rfl rfl).trans ?_
  refine (E_ic (v := (0 : Int32)) c_176_27 (by decide)).trans ?_
  refine (E_al c_176_28 rfl (by decide)).trans ?_
  refine (E_gfr (k := 2) (r := 19) c_176_29 sh_17 rfl rfl rfl).trans ?_
  refine (E_ic (v := (0 : Int32)) c_176_32 (by decide)).trans ?_
  refine (E_ic (v := (12 : Int32)) c_176_33 (by decide)).trans ?_
  refine (E_cpy c_176_35 sh_49 sh_19 (Nat.le_of_ble_eq_true rfl) (by unfold cpOk; decide)).trans ?_
  refine ax_ltE (fun s1 => ?_)
  refine (E_al c_176_38 rfl (by decide)).trans ?_
  refine (E_gfr (k := 3) (r := 50) c_176_39 sh_47 rfl rfl rfl).trans ?_
  refine (E_ic (v := (0 : Int32)) c_176_42 (by decide)).trans ?_
  refine (E_al c_176_43 rfl (by decide)).trans ?_
  refine (E_gfr (k := 3) (r := 20) c_176_44 sh_17 rfl rfl rfl).trans ?_
  refine (E_ic (v := (0 : Int32)) c_176_47 (by decide)).trans ?_
  refine (E_ic (v := (12 : Int32)) c_176_48 (by decide)).trans ?_
  refine (E_cpy c_176_50 sh_50 sh_20 (Nat.le_of_ble_eq_true rfl) (by unfold cpOk; decide)).trans ?_
  refine ax_ltE (fun s2 => ?_)
  refine (E_al c_176_53 rfl (by decide)).trans ?_
  refine (E_gfr (k := 4) (r := 51) c_176_54 sh_47 rfl rfl rfl).trans ?_
  refine (E_ic (v := (0 : Int32)) c_176_57 (by decide)).trans ?_
  refine (E_al c_176_58 rfl (by decide)).trans ?_
  refine (E_gfr (k := 4) (r := 21) c_176_59 sh_17 rfl rfl rfl).trans ?_
  refine (E_ic (v := (0 : Int32)) c_176_62 (by decide)).trans ?_
  refine (E_ic (v := (132 : Int32)) c_176_63 (by decide)).trans ?_
  refine (E_cpy c_176_66 sh_51 sh_21 (Nat.le_of_ble_eq_true rfl) (by unfold cpOk; decide)).trans ?_
  refine ax_ltE (fun s3 => ?_)
  exact E_rV c_176_69 mi_176
set_option maxHeartbeats 4000000 in
theorem u_184_17 (d : Nat) (σ : ax_S) (x1 : Int32) : ev sO (d + 2) 184 0 [.ref 17, .int x1, .null, .null] [] σ = ev sO (d + 2) 184 4 [.ref 17, .int x1, .int (0 : Int32), .int (0 : Int32)] [] σ := by
  refine (E_ic (v := (0 : Int32)) c_184_0 (by decide)).trans ?_
  refine (E_is (L' := [.ref 17, .int x1, .int (0 : Int32), .null]) c_184_1 (Nat.le_of_ble_eq_true rfl) rfl).trans ?_
  refine (E_ic (v := (0 : Int32)) c_184_2 (by decide)).trans ?_
  refine (E_is (L' := [.ref 17, .int x1, .int (0 : Int32), .int (0 : Int32)]) c_184_3 (Nat.le_of_ble_eq_true rfl) rfl).trans ?_
  rfl
set_option maxHeartbeats 4000000 in
theorem u_184_17p4 (d : Nat) (σ : ax_S) (x1 : Int32) (x2 : Int32) (x3 : Int32) : ev sO (d + 2) 184 4 [.ref 17, .int x1, .int x2, .int x3] [] σ = if x3 < (8 : Int32) then ((cI sO (d + 1) 97 [.ref 17, .int x1, .int x3] σ).bind fun u0 => if 0 < u0.1 then (ev sO (d + 2) 184 4 [.ref 17, .int x1, .int (x2 + (1 : Int32)), .int (x3 + (1 : Int32))] [] u0.2) else (ev sO (d + 2) 184 4 [.ref 17, .int x1, .int x2, .int (x3 + (1 : Int32))] [] u0.2)) else (some (some (.int x2), σ)) := by
  refine (E_il c_184_4 rfl).trans ?_
  refine (E_ic (v := (8 : Int32)) c_184_5 (by decide)).trans ?_
  refine (E_br_ge (q := 28) c_184_7 rfl).trans (ax_ite ?_ ?_)
  · refine (E_al c_184_10 rfl (by decide)).trans ?_
    refine (E_il c_184_11 rfl).trans ?_
    refine (E_il c_184_12 rfl).trans ?_
    refine (E_cIV c_184_13 mi_97 rfl rfl (sO_kl sh_17) (Nat.le_of_ble_eq_true rfl) (Nat.le_of_ble_eq_true rfl)).trans (ax_bnd fun u0 => ?_)
    refine (E_b0_le (q := 22) c_184_16 rfl).trans (ax_ite ?_ ?_)
    · refine (E_inc (v := (1 : Int32)) (L' := [.ref 17, .int x1, .int (x2 + (1 : Int32)), .int x3]) c_184_19 rfl (by decide) rfl).trans ?_
      refine (E_inc (v := (1 : Int32)) (L' := [.ref 17, .int x1, .int (x2 + (1 : Int32)), .int (x3 + (1 : Int32))]) c_184_22 rfl (by decide) rfl).trans ?_
      refine (E_goto (q := 4) c_184_25 rfl).trans ?_
      rfl
    · refine (E_inc (v := (1 : Int32)) (L' := [.ref 17, .int x1, .int x2, .int (x3 + (1 : Int32))]) c_184_22 rfl (by decide) rfl).trans ?_
      refine (E_goto (q := 4) c_184_25 rfl).trans ?_
      rfl
  · refine (E_il c_184_28 rfl).trans ?_
    exact E_rI c_184_29 mi_184
set_option maxHeartbeats 4000000 in
theorem u_185_80 (d : Nat) (σ : ax_S) (x1 : Int32) : ev sO d 185 0 [.ref 80, .int x1] [] σ = if (σ.1 80 3) = (1 : Int32) then (if x1 = 0 then (some (some (.int (11 : Int32)), σ)) else (some (some (.int (20 : Int32)), σ))) else (if (σ.1 80 3) = (2 : Int32) then (if x1 = 0 then (some (some (.int (13 : Int32)), σ)) else (some (some (.int (22 : Int32)), σ))) else (if (σ.1 80 3) = (3 : Int32) then (if x1 = 0 then (some (some (.int (12 : Int32)), σ)) else (some (some (.int (24 : Int32)), σ))) else (if (σ.1 80 3) = (4 : Int32) then (if x1 = 0 then (some (some (.int (11 : Int32)), σ)) else (some (some (.int (21 : Int32)), σ))) else (if (σ.1 80 3) = (5 : Int32) then (if x1 = 0 then (some (some (.int (14 : Int32)), σ)) else (some (some (.int (23 : Int32)), σ))) else (if x1 = 0 then (some (some (.int (10 : Int32)), σ)) else (some (some (.int (20 : Int32)), σ))))))) := by
  refine (E_al c_185_0 rfl (by decide)).trans ?_
  refine (E_gfi (k := 3) c_185_1 sh_80 rfl rfl rfl (by decide)).trans ?_
  refine (E_sw c_185_4 [((1 : Int32), 40), ((2 : Int32), 76), ((3 : Int32), 64), ((4 : Int32), 52), ((5 : Int32), 88)] (q := 100) rfl (by decide) (by decide) (by decide)).trans ?_
  refine ev_sw1.trans (ax_ite ?_ ?_)
  · refine (E_il c_185_40 rfl).trans ?_
    refine (E_b0_ne (q := 49) c_185_41 rfl).trans (ax_ite ?_ ?_)
    · refine (E_ic (v := (11 : Int32)) c_185_44 (by decide)).trans ?_
      refine (E_goto (q := 51) c_185_46 rfl).trans ?_
      exact E_rI c_185_51 mi_185
    · refine (E_ic (v := (20 : Int32)) c_185_49 (by decide)).trans ?_
      exact E_rI c_185_51 mi_185
  · refine ev_sw1.trans (ax_ite ?_ ?_)
    · refine (E_il c_185_76 rfl).trans ?_
      refine (E_b0_ne (q := 85) c_185_77 rfl).trans (ax_ite ?_ ?_)
      · refine (E_ic (v := (13 : Int32)) c_185_80 (by decide)).trans ?_
        refine (E_goto (q := 87) c_185_82 rfl).trans ?_
        exact E_rI c_185_87 mi_185
      · refine (E_ic (v := (22 : Int32)) c_185_85 (by decide)).trans ?_
        exact E_rI c_185_87 mi_185
    · refine ev_sw1.trans (ax_ite ?_ ?_)
      · refine (E_il c_185_64 rfl).trans ?_
        refine (E_b0_ne (q := 73) c_185_65 rfl).trans (ax_ite ?_ ?_)
        · refine (E_ic (v := (12 : Int32)) c_185_68 (by decide)).trans ?_
          refine (E_goto (q := 75) c_185_70 rfl).trans ?_
          exact E_rI c_185_75 mi_185
        · refine (E_ic (v := (24 : Int32)) c_185_73 (by decide)).trans ?_
          exact E_rI c_185_75 mi_185
      · refine ev_sw1.trans (ax_ite ?_ ?_)
        · refine (E_il c_185_52 rfl).trans ?_
          refine (E_b0_ne (q := 61) c_185_53 rfl).trans (ax_ite ?_ ?_)
          · refine (E_ic (v := (11 : Int32)) c_185_56 (by decide)).trans ?_
            refine (E_goto (q := 63) c_185_58 rfl).trans ?_
            exact E_rI c_185_63 mi_185
          · refine (E_ic (v := (21 : Int32)) c_185_61 (by decide)).trans ?_
            exact E_rI c_185_63 mi_185
        · refine ev_sw1.trans (ax_ite ?_ ?_)
          · refine (E_il c_185_88 rfl).trans ?_
            refine (E_b0_ne (q := 97) c_185_89 rfl).trans (ax_ite ?_ ?_)
            · refine (E_ic (v := (14 : Int32)) c_185_92 (by decide)).trans ?_
              refine (E_goto (q := 99) c_185_94 rfl).trans ?_
              exact E_rI c_185_99 mi_185
            · refine (E_ic (v := (23 : Int32)) c_185_97 (by decide)).trans ?_
              exact E_rI c_185_99 mi_185
          · refine ev_sw0.trans ?_
            refine (E_il c_185_100 rfl).trans ?_
            refine (E_b0_ne (q := 109) c_185_101 rfl).trans (ax_ite ?_ ?_)
            · refine (E_ic (v := (10 : Int32)) c_185_104 (by decide)).trans ?_
              refine (E_goto (q := 111) c_185_106 rfl).trans ?_
              exact E_rI c_185_111 mi_185
            · refine (E_ic (v := (20 : Int32)) c_185_109 (by decide)).trans ?_
              exact E_rI c_185_111 mi_185
set_option maxHeartbeats 4000000 in
theorem u_186_80 (d : Nat) (σ : ax_S) (x1 : Int32) (x2 : Int32) : ev sO (d + 1) 186 0 [.ref 80, .int x1, .int x2, .null] [] σ = if (12 : Int32) < x2 then (some (some (.int (0 : Int32)), σ)) else ((cV sO d 187 [.ref 80, .int x1] σ).bind fun u0 => if x1 = (10 : Int32) then (some (some (.int (u0.1 80 5)), u0)) else (if x1 = (11 : Int32) then ((cI sO d 186 [.ref 80, .int (10 : Int32), .int (x2 + (1 : Int32))] u0).bind fun u1 => (cI sO d 185 [.ref 80, .int (1 : Int32)] u1.2).bind fun u2 => (cI sO d 186 [.ref 80, .int u2.1, .int (x2 + (1 : Int32))] u2.2).bind fun u3 => some (some (.int (u1.1 + u3.1)), u3.2)) else (if x1 = (12 : Int32) then ((cI sO d 186 [.ref 80, .int (11 : Int32), .int (x2 + (1 : Int32))] u0).bind fun u4 => some (some (.int ((2 : Int32) * u4.1)), u4.2)) else (if x1 = (13 : Int32) then ((cI sO d 186 [.ref 80, .int (10 : Int32), .int (x2 + (1 : Int32))] u0).bind fun u5 => some (some (.int (u5.1 - (u5.2.1 80 6))), u5.2)) else (if x1 = (14 : Int32) then ((cI sO d 186 [.ref 80, .int (13 : Int32), .int (x2 + (1 : Int32))] u0).bind fun u6 => some (some (.int (u6.1 + (100 : Int32))), u6.2)) else (if x1 = (15 : Int32) then ((cI sO d 186 [.ref 80, .int (20 : Int32), .int (x2 + (1 : Int32))] u0).bind fun u7 => some (some (.int (u7.1 + (u7.2.1 80 7))), u7.2)) else (if x1 = (16 : Int32) then ((cI sO d 186 [.ref 80, .int (20 : Int32), .int (x2 + (1 : Int32))] u0).bind fun u8 => some (some (.int (u8.1 + (u8.2.1 80 7))), u8.2)) else (if x1 = (17 : Int32) then ((cI sO d 186 [.ref 80, .int (20 : Int32), .int (x2 + (1 : Int32))] u0).bind fun u9 => some (some (.int (u9.1 + (u9.2.1 80 7))), u9.2)) else (if x1 = (18 : Int32) then ((cI sO d 186 [.ref 80, .int (20 : Int32), .int (x2 + (1 : Int32))] u0).bind fun u10 => some (some (.int (u10.1 + (u10.2.1 80 7))), u10.2)) else (if x1 = (19 : Int32) then ((cI sO d 186 [.ref 80, .int (20 : Int32), .int (x2 + (1 : Int32))] u0).bind fun u11 => some (some (.int (u11.1 + (u11.2.1 80 7))), u11.2)) else (if x1 = (20 : Int32) then (some (some (.int (u0.1 80 2)), u0)) else (if x1 = (21 : Int32) then ((cI sO d 186 [.ref 80, .int (20 : Int32), .int (x2 + (1 : Int32))] u0).bind fun u12 => some (some (.int (u12.1 + (u12.2.1 80 4))), u12.2)) else (if x1 = (22 : Int32) then ((cI sO d 186 [.ref 80, .int (20 : Int32), .int (x2 + (1 : Int32))] u0).bind fun u13 => (cI sO d 185 [.ref 80, .int (0 : Int32)] u13.2).bind fun u14 => (cI sO d 186 [.ref 80, .int u14.1, .int (x2 + (1 : Int32))] u14.2).bind fun u15 => some (some (.int (u13.1 + u15.1)), u15.2)) else (if x1 = (23 : Int32) then ((cI sO d 186 [.ref 80, .int (22 : Int32), .int (x2 + (1 : Int32))] u0).bind fun u16 => some (some (.int (-u16.1)), u16.2)) else ((cI sO d 186 [.ref 80, .int (20 : Int32), .int (x2 + (1 : Int32))] u0).bind fun u17 => some (some (.int (u17.1 + (u17.2.1 80 7))), u17.2)))))))))))))))) := by
  refine (E_il c_186_0 rfl).trans ?_
  refine (E_ic (v := (12 : Int32)) c_186_1 (by decide)).trans ?_
  refine (E_br_le (q := 8) c_186_3 rfl).trans (ax_ite ?_ ?_)
  · refine (E_ic (v := (0 : Int32)) c_186_6 (by decide)).trans ?_
    exact E_rI c_186_7 mi_186
  · refine (E_al c_186_8 rfl (by decide)).trans ?_
    refine (E_il c_186_9 rfl).trans ?_
    refine (E_cVV c_186_10 mi_187 rfl (sO_kl sh_80) (Nat.le_of_ble_eq_true rfl) (Nat.le_of_ble_eq_true rfl)).trans (ax_bnd fun u0 => ?_)
    refine (E_il c_186_13 rfl).trans ?_
    refine (E_ic (v := (1 : Int32)) c_186_14 (by decide)).trans ?_
    refine (E_iadd c_186_15).trans ?_
    refine (E_is (L' := [.ref 80, .int x1, .int x2, .int (x2 + (1 : Int32))]) c_186_16 (Nat.le_of_ble_eq_true rfl) rfl).trans ?_
    refine (E_il c_186_17 rfl).trans ?_
    refine (E_sw c_186_18 [((10 : Int32), 88), ((11 : Int32), 93), ((12 : Int32), 112), ((13 : Int32), 122), ((14 : Int32), 135), ((15 : Int32), 192), ((16 : Int32), 192), ((17 : Int32), 192), ((18 : Int32), 192), ((19 : Int32), 192), ((20 : Int32), 146), ((21 : Int32), 151), ((22 : Int32), 164), ((23 : Int32), 183)] (q := 192) rfl (by decide) (by decide) (by decide)).trans ?_
    refine ev_sw1.trans (ax_ite ?_ ?_)
    · refine (E_al c_186_88 rfl (by decide)).trans ?_
      refine (E_gfi (k := 5) c_186_89 sh_80 rfl rfl rfl (by decide)).trans ?_
      exact E_rI c_186_92 mi_186
    · refine ev_sw1.trans (ax_ite ?_ ?_)
      · refine (E_al c_186_93 rfl (by decide)).trans ?_
        refine (E_ic (v := (10 : Int32)) c_186_94 (by decide)).trans ?_
        refine (E_il c_186_96 rfl).trans ?_
        refine (E_cIV c_186_97 mi_186 rfl rfl (sO_kl sh_80) (Nat.le_of_ble_eq_true rfl) (Nat.le_of_ble_eq_true rfl)).trans (ax_bnd fun u1 => ?_)
        refine (E_al c_186_100 rfl (by decide)).trans ?_
        refine (E_al c_186_101 rfl (by decide)).trans ?_
        refine (E_ic (v := (1 : Int32)) c_186_102 (by decide)).trans ?_
        refine (E_cIV c_186_103 mi_185 rfl rfl (sO_kl sh_80) (Nat.le_of_ble_eq_true rfl) (Nat.le_of_ble_eq_true rfl)).trans (ax_bnd fun u2 => ?_)
        refine (E_il c_186_106 rfl).trans ?_
        refine (E_cIV c_186_107 mi_186 rfl rfl (sO_kl sh_80) (Nat.le_of_ble_eq_true rfl) (Nat.le_of_ble_eq_true rfl)).trans (ax_bnd fun u3 => ?_)
        refine (E_iadd c_186_110).trans ?_
        exact E_rI c_186_111 mi_186
      · refine ev_sw1.trans (ax_ite ?_ ?_)
        · refine (E_ic (v := (2 : Int32)) c_186_112 (by decide)).trans ?_
          refine (E_al c_186_113 rfl (by decide)).trans ?_
          refine (E_ic (v := (11 : Int32)) c_186_114 (by decide)).trans ?_
          refine (E_il c_186_116 rfl).trans ?_
          refine (E_cIV c_186_117 mi_186 rfl rfl (sO_kl sh_80) (Nat.le_of_ble_eq_true rfl) (Nat.le_of_ble_eq_true rfl)).trans (ax_bnd fun u4 => ?_)
          refine (E_imul c_186_120).trans ?_
          exact E_rI c_186_121 mi_186
        · refine ev_sw1.trans (ax_ite ?_ ?_)
          · refine (E_al c_186_122 rfl (by decide)).trans ?_
            refine (E_ic (v := (10 : Int32)) c_186_123 (by decide)).trans ?_
            refine (E_il c_186_125 rfl).trans ?_
            refine (E_cIV c_186_126 mi_186 rfl rfl (sO_kl sh_80) (Nat.le_of_ble_eq_true rfl) (Nat.le_of_ble_eq_true rfl)).trans (ax_bnd fun u5 => ?_)
            refine (E_al c_186_129 rfl (by decide)).trans ?_
            refine (E_gfi (k := 6) c_186_130 sh_80 rfl rfl rfl (by decide)).trans ?_
            refine (E_isub c_186_133).trans ?_
            exact E_rI c_186_134 mi_186
          · refine ev_sw1.trans (ax_ite ?_ ?_)
            · refine (E_al c_186_135 rfl (by decide)).trans ?_
              refine (E_ic (v := (13 : Int32)) c_186_136 (by decide)).trans ?_
              refine (E_il c_186_138 rfl).trans ?_
              refine (E_cIV c_186_139 mi_186 rfl rfl (sO_kl sh_80) (Nat.le_of_ble_eq_true rfl) (Nat.le_of_ble_eq_true rfl)).trans (ax_bnd fun u6 => ?_)
              refine (E_ic (v := (100 : Int32)) c_186_142 (by decide)).trans ?_
              refine (E_iadd c_186_144).trans ?_
              exact E_rI c_186_145 mi_186
            · refine ev_sw1.trans (ax_ite ?_ ?_)
              · refine (E_al c_186_192 rfl (by decide)).trans ?_
                refine (E_ic (v := (20 : Int32)) c_186_193 (by decide)).trans ?_
                refine (E_il c_186_195 rfl).trans ?_
                refine (E_cIV c_186_196 mi_186 rfl rfl (sO_kl sh_80) (Nat.le_of_ble_eq_true rfl) (Nat.le_of_ble_eq_true rfl)).trans (ax_bnd fun u7 => ?_)
                refine (E_al c_186_199 rfl (by decide)).trans ?_
                refine (E_gfi (k := 7) c_186_200 sh_80 rfl rfl rfl (by decide)).trans ?_
                refine (E_iadd c_186_203).trans ?_
                exact E_rI c_186_204 mi_186
              · refine ev_sw1.trans (ax_ite ?_ ?_)
                · refine (E_al c_186_192 rfl (by decide)).trans ?_
                  refine (E_ic (v := (20 : Int32)) c_186_193 (by decide)).trans ?_
                  refine (E_il c_186_195 rfl).trans ?_
                  refine (E_cIV c_186_196 mi_186 rfl rfl (sO_kl sh_80) (Nat.le_of_ble_eq_true rfl) (Nat.le_of_ble_eq_true rfl)).trans (ax_bnd fun u8 => ?_)
                  refine (E_al c_186_199 rfl (by decide)).trans ?_
                  refine (E_gfi (k := 7) c_186_200 sh_80 rfl rfl rfl (by decide)).trans ?_
                  refine (E_iadd c_186_203).trans ?_
                  exact E_rI c_186_204 mi_186
                · refine ev_sw1.trans (ax_ite ?_ ?_)
                  · refine (E_al c_186_192 rfl (by decide)).trans ?_
                    refine (E_ic (v := (20 : Int32)) c_186_193 (by decide)).trans ?_
                    refine (E_il c_186_195 rfl).trans ?_
                    refine (E_cIV c_186_196 mi_186 rfl rfl (sO_kl sh_80) (Nat.le_of_ble_eq_true rfl) (Nat.le_of_ble_eq_true rfl)).trans (ax_bnd fun u9 => ?_)
                    refine (E_al c_186_199 rfl (by decide)).trans ?_
                    refine (E_gfi (k := 7) c_186_200 sh_80 rfl rfl rfl (by decide)).trans ?_
                    refine (E_iadd c_186_203).trans ?_
                    exact E_rI c_186_204 mi_186
                  · refine ev_sw1.trans (ax_ite ?_ ?_)
                    · refine (E_al c_186_192 rfl (by decide)).trans ?_
                      refine (E_ic (v := (20 : Int32)) c_186_193 (by decide)).trans ?_
                      refine (E_il c_186_195 rfl).trans ?_
                      refine (E_cIV c_186_196 mi_186 rfl rfl (sO_kl sh_80) (Nat.le_of_ble_eq_true rfl) (Nat.le_of_ble_eq_true rfl)).trans (ax_bnd fun u10 => ?_)
                      refine (E_al c_186_199 rfl (by decide)).trans ?_
                      refine (E_gfi (k := 7) c_186_200 sh_80 rfl rfl rfl (by decide)).trans ?_
                      refine (E_iadd c_186_203).trans ?_
                      exact E_rI c_186_204 mi_186
                    · refine ev_sw1.trans (ax_ite ?_ ?_)
                      · refine (E_al c_186_192 rfl (by decide)).trans ?_
                        refine (E_ic (v := (20 : Int32)) c_186_193 (by decide)).trans ?_
                        refine (E_il c_186_195 rfl).trans ?_
                        refine (E_cIV c_186_196 mi_186 rfl rfl (sO_kl sh_80) (Nat.le_of_ble_eq_true rfl) (Nat.le_of_ble_eq_true rfl)).trans (ax_bnd fun u11 => ?_)
                        refine (E_al c_186_199 rfl (by decide)).trans ?_
                        refine (E_gfi (k := 7) c_186_200 sh_80 rfl rfl rfl (by decide)).trans ?_
                        refine (E_iadd c_186_203).trans ?_
                        exact E_rI c_186_204 mi_186
                      · refine ev_sw1.trans (ax_ite ?_ ?_)
                        · refine (E_al c_186_146 rfl (by decide)).trans ?_
                          refine (E_gfi (k := 2) c_186_147 sh_80 rfl rfl rfl (by decide)).trans ?_
                          exact E_rI c_186_150 mi_186
                        · refine ev_sw1.trans (ax_ite ?_ ?_)
                          · refine (E_al c_186_151 rfl (by decide)).trans ?_
                            refine (E_ic (v := (20 : Int32)) c_186_152 (by decide)).trans ?_
                            refine (E_il c_186_154 rfl).trans ?_
                            refine (E_cIV c_186_155 mi_186 rfl rfl (sO_kl sh_80) (Nat.le_of_ble_eq_true rfl) (Nat.le_of_ble_eq_true rfl)).trans (ax_bnd fun u12 => ?_)
                            refine (E_al c_186_158 rfl (by decide)).trans ?_
                            refine (E_gfi (k := 4) c_186_159 sh_80 rfl rfl rfl (by decide)).trans ?_
                            refine (E_iadd c_186_162).trans ?_
                            exact E_rI c_186_163 mi_186
                          · refine ev_sw1.trans (ax_ite ?_ ?_)
                            · refine (E_al c_186_164 rfl (by decide)).trans ?_
                              refine (E_ic (v := (20 : Int32)) c_186_165 (by decide)).trans ?_
                              refine (E_il c_186_167 rfl).trans ?_
                              refine (E_cIV c_186_168 mi_186 rfl rfl (sO_kl sh_80) (Nat.le_of_ble_eq_true rfl) (Nat.le_of_ble_eq_true rfl)).trans (ax_bnd fun u13 => ?_)
                              refine (E_al c_186_171 rfl (by decide)).trans ?_
                              refine (E_al c_186_172 rfl (by decide)).trans ?_
                              refine (E_ic (v := (0 : Int32)) c_186_173 (by decide)).trans ?_
                              refine (E_cIV c_186_174 mi_185 rfl rfl (sO_kl sh_80) (Nat.le_of_ble_eq_true rfl) (Nat.le_of_ble_eq_true rfl)).trans (ax_bnd fun u14 => ?_)
                              refine (E_il c_186_177 rfl).trans ?_
                              refine (E_cIV c_186_178 mi_186 rfl rfl (sO_kl sh_80) (Nat.le_of_ble_eq_true rfl) (Nat.le_of_ble_eq_true rfl)).trans (ax_bnd fun u15 => ?_)
                              refine (E_iadd c_186_181).trans ?_
                              exact E_rI c_186_182 mi_186
                            · refine ev_sw1.trans (ax_ite ?_ ?_)
                              · refine (E_al c_186_183 rfl (by decide)).trans ?_
                                refine (E_ic (v := (22 : Int32)) c_186_184 (by decide)).trans ?_
                                refine (E_il c_186_186 rfl).trans ?_
                                refine (E_cIV c_186_187 mi_186 rfl rfl (sO_kl sh_80) (Nat.le_of_ble_eq_true rfl) (Nat.le_of_ble_eq_true rfl)).trans (ax_bnd fun u16 => ?_)
                                refine (E_ineg c_186_190).trans ?_
                                exact E_rI c_186_191 mi_186
                              · refine ev_sw0.trans ?_
                                refine (E_al c_186_192 rfl (by decide)).trans ?_
                                refine (E_ic (v := (20 : Int32)) c_186_193 (by decide)).trans ?_
                                refine (E_il c_186_195 rfl).trans ?_
                                refine (E_cIV c_186_196 mi_186 rfl rfl (sO_kl sh_80) (Nat.le_of_ble_eq_true rfl) (Nat.le_of_ble_eq_true rfl)).trans (ax_bnd fun u17 => ?_)
                                refine (E_al c_186_199 rfl (by decide)).trans ?_
                                refine (E_gfi (k := 7) c_186_200 sh_80 rfl rfl rfl (by decide)).trans ?_
                                refine (E_iadd c_186_203).trans ?_
                                exact E_rI c_186_204 mi_186
set_option maxHeartbeats 4000000 in
theorem u_287_82 (d : Nat) (σ : ax_S) (x1 : Int32) : ev sO d 287 0 [.ref 82, .int x1] [] σ = if (σ.1 82 43) < (16 : Int32) then (gd (0 ≤ (σ.1 82 43).toInt ∧ (σ.1 82 43).toInt < (16 : Nat)) (some (none, (sI (sI σ 104 (σ.1 82 43).toNatClampNeg x1) 82 43 (((sI σ 104 (σ.1 82 43).toNatClampNeg x1).1 82 43) + (1 : Int32)))))) else (some (none, σ)) := by
  refine (E_al c_287_0 rfl (by decide)).trans ?_
  refine (E_gfi (k := 43) c_287_1 sh_82 rfl rfl rfl (by decide)).trans ?_
  refine (E_ic (v := (16 : Int32)) c_287_4 (by decide)).trans ?_
  refine (E_br_ge (q := 29) c_287_6 rfl).trans (ax_ite ?_ ?_)
  · refine (E_al c_287_9 rfl (by decide)).trans ?_
    refine (E_gfr (k := 42) (r := 104) c_287_10 sh_82 rfl rfl rfl).trans ?_
    refine (E_al c_287_13 rfl (by decide)).trans ?_
    refine (E_gfi (k := 43) c_287_14 sh_82 rfl rfl rfl (by decide)).trans ?_
    refine (E_il c_287_17 rfl).trans ?_
    refine (E_ias (v := x1) c_287_18 sh_104 rfl).trans (ax_gd ?_)
    refine (E_al c_287_19 rfl (by decide)).trans ?_
    refine (E_dup c_287_20 rfl).trans ?_
    refine (E_gfi (k := 43) c_287_21 sh_82 rfl rfl rfl (by decide)).trans ?_
    refine (E_ic (v := (1 : Int32)) c_287_24 (by decide)).trans ?_
    refine (E_iadd c_287_25).trans ?_
    refine (E_pfi (k := 43) c_287_26 sh_82 rfl rfl rfl).trans ?_
    exact E_rV c_287_29 mi_287
  · exact E_rV c_287_29 mi_287
set_option maxHeartbeats 4000000 in
theorem u_288_82 (d : Nat) (σ : ax_S) (x1 : Int32) : ev sO (d + 3) 288 0 [.ref 82, .int x1, .null, .null] [] σ = ev sO (d + 3) 288 4 [.ref 82, .int x1, .int (0 : Int32), .int (0 : Int32)] [] σ := by
  refine (E_ic (v := (0 : Int32)) c_288_0 (by decide)).trans ?_
  refine (E_is (L' := [.ref 82, .int x1, .int (0 : Int32), .null]) c_288_1 (Nat.le_of_ble_eq_true rfl) rfl).trans ?_
  refine (E_ic (v := (0 : Int32)) c_288_2 (by decide)).trans ?_
  refine (E_is (L' := [.ref 82, .int x1, .int (0 : Int32), .int (0 : Int32)]) c_288_3 (Nat.le_of_ble_eq_true rfl) rfl).trans ?_
  rfl
set_option maxHeartbeats 4000000 in
theorem u_288_82p4 (d : Nat) (σ : ax_S) (x1 : Int32) (x2 : Int32) (x3 : Int32) : ev sO (d + 3) 288 4 [.ref 82, .int x1, .int x2, .int x3] [] σ = if x3 < (8 : Int32) then ((cI sO (d + 2) 270 [.ref 82, .int x1, .int x3] σ).bind fun u0 => if u0.1 = 0 then (ev sO (d + 3) 288 4 [.ref 82, .int x1, .int (x2 + (0 : Int32)), .int (x3 + (1 : Int32))] [] u0.2) else (ev sO (d + 3) 288 4 [.ref 82, .int x1, .int (x2 + (1 : Int32)), .int (x3 + (1 : Int32))] [] u0.2)) else (some (some (.int x2), σ)) := by
  refine (E_il c_288_4 rfl).trans ?_
  refine (E_ic (v := (8 : Int32)) c_288_5 (by decide)).trans ?_
  refine (E_br_ge (q := 33) c_288_7 rfl).trans (ax_ite ?_ ?_)
  · refine (E_il c_288_10 rfl).trans ?_
    refine (E_al c_288_11 rfl (by decide)).trans ?_
    refine (E_il c_288_12 rfl).trans ?_
    refine (E_il c_288_13 rfl).trans ?_
    refine (E_cIV c_288_14 mi_270 rfl rfl (sO_kl sh_82) (Nat.le_of_ble_eq_true rfl) (Nat.le_of_ble_eq_true rfl)).trans (ax_bnd fun u0 => ?_)
    refine (E_b0_eq (q := 24) c_288_17 rfl).trans (ax_ite ?_ ?_)
    · refine (E_ic (v := (0 : Int32)) c_288_24 (by decide)).trans ?_
      refine (E_iadd c_288_25).trans ?_
      refine (E_is (L' := [.ref 82, .int x1, .int (x2 + (0 : Int32)), .int x3]) c_288_26 (Nat.le_of_ble_eq_true rfl) rfl).trans ?_
      refine (E_inc (v := (1 : Int32)) (L' := [.ref 82, .int x1, .int (x2 + (0 : Int32)), .int (x3 + (1 : Int32))]) c_288_27 rfl (by decide) rfl).trans ?_
      refine (E_goto (q := 4) c_288_30 rfl).trans ?_
      rfl
    · refine (E_ic (v := (1 : Int32)) c_288_20 (by decide)).trans ?_
      refine (E_goto (q := 25) c_288_21 rfl).trans ?_
      refine (E_iadd c_288_25).trans ?_
      refine (E_is (L' := [.ref 82, .int x1, .int (x2 + (1 : Int32)), .int x3]) c_288_26 (Nat.le_of_ble_eq_true rfl) rfl).trans ?_
      refine (E_inc (v := (1 : Int32)) (L' := [.ref 82, .int x1, .int (x2 + (1 : Int32)), .int (x3 + (1 : Int32))]) c_288_27 rfl (by decide) rfl).trans ?_
      refine (E_goto (q := 4) c_288_30 rfl).trans ?_
      rfl
  · refine (E_il c_288_33 rfl).trans ?_
    exact E_rI c_288_34 mi_288
set_option maxHeartbeats 4000000 in
theorem u_286_82 (d : Nat) (σ : ax_S) (x1 : Int32) (x2 : Int32) : ev sO (d + 4) 286 0 [.ref 82, .int x1, .int x2] [] σ = if x2 = (5 : Int32) then ((cV sO (d + 3) 287 [.ref 82, .int (14 : Int32)] σ).bind fun u0 => (cV sO (d + 3) 287 [.ref 82, .int (13 : Int32)] u0).bind fun u1 => (cV sO (d + 3) 287 [.ref 82, .int (10 : Int32)] u1).bind fun u2 => (cI sO (d + 3) 288 [.ref 82, .int x1] u2).bind fun u3 => (cI sO (d + 3) 232 [.ref 82, .int x1, .int (4 : Int32)] u3.2).bind fun u4 => (cI sO (d + 3) 240 [.int u4.1] u4.2).bind fun u5 => if x2 = (5 : Int32) then (some (some (.int ((u3.1 - u5.1) + (100 : Int32))), u5.2)) else (some (some (.int ((u3.1 - u5.1) + (0 : Int32))), u5.2))) else ((cV sO (d + 3) 287 [.ref 82, .int (13 : Int32)] σ).bind fun u6 => (cV sO (d + 3) 287 [.ref 82, .int (10 : Int32)] u6).bind fun u7 => (cI sO (d + 3) 288 [.ref 82, .int x1] u7).bind fun u8 => (cI sO (d + 3) 232 [.ref 82, .int x1, .int (4 : Int32)] u8.2).bind fun u9 => (cI sO (d + 3) 240 [.int u9.1] u9.2).bind fun u10 => if x2 = (5 : Int32) then (some (some (.int ((u8.1 - u10.1) + (100 : Int32))), u10.2)) else (some (some (.int ((u8.1 - u10.1) + (0 : Int32))), u10.2))) := by
  refine (E_il c_286_0 rfl).trans ?_
  refine (E_ic (v := (5 : Int32)) c_286_1 (by decide)).trans ?_
  refine (E_br_ne (q := 11) c_286_2 rfl).trans (ax_ite ?_ ?_)
  · refine (E_al c_286_5 rfl (by decide)).trans ?_
    refine (E_ic (v := (14 : Int32)) c_286_6 (by decide)).trans ?_
    refine (E_cVV c_286_8 mi_287 rfl (sO_kl sh_82) (Nat.le_of_ble_eq_true rfl) (Nat.le_of_ble_eq_true rfl)).trans (ax_bnd fun u0 => ?_)
    refine (E_al c_286_11 rfl (by decide)).trans ?_
    refine (E_ic (v := (13 : Int32)) c_286_12 (by decide)).trans ?_
    refine (E_cVV c_286_14 mi_287 rfl (sO_kl sh_82) (Nat.le_of_ble_eq_true rfl) (Nat.le_of_ble_eq_true rfl)).trans (ax_bnd fun u1 => ?_)
    refine (E_al c_286_17 rfl (by decide)).trans ?_
    refine (E_ic (v := (10 : Int32)) c_286_18 (by decide)).trans ?_
    refine (E_cVV c_286_20 mi_287 rfl (sO_kl sh_82) (Nat.le_of_ble_eq_true rfl) (Nat.le_of_ble_eq_true rfl)).trans (ax_bnd fun u2 => ?_)
    refine (E_al c_286_23 rfl (by decide)).trans ?_
    refine (E_il c_286_24 rfl).trans ?_
    refine (E_cIV c_286_25 mi_288 rfl rfl (sO_kl sh_82) (Nat.le_of_ble_eq_true rfl) (Nat.le_of_ble_eq_true rfl)).trans (ax_bnd fun u3 => ?_)
    refine (E_al c_286_28 rfl (by decide)).trans ?_
    refine (E_il c_286_29 rfl).trans ?_
    refine (E_ic (v := (4 : Int32)) c_286_30 (by decide)).trans ?_
    refine (E_cIV c_286_31 mi_232 rfl rfl (sO_kl sh_82) (Nat.le_of_ble_eq_true rfl) (Nat.le_of_ble_eq_true rfl)).trans (ax_bnd fun u4 => ?_)
    refine (E_cIS c_286_34 mi_240 rfl rfl (Nat.le_of_ble_eq_true rfl) (Nat.le_of_ble_eq_true rfl)).trans (ax_bnd fun u5 => ?_)
    refine (E_isub c_286_37).trans ?_
    refine (E_il c_286_38 rfl).trans ?_
    refine (E_ic (v := (5 : Int32)) c_286_39 (by decide)).trans ?_
    refine (E_br_ne (q := 48) c_286_40 rfl).trans (ax_ite ?_ ?_)
    · refine (E_ic (v := (100 : Int32)) c_286_43 (by decide)).trans ?_
      refine (E_goto (q := 49) c_286_45 rfl).trans ?_
      refine (E_iadd c_286_49).trans ?_
      exact E_rI c_286_50 mi_286
    · refine (E_ic (v := (0 : Int32)) c_286_48 (by decide)).trans ?_
      refine (E_iadd c_286_49).trans ?_
      exact E_rI c_286_50 mi_286
  · refine (E_al c_286_11 rfl (by decide)).trans ?_
    refine (E_ic (v := (13 : Int32)) c_286_12 (by decide)).trans ?_
    refine (E_cVV c_286_14 mi_287 rfl (sO_kl sh_82) (Nat.le_of_ble_eq_true rfl) (Nat.le_of_ble_eq_true rfl)).trans (ax_bnd fun u6 => ?_)
    refine (E_al c_286_17 rfl (by decide)).trans ?_
    refine (E_ic (v := (10 : Int32)) c_286_18 (by decide)).trans ?_
    refine (E_cVV c_286_20 mi_287 rfl (sO_kl sh_82) (Nat.le_of_ble_eq_true rfl) (Nat.le_of_ble_eq_true rfl)).trans (ax_bnd fun u7 => ?_)
    refine (E_al c_286_23 rfl (by decide)).trans ?_
    refine (E_il c_286_24 rfl).trans ?_
    refine (E_cIV c_286_25 mi_288 rfl rfl (sO_kl sh_82) (Nat.le_of_ble_eq_true rfl) (Nat.le_of_ble_eq_true rfl)).trans (ax_bnd fun u8 => ?_)
    refine (E_al c_286_28 rfl (by decide)).trans ?_
    refine (E_il c_286_29 rfl).trans ?_
    refine (E_ic (v := (4 : Int32)) c_286_30 (by decide)).trans ?_
    refine (E_cIV c_286_31 mi_232 rfl rfl (sO_kl sh_82) (Nat.le_of_ble_eq_true rfl) (Nat.le_of_ble_eq_true rfl)).trans (ax_bnd fun u9 => ?_)
    refine (E_cIS c_286_34 mi_240 rfl rfl (Nat.le_of_ble_eq_true rfl) (Nat.le_of_ble_eq_true rfl)).trans (ax_bnd fun u10 => ?_)
    refine (E_isub c_286_37).trans ?_
    refine (E_il c_286_38 rfl).trans ?_
    refine (E_ic (v := (5 : Int32)) c_286_39 (by decide)).trans ?_
    refine (E_br_ne (q := 48) c_286_40 rfl).trans (ax_ite ?_ ?_)
    · refine (E_ic (v := (100 : Int32)) c_286_43 (by decide)).trans ?_
      refine (E_goto (q := 49) c_286_45 rfl).trans ?_
      refine (E_iadd c_286_49).trans ?_
      exact E_rI c_286_50 mi_286
    · refine (E_ic (v := (0 : Int32)) c_286_48 (by decide)).trans ?_
      refine (E_iadd c_286_49).trans ?_
      exact E_rI c_286_50 mi_286
set_option maxHeartbeats 4000000 in
theorem u_33_5 (d : Nat) (σ : ax_S) : ev sO (d + 1) 33 0 [.ref 5, .null] [] σ = ev sO (d + 1) 33 8 [.ref 5, .null] [] (sI σ 5 6 (σ.1 5 7)) := by
  refine (E_al c_33_0 rfl (by decide)).trans ?_
  refine (E_al c_33_1 rfl (by decide)).trans ?_
  refine (E_gfi (k := 7) c_33_2 sh_5 rfl rfl rfl (by decide)).trans ?_
  refine (E_pfi (k := 6) c_33_5 sh_5 rfl rfl rfl).trans ?_
  rfl
set_option maxHeartbeats 4000000 in
theorem u_33_5p8 (d : Nat) (σ : ax_S) (w1 : Value) (hw1 : w1.category = 1) : ev sO (d + 1) 33 8 [.ref 5, w1] [] σ = if (σ.1 5 6) < (σ.1 5 1) then ((cI sO d 34 [.ref 5, .int (σ.1 5 6)] σ).bind fun u0 => (cI sO d 35 [.int u0.1] u0.2).bind fun u1 => if u1.1 = 0 then ((cI sO d 34 [.ref 5, .int ((sI u1.2 5 7 (u1.2.1 5 6)).1 5 6)] (sI u1.2 5 7 (u1.2.1 5 6))).bind fun u2 => if (u2.2.1 5 6) < (u2.2.1 5 1) then ((cI sO d 36 [.int u2.1] u2.2).bind fun u3 => if u3.1 = 0 then ((cI sO d 37 [.int u2.1] u3.2).bind fun u4 => if u4.1 = 0 then (if u2.1 = (59 : Int32) then (some (none, (sI (sI u4.2 5 7 ((u4.2.1 5 6) + (1 : Int32))) 5 5 (3 : Int32)))) else (if u2.1 = (63 : Int32) then (some (none, (sI (sI u4.2 5 7 ((u4.2.1 5 6) + (1 : Int32))) 5 5 (3 : Int32)))) else (some (none, (sI (sI u4.2 5 7 ((u4.2.1 5 6) + (1 : Int32))) 5 5 (0 : Int32)))))) else (ev sO (d + 1) 33 139 [.ref 5, .int u2.1] [] u4.2)) else (ev sO (d + 1) 33 94 [.ref 5, .int u2.1] [] (sI u3.2 5 5 (1 : Int32)))) else (some (none, (sI u2.2 5 5 (4 : Int32))))) else (ev sO (d + 1) 33 8 [.ref 5, w1] [] (sI u1.2 5 6 ((u1.2.1 5 6) + (1 : Int32))))) else ((cI sO d 34 [.ref 5, .int ((sI σ 5 7 (σ.1 5 6)).1 5 6)] (sI σ 5 7 (σ.1 5 6))).bind fun u5 => if (u5.2.1 5 6) < (u5.2.1 5 1) then ((cI sO d 36 [.int u5.1] u5.2).bind fun u6 => if u6.1 = 0 then ((cI sO d 37 [.int u5.1] u6.2).bind fun u7 => if u7.1 = 0 then (if u5.1 = (59 : Int32) then (some (none, (sI (sI u7.2 5 7 ((u7.2.1 5 6) + (1 : Int32))) 5 5 (3 : Int32)))) else (if u5.1 = (63 : Int32) then (some (none, (sI (sI u7.2 5 7 ((u7.2.1 5 6) + (1 : Int32))) 5 5 (3 : Int32)))) else (some (none, (sI (sI u7.2 5 7 ((u7.2.1 5 6) + (1 : Int32))) 5 5 (0 : Int32)))))) else (ev sO (d + 1) 33 139 [.ref 5, .int u5.1] [] u7.2)) else (ev sO (d + 1) 33 94 [.ref 5, .int u5.1] [] (sI u6.2 5 5 (1 : Int32)))) else (some (none, (sI u5.2 5 5 (4 : Int32))))) := by
  refine (E_al c_33_8 rfl (by decide)).trans ?_
  refine (E_gfi (k := 6) c_33_9 sh_5 rfl rfl rfl (by decide)).trans ?_
  refine (E_al c_33_12 rfl (by decide)).trans ?_
  refine (E_gfi (k := 1) c_33_13 sh_5 rfl rfl rfl (by decide)).trans ?_
  refine (E_br_ge (q := 46) c_33_16 rfl).trans (ax_ite ?_ ?_)
  · refine (E_al c_33_19 rfl (by decide)).trans ?_
    refine (E_al c_33_20 rfl (by decide)).trans ?_
    refine (E_gfi (k := 6) c_33_21 sh_5 rfl rfl rfl (by decide)).trans ?_
    refine (E_cIV c_33_24 mi_34 rfl rfl (sO_kl sh_5) (Nat.le_of_ble_eq_true rfl) (Nat.le_of_ble_eq_true rfl)).trans (ax_bnd fun u0 => ?_)
    refine (E_cIS c_33_27 mi_35 rfl rfl (Nat.le_of_ble_eq_true rfl) (Nat.le_of_ble_eq_true rfl)).trans (ax_bnd fun u1 => ?_)
    refine (E_b0_eq (q := 46) c_33_30 rfl).trans (ax_ite ?_ ?_)
    · refine (E_al c_33_46 rfl (by decide)).trans ?_
      refine (E_al c_33_47 rfl (by decide)).trans ?_
      refine (E_gfi (k := 6) c_33_48 sh_5 rfl rfl rfl (by decide)).trans ?_
      refine (E_pfi (k := 7) c_33_51 sh_5 rfl rfl rfl).trans ?_
      refine (E_al c_33_54 rfl (by decide)).trans ?_
      refine (E_al c_33_55 rfl (by decide)).trans ?_
      refine (E_gfi (k := 6) c_33_56 sh_5 rfl rfl rfl (by decide)).trans ?_
      refine (E_cIV c_33_59 mi_34 rfl rfl (sO_kl sh_5) (Nat.le_of_ble_eq_true rfl) (Nat.le_of_ble_eq_true rfl)).trans (ax_bnd fun u2 => ?_)
      refine (E_is (L' := [.ref 5, .int u2.1]) c_33_62 (Nat.le_of_ble_eq_true rfl) rfl).trans ?_
      refine (E_al c_33_63 rfl (by decide)).trans ?_
      refine (E_gfi (k := 6) c_33_64 sh_5 rfl rfl rfl (by decide)).trans ?_
      refine (E_al c_33_67 rfl (by decide)).trans ?_
      refine (E_gfi (k := 1) c_33_68 sh_5 rfl rfl rfl (by decide)).trans ?_
      refine (E_br_lt (q := 82) c_33_71 rfl).trans (ax_ite ?_ ?_)
      · refine (E_il c_33_82 rfl).trans ?_
        refine (E_cIS c_33_83 mi_36 rfl rfl (Nat.le_of_ble_eq_true rfl) (Nat.le_of_ble_eq_true rfl)).trans (ax_bnd fun u3 => ?_)
        refine (E_b0_eq (q := 132) c_33_86 rfl).trans (ax_ite ?_ ?_)
        · refine (E_il c_33_132 rfl).trans ?_
          refine (E_cIS c_33_133 mi_37 rfl rfl (Nat.le_of_ble_eq_true rfl) (Nat.le_of_ble_eq_true rfl)).trans (ax_bnd fun u4 => ?_)
          refine (E_b0_eq (q := 202) c_33_136 rfl).trans (ax_ite ?_ ?_)
          · refine (E_al c_33_202 rfl (by decide)).trans ?_
            refine (E_al c_33_203 rfl (by decide)).trans ?_
            refine (E_gfi (k := 6) c_33_204 sh_5 rfl rfl rfl (by decide)).trans ?_
            refine (E_ic (v := (1 : Int32)) c_33_207 (by decide)).trans ?_
            refine (E_iadd c_33_208).trans ?_
            refine (E_pfi (k := 7) c_33_209 sh_5 rfl rfl rfl).trans ?_
            refine (E_al c_33_212 rfl (by decide)).trans ?_
            refine (E_il c_33_213 rfl).trans ?_
            refine (E_ic (v := (59 : Int32)) c_33_214 (by decide)).trans ?_
            refine (E_br_eq (q := 225) c_33_216 rfl).trans (ax_ite ?_ ?_)
            · refine (E_ic (v := (3 : Int32)) c_33_225 (by decide)).trans ?_
              refine (E_goto (q := 230) c_33_226 rfl).trans ?_
              refine (E_pfi (k := 5) c_33_230 sh_5 rfl rfl rfl).trans ?_
              exact E_rV c_33_233 mi_33
            · refine (E_il c_33_219 rfl).trans ?_
              refine (E_ic (v := (63 : Int32)) c_33_220 (by decide)).trans ?_
              refine (E_br_ne (q := 229) c_33_222 rfl).trans (ax_ite ?_ ?_)
              · refine (E_ic (v := (3 : Int32)) c_33_225 (by decide)).trans ?_
                refine (E_goto (q := 230) c_33_226 rfl).trans ?_
                refine (E_pfi (k := 5) c_33_230 sh_5 rfl rfl rfl).trans ?_
                exact E_rV c_33_233 mi_33
              · refine (E_ic (v := (0 : Int32)) c_33_229 (by decide)).trans ?_
                refine (E_pfi (k := 5) c_33_230 sh_5 rfl rfl rfl).trans ?_
                exact E_rV c_33_233 mi_33
          · rfl
        · refine (E_al c_33_89 rfl (by decide)).trans ?_
          refine (E_ic (v := (1 : Int32)) c_33_90 (by decide)).trans ?_
          refine (E_pfi (k := 5) c_33_91 sh_5 rfl rfl rfl).trans ?_
          rfl
      · refine (E_al c_33_74 rfl (by decide)).trans ?_
        refine (E_ic (v := (4 : Int32)) c_33_75 (by decide)).trans ?_
        refine (E_pfi (k := 5) c_33_76 sh_5 rfl rfl rfl).trans ?_
        refine (E_goto (q := 233) c_33_79 rfl).trans ?_
        exact E_rV c_33_233 mi_33
    · refine (E_al c_33_33 rfl (by decide)).trans ?_
      refine (E_dup c_33_34 rfl).trans ?_
      refine (E_gfi (k := 6) c_33_35 sh_5 rfl rfl rfl (by decide)).trans ?_
      refine (E_ic (v := (1 : Int32)) c_33_38 (by decide)).trans ?_
      refine (E_iadd c_33_39).trans ?_
      refine (E_pfi (k := 6) c_33_40 sh_5 rfl rfl rfl).trans ?_
      refine (E_goto (q := 8) c_33_43 rfl).trans ?_
      rfl
  · refine (E_al c_33_46 rfl (by decide)).trans ?_
    refine (E_al c_33_47 rfl (by decide)).trans ?_
    refine (E_gfi (k := 6) c_33_48 sh_5 rfl rfl rfl (by decide)).trans ?_
    refine (E_pfi (k := 7) c_33_51 sh_5 rfl rfl rfl).trans ?_
    refine (E_al c_33_54 rfl (by decide)).trans ?_
    refine (E_al c_33_55 rfl (by decide)).trans ?_
    refine (E_gfi (k := 6) c_33_56 sh_5 rfl rfl rfl (by decide)).trans ?_
    refine (E_cIV c_33_59 mi_34 rfl rfl (sO_kl sh_5) (Nat.le_of_ble_eq_true rfl) (Nat.le_of_ble_eq_true rfl)).trans (ax_bnd fun u5 => ?_)
    refine (E_is (L' := [.ref 5, .int u5.1]) c_33_62 (Nat.le_of_ble_eq_true rfl) rfl).trans ?_
    refine (E_al c_33_63 rfl (by decide)).trans ?_
    refine (E_gfi (k := 6) c_33_64 sh_5 rfl rfl rfl (by decide)).trans ?_
    refine (E_al c_33_67 rfl (by decide)).trans ?_
    refine (E_gfi (k := 1) c_33_68 sh_5 rfl rfl rfl (by decide)).trans ?_
    refine (E_br_lt (q := 82) c_33_71 rfl).trans (ax_ite ?_ ?_)
    · refine (E_il c_33_82 rfl).trans ?_
      refine (E_cIS c_33_83 mi_36 rfl rfl (Nat.le_of_ble_eq_true rfl) (Nat.le_of_ble_eq_true rfl)).trans (ax_bnd fun u6 => ?_)
      refine (E_b0_eq (q := 132) c_33_86 rfl).trans (ax_ite ?_ ?_)
      · refine (E_il c_33_132 rfl).trans ?_
        refine (E_cIS c_33_133 mi_37 rfl rfl (Nat.le_of_ble_eq_true rfl) (Nat.le_of_ble_eq_true rfl)).trans (ax_bnd fun u7 => ?_)
        refine (E_b0_eq (q := 202) c_33_136 rfl).trans (ax_ite ?_ ?_)
        · refine (E_al c_33_202 rfl (by decide)).trans ?_
          refine (E_al c_33_203 rfl (by decide)).trans ?_
          refine (E_gfi (k := 6) c_33_204 sh_5 rfl rfl rfl (by decide)).trans ?_
          refine (E_ic (v := (1 : Int32)) c_33_207 (by decide)).trans ?_
          refine (E_iadd c_33_208).trans ?_
          refine (E_pfi (k := 7) c_33_209 sh_5 rfl rfl rfl).trans ?_
          refine (E_al c_33_212 rfl (by decide)).trans ?_
          refine (E_il c_33_213 rfl).trans ?_
          refine (E_ic (v := (59 : Int32)) c_33_214 (by decide)).trans ?_
          refine (E_br_eq (q := 225) c_33_216 rfl).trans (ax_ite ?_ ?_)
          · refine (E_ic (v := (3 : Int32)) c_33_225 (by decide)).trans ?_
            refine (E_goto (q := 230) c_33_226 rfl).trans ?_
            refine (E_pfi (k := 5) c_33_230 sh_5 rfl rfl rfl).trans ?_
            exact E_rV c_33_233 mi_33
          · refine (E_il c_33_219 rfl).trans ?_
            refine (E_ic (v := (63 : Int32)) c_33_220 (by decide)).trans ?_
            refine (E_br_ne (q := 229) c_33_222 rfl).trans (ax_ite ?_ ?_)
            · refine (E_ic (v := (3 : Int32)) c_33_225 (by decide)).trans ?_
              refine (E_goto (q := 230) c_33_226 rfl).trans ?_
              refine (E_pfi (k := 5) c_33_230 sh_5 rfl rfl rfl).trans ?_
              exact E_rV c_33_233 mi_33
            · refine (E_ic (v := (0 : Int32)) c_33_229 (by decide)).trans ?_
              refine (E_pfi (k := 5) c_33_230 sh_5 rfl rfl rfl).trans ?_
              exact E_rV c_33_233 mi_33
        · rfl
      · refine (E_al c_33_89 rfl (by decide)).trans ?_
        refine (E_ic (v := (1 : Int32)) c_33_90 (by decide)).trans ?_
        refine (E_pfi (k := 5) c_33_91 sh_5 rfl rfl rfl).trans ?_
        rfl
    · refine (E_al c_33_74 rfl (by decide)).trans ?_
      refine (E_ic (v := (4 : Int32)) c_33_75 (by decide)).trans ?_
      refine (E_pfi (k := 5) c_33_76 sh_5 rfl rfl rfl).trans ?_
      refine (E_goto (q := 233) c_33_79 rfl).trans ?_
      exact E_rV c_33_233 mi_33
set_option maxHeartbeats 4000000 in
theorem u_33_5p139 (d : Nat) (σ : ax_S) (w1 : Value) (hw1 : w1.category = 1) : ev sO (d + 1) 33 139 [.ref 5, w1] [] σ = if (σ.1 5 7) < (σ.1 5 1) then ((cI sO d 34 [.ref 5, .int (σ.1 5 7)] σ).bind fun u0 => (cI sO d 37 [.int u0.1] u0.2).bind fun u1 => if u1.1 = 0 then (if (4 : Int32) < ((u1.2.1 5 7) - (u1.2.1 5 6)) then (some (none, (sI u1.2 5 5 (0 : Int32)))) else (some (none, (sI u1.2 5 5 (2 : Int32))))) else (ev sO (d + 1) 33 139 [.ref 5, w1] [] (sI u1.2 5 7 ((u1.2.1 5 7) + (1 : Int32))))) else (if (4 : Int32) < ((σ.1 5 7) - (σ.1 5 6)) then (some (none, (sI σ 5 5 (0 : Int32)))) else (some (none, (sI σ 5 5 (2 : Int32))))) := by
  refine (E_al c_33_139 rfl (by decide)).trans ?_
  refine (E_gfi (k := 7) c_33_140 sh_5 rfl rfl rfl (by decide)).trans ?_
  refine (E_al c_33_143 rfl (by decide)).trans ?_
  refine (E_gfi (k := 1) c_33_144 sh_5 rfl rfl rfl (by decide)).trans ?_
  refine (E_br_ge (q := 177) c_33_147 rfl).trans (ax_ite ?_ ?_)
  · refine (E_al c_33_150 rfl (by decide)).trans ?_
    refine (E_al c_33_151 rfl (by decide)).trans ?_
    refine (E_gfi (k := 7) c_33_152 sh_5 rfl rfl rfl (by decide)).trans ?_
    refine (E_cIV c_33_155 mi_34 rfl rfl (sO_kl sh_5) (Nat.le_of_ble_eq_true rfl) (Nat.le_of_ble_eq_true rfl)).trans (ax_bnd fun u0 => ?_)
    refine (E_cIS c_33_158 mi_37 rfl rfl (Nat.le_of_ble_eq_true rfl) (Nat.le_of_ble_eq_true rfl)).trans (ax_bnd fun u1 => ?_)
    refine (E_b0_eq (q := 177) c_33_161 rfl).trans (ax_ite ?_ ?_)
    · refine (E_al c_33_177 rfl (by decide)).trans ?_
      refine (E_al c_33_178 rfl (by decide)).trans ?_
      refine (E_gfi (k := 7) c_33_179 sh_5 rfl rfl rfl (by decide)).trans ?_
      refine (E_al c_33_182 rfl (by decide)).trans ?_
      refine (E_gfi (k := 6) c_33_183 sh_5 rfl rfl rfl (by decide)).trans ?_
      refine (E_isub c_33_186).trans ?_
      refine (E_ic (v := (4 : Int32)) c_33_187 (by decide)).trans ?_
      refine (E_br_gt (q := 195) c_33_188 rfl).trans (ax_ite ?_ ?_)
      · refine (E_ic (v := (0 : Int32)) c_33_195 (by decide)).trans ?_
        refine (E_pfi (k := 5) c_33_196 sh_5 rfl rfl rfl).trans ?_
        refine (E_goto (q := 233) c_33_199 rfl).trans ?_
        exact E_rV c_33_233 mi_33
      · refine (E_ic (v := (2 : Int32)) c_33_191 (by decide)).trans ?_
        refine (E_goto (q := 196) c_33_192 rfl).trans ?_
        refine (E_pfi (k := 5) c_33_196 sh_5 rfl rfl rfl).trans ?_
        refine (E_goto (q := 233) c_33_199 rfl).trans ?_
        exact E_rV c_33_233 mi_33
    · refine (E_al c_33_164 rfl (by decide)).trans ?_
      refine (E_dup c_33_165 rfl).trans ?_
      refine (E_gfi (k := 7) c_33_166 sh_5 rfl rfl rfl (by decide)).trans ?_
      refine (E_ic (v := (1 : Int32)) c_33_169 (by decide)).trans ?_
      refine (E_iadd c_33_170).trans ?_
      refine (E_pfi (k := 7) c_33_171 sh_5 rfl rfl rfl).trans ?_
      refine (E_goto (q := 139) c_33_174 rfl).trans ?_
      rfl
  · refine (E_al c_33_177 rfl (by decide)).trans ?_
    refine (E_al c_33_178 rfl (by decide)).trans ?_
    refine (E_gfi (k := 7) c_33_179 sh_5 rfl rfl rfl (by decide)).trans ?_
    refine (E_al c_33_182 rfl (by decide)).trans ?_
    refine (E_gfi (k := 6) c_33_183 sh_5 rfl rfl rfl (by decide)).trans ?_
    refine (E_isub c_33_186).trans ?_
    refine (E_ic (v := (4 : Int32)) c_33_187 (by decide)).trans ?_
    refine (E_br_gt (q := 195) c_33_188 rfl).trans (ax_ite ?_ ?_)
    · refine (E_ic (v := (0 : Int32)) c_33_195 (by decide)).trans ?_
      refine (E_pfi (k := 5) c_33_196 sh_5 rfl rfl rfl).trans ?_
      refine (E_goto (q := 233) c_33_199 rfl).trans ?_
      exact E_rV c_33_233 mi_33
    · refine (E_ic (v := (2 : Int32)) c_33_191 (by decide)).trans ?_
      refine (E_goto (q := 196) c_33_192 rfl).trans ?_
      refine (E_pfi (k := 5) c_33_196 sh_5 rfl rfl rfl).trans ?_
      refine (E_goto (q := 233) c_33_199 rfl).trans ?_
      exact E_rV c_33_233 mi_33
set_option maxHeartbeats 4000000 in
theorem u_33_5p94 (d : Nat) (σ : ax_S) (w1 : Value) (hw1 : w1.category = 1) : ev sO (d + 1) 33 94 [.ref 5, w1] [] σ = if (σ.1 5 7) < (σ.1 5 1) then ((cI sO d 34 [.ref 5, .int (σ.1 5 7)] σ).bind fun u0 => (cI sO d 36 [.int u0.1] u0.2).bind fun u1 => if u1.1 = 0 then (some (none, u1.2)) else (ev sO (d + 1) 33 94 [.ref 5, w1] [] (sI u1.2 5 7 ((u1.2.1 5 7) + (1 : Int32))))) else (some (none, σ)) := by
  refine (E_al c_33_94 rfl (by decide)).trans ?_
  refine (E_gfi (k := 7) c_33_95 sh_5 rfl rfl rfl (by decide)).trans ?_
  refine (E_al c_33_98 rfl (by decide)).trans ?_
  refine (E_gfi (k := 1) c_33_99 sh_5 rfl rfl rfl (by decide)).trans ?_
  refine (E_br_ge (q := 233) c_33_102 rfl).trans (ax_ite ?_ ?_)
  · refine (E_al c_33_105 rfl (by decide)).trans ?_
    refine (E_al c_33_106 rfl (by decide)).trans ?_
    refine (E_gfi (k := 7) c_33_107 sh_5 rfl rfl rfl (by decide)).trans ?_
    refine (E_cIV c_33_110 mi_34 rfl rfl (sO_kl sh_5) (Nat.le_of_ble_eq_true rfl) (Nat.le_of_ble_eq_true rfl)).trans (ax_bnd fun u0 => ?_)
    refine (E_cIS c_33_113 mi_36 rfl rfl (Nat.le_of_ble_eq_true rfl) (Nat.le_of_ble_eq_true rfl)).trans (ax_bnd fun u1 => ?_)
    refine (E_b0_eq (q := 233) c_33_116 rfl).trans (ax_ite ?_ ?_)
    · exact E_rV c_33_233 mi_33
    · refine (E_al c_33_119 rfl (by decide)).trans ?_
      refine (E_dup c_33_120 rfl).trans ?_
      refine (E_gfi (k := 7) c_33_121 sh_5 rfl rfl rfl (by decide)).trans ?_
      refine (E_ic (v := (1 : Int32)) c_33_124 (by decide)).trans ?_
      refine (E_iadd c_33_125).trans ?_
      refine (E_pfi (k := 7) c_33_126 sh_5 rfl rfl rfl).trans ?_
      refine (E_goto (q := 94) c_33_129 rfl).trans ?_
      rfl
  · exact E_rV c_33_233 mi_33
set_option maxHeartbeats 4000000 in
theorem u_39_1001 (d : Nat) (σ : ax_S) : ev sO (d + 1) 39 0 [.ref 1001] [] σ = (cI sO d 40 [.ref 1001] σ).bind fun u0 => some (some (.int ((7 : Int32) >>> (u0.1 &&& 31))), u0.2) := by
  refine (E_al c_39_0 rfl (by decide)).trans ?_
  refine (E_gfs0 (b := 1101) c_39_1 (by decide) rfl).trans ?_
  refine (E_alns (v := (7 : Int32)) c_39_4 (by decide) (by decide)).trans ?_
  refine (E_al c_39_5 rfl (by decide)).trans ?_
  refine (E_cIV c_39_6 mi_40 rfl rfl (sO_kls (by decide)) (Nat.le_of_ble_eq_true rfl) (Nat.le_of_ble_eq_true rfl)).trans (ax_bnd fun u0 => ?_)
  refine (E_ishr c_39_9).trans ?_
  exact E_rI c_39_10 mi_39
set_option maxHeartbeats 4000000 in
theorem u_34_5 (d : Nat) (σ : ax_S) (x1 : Int32) : ev sO d 34 0 [.ref 5, .int x1] [] σ = if x1 < 0 then (some (some (.int (-1 : Int32)), σ)) else (if x1 < (σ.1 5 1) then (gd (0 ≤ x1.toInt ∧ x1.toInt < (500 : Nat)) (some (some (.int (σ.1 6 x1.toNatClampNeg)), σ))) else (some (some (.int (-1 : Int32)), σ))) := by
  refine (E_il c_34_0 rfl).trans ?_
  refine (E_b0_lt (q := 21) c_34_1 rfl).trans (ax_ite ?_ ?_)
  · refine (E_ic (v := (-1 : Int32)) c_34_21 (by decide)).trans ?_
    exact E_rI c_34_22 mi_34
  · refine (E_il c_34_4 rfl).trans ?_
    refine (E_al c_34_5 rfl (by decide)).trans ?_
    refine (E_gfi (k := 1) c_34_6 sh_5 rfl rfl rfl (by decide)).trans ?_
    refine (E_br_ge (q := 21) c_34_9 rfl).trans (ax_ite ?_ ?_)
    · refine (E_al c_34_12 rfl (by decide)).trans ?_
      refine (E_gfr (k := 0) (r := 6) c_34_13 sh_5 rfl rfl rfl).trans ?_
      refine (E_il c_34_16 rfl).trans ?_
      refine (E_bal c_34_17 sh_6).trans (ax_gd ?_)
      refine (E_goto (q := 22) c_34_18 rfl).trans ?_
      exact E_rI c_34_22 mi_34
    · refine (E_ic (v := (-1 : Int32)) c_34_21 (by decide)).trans ?_
      exact E_rI c_34_22 mi_34
set_option maxHeartbeats 4000000 in
theorem u_41_1001 (d : Nat) (σ : ax_S) (x1 : Int32) : ev sO (d + 3) 41 0 [.ref 1001, .int x1] [] σ = (cI sO (d + 2) 42 [.ref 1001] σ).bind fun u0 => if u0.1 = 0 then (ev sO (d + 3) 41 21 [.ref 1001, .int x1] [.int x1, .ref 1101] u0.2) else ((cI sO (d + 2) 43 [.ref 1101, .int x1] u0.2).bind fun u1 => some (some (.int u1.1.toUInt32.toUInt16.toUInt32.toInt32), u1.2)) := by
  refine (E_al c_41_0 rfl (by decide)).trans ?_
  refine (E_cIV c_41_1 mi_42 rfl rfl (sO_kls (by decide)) (Nat.le_of_ble_eq_true rfl) (Nat.le_of_ble_eq_true rfl)).trans (ax_bnd fun u0 => ?_)
  refine (E_b0_eq (q := 16) c_41_4 rfl).trans (ax_ite ?_ ?_)
  · refine (E_al c_41_16 rfl (by decide)).trans ?_
    refine (E_gfs0 (b := 1101) c_41_17 (by decide) rfl).trans ?_
    refine (E_il c_41_20 rfl).trans ?_
    rfl
  · refine (E_al c_41_7 rfl (by decide)).trans ?_
    refine (E_gfs0 (b := 1101) c_41_8 (by decide) rfl).trans ?_
    refine (E_il c_41_11 rfl).trans ?_
    refine (E_cIS c_41_12 mi_43 rfl rfl (Nat.le_of_ble_eq_true rfl) (Nat.le_of_ble_eq_true rfl)).trans (ax_bnd fun u1 => ?_)
    exact E_rC (v := u1.1.toUInt32.toUInt16.toUInt32.toInt32) c_41_15 mi_41 rfl
set_option maxHeartbeats 4000000 in
theorem u_48_5_1001 (d : Nat) (σ : ax_S) : ev sO (d + 5) 48 0 [.ref 5, .ref 1001] [] σ = (cI sO (d + 4) 38 [.ref 5, .ref 1001] σ).bind fun u0 => (cV sO (d + 4) 49 [.ref 5, .int u0.1] u0.2).bind fun u1 => some (none, u1) := by
  refine (E_al c_48_0 rfl (by decide)).trans ?_
  refine (E_al c_48_1 rfl (by decide)).trans ?_
  refine (E_al c_48_2 rfl (by decide)).trans ?_
  refine (E_cIV c_48_3 mi_38 rfl rfl (sO_kl sh_5) (Nat.le_of_ble_eq_true rfl) (Nat.le_of_ble_eq_true rfl)).trans (ax_bnd fun u0 => ?_)
  refine (E_cVV c_48_6 mi_49 rfl (sO_kl sh_5) (Nat.le_of_ble_eq_true rfl) (Nat.le_of_ble_eq_true rfl)).trans (ax_bnd fun u1 => ?_)
  exact E_rV c_48_9 mi_48
set_option maxHeartbeats 4000000 in
theorem u_47_5 (d : Nat) (σ : ax_S) (x1 : Int32) : ev sO d 47 0 [.ref 5, .int x1] [] σ = if (σ.1 5 4) = 0 then (some (none, (sI (sI (sI σ 5 4 (1 : Int32)) 5 2 x1) 5 3 ((sI (sI σ 5 4 (1 : Int32)) 5 2 x1).1 5 6)))) else (some (none, σ)) := by
  refine (E_al c_47_0 rfl (by decide)).trans ?_
  refine (E_gfi (k := 4) c_47_1 sh_5 rfl rfl rfl (by decide)).trans ?_
  refine (E_b0_ne (q := 25) c_47_4 rfl).trans (ax_ite ?_ ?_)
  · refine (E_al c_47_7 rfl (by decide)).trans ?_
    refine (E_ic (v := (1 : Int32)) c_47_8 (by decide)).trans ?_
    refine (E_pfz (k := 4) c_47_9 sh_5 rfl rfl rfl (by decide)).trans ?_
    refine (E_al c_47_12 rfl (by decide)).trans ?_
    refine (E_il c_47_13 rfl).trans ?_
    refine (E_pfi (k := 2) c_47_14 sh_5 rfl rfl rfl).trans ?_
    refine (E_al c_47_17 rfl (by decide)).trans ?_
    refine (E_al c_47_18 rfl (by decide)).trans ?_
    refine (E_gfi (k := 6) c_47_19 sh_5 rfl rfl rfl (by decide)).trans ?_
    refine (E_pfi (k := 3) c_47_22 sh_5 rfl rfl rfl).trans ?_
    exact E_rV c_47_25 mi_47
  · exact E_rV c_47_25 mi_47
set_option maxHeartbeats 4000000 in
theorem u_48_5_1003 (d : Nat) (σ : ax_S) : ev sO (d + 5) 48 0 [.ref 5, .ref 1003] [] σ = (cI sO (d + 4) 38 [.ref 5, .ref 1003] σ).bind fun u0 => (cV sO (d + 4) 49 [.ref 5, .int u0.1] u0.2).bind fun u1 => some (none, u1) := by
  refine (E_al c_48_0 rfl (by decide)).trans ?_
  refine (E_al c_48_1 rfl (by decide)).trans ?_
  refine (E_al c_48_2 rfl (by decide)).trans ?_
  refine (E_cIV c_48_3 mi_38 rfl rfl (sO_kl sh_5) (Nat.le_of_ble_eq_true rfl) (Nat.le_of_ble_eq_true rfl)).trans (ax_bnd fun u0 => ?_)
  refine (E_cVV c_48_6 mi_49 rfl (sO_kl sh_5) (Nat.le_of_ble_eq_true rfl) (Nat.le_of_ble_eq_true rfl)).trans (ax_bnd fun u1 => ?_)
  exact E_rV c_48_9 mi_48
set_option maxHeartbeats 4000000 in
theorem u_39_1002 (d : Nat) (σ : ax_S) : ev sO (d + 1) 39 0 [.ref 1002] [] σ = (cI sO d 40 [.ref 1002] σ).bind fun u0 => some (some (.int ((6 : Int32) >>> (u0.1 &&& 31))), u0.2) := by
  refine (E_al c_39_0 rfl (by decide)).trans ?_
  refine (E_gfs0 (b := 1102) c_39_1 (by decide) rfl).trans ?_
  refine (E_alns (v := (6 : Int32)) c_39_4 (by decide) (by decide)).trans ?_
  refine (E_al c_39_5 rfl (by decide)).trans ?_
  refine (E_cIV c_39_6 mi_40 rfl rfl (sO_kls (by decide)) (Nat.le_of_ble_eq_true rfl) (Nat.le_of_ble_eq_true rfl)).trans (ax_bnd fun u0 => ?_)
  refine (E_ishr c_39_9).trans ?_
  exact E_rI c_39_10 mi_39
set_option maxHeartbeats 4000000 in
theorem u_41_1002 (d : Nat) (σ : ax_S) (x1 : Int32) : ev sO (d + 3) 41 0 [.ref 1002, .int x1] [] σ = (cI sO (d + 2) 42 [.ref 1002] σ).bind fun u0 => if u0.1 = 0 then (ev sO (d + 3) 41 21 [.ref 1002, .int x1] [.int x1, .ref 1102] u0.2) else ((cI sO (d + 2) 43 [.ref 1102, .int x1] u0.2).bind fun u1 => some (some (.int u1.1.toUInt32.toUInt16.toUInt32.toInt32), u1.2)) := by
  refine (E_al c_41_0 rfl (by decide)).trans ?_
  refine (E_cIV c_41_1 mi_42 rfl rfl (sO_kls (by decide)) (Nat.le_of_ble_eq_true rfl) (Nat.le_of_ble_eq_true rfl)).trans (ax_bnd fun u0 => ?_)
  refine (E_b0_eq (q := 16) c_41_4 rfl).trans (ax_ite ?_ ?_)
  · refine (E_al c_41_16 rfl (by decide)).trans ?_
    refine (E_gfs0 (b := 1102) c_41_17 (by decide) rfl).trans ?_
    refine (E_il c_41_20 rfl).trans ?_
    rfl
  · refine (E_al c_41_7 rfl (by decide)).trans ?_
    refine (E_gfs0 (b := 1102) c_41_8 (by decide) rfl).trans ?_
    refine (E_il c_41_11 rfl).trans ?_
    refine (E_cIS c_41_12 mi_43 rfl rfl (Nat.le_of_ble_eq_true rfl) (Nat.le_of_ble_eq_true rfl)).trans (ax_bnd fun u1 => ?_)
    exact E_rC (v := u1.1.toUInt32.toUInt16.toUInt32.toInt32) c_41_15 mi_41 rfl
set_option maxHeartbeats 4000000 in
theorem u_48_5_1002 (d : Nat) (σ : ax_S) : ev sO (d + 5) 48 0 [.ref 5, .ref 1002] [] σ = (cI sO (d + 4) 38 [.ref 5, .ref 1002] σ).bind fun u0 => (cV sO (d + 4) 49 [.ref 5, .int u0.1] u0.2).bind fun u1 => some (none, u1) := by
  refine (E_al c_48_0 rfl (by decide)).trans ?_
  refine (E_al c_48_1 rfl (by decide)).trans ?_
  refine (E_al c_48_2 rfl (by decide)).trans ?_
  refine (E_cIV c_48_3 mi_38 rfl rfl (sO_kl sh_5) (Nat.le_of_ble_eq_true rfl) (Nat.le_of_ble_eq_true rfl)).trans (ax_bnd fun u0 => ?_)
  refine (E_cVV c_48_6 mi_49 rfl (sO_kl sh_5) (Nat.le_of_ble_eq_true rfl) (Nat.le_of_ble_eq_true rfl)).trans (ax_bnd fun u1 => ?_)
  exact E_rV c_48_9 mi_48
set_option maxHeartbeats 4000000 in
theorem u_207_82 (d : Nat) (σ : ax_S) (x1 : Int32) : ev sO d 207 0 [.ref 82, .int x1] [] σ = if x1 < (σ.1 82 12) then (gd (0 ≤ x1.toInt ∧ x1.toInt < (500 : Nat)) (some (some (.int (σ.1 89 x1.toNatClampNeg)), σ))) else (some (some (.int (-1000000 : Int32)), σ)) := by
  refine (E_il c_207_0 rfl).trans ?_
  refine (E_al c_207_1 rfl (by decide)).trans ?_
  refine (E_gfi (k := 12) c_207_2 sh_82 rfl rfl rfl (by decide)).trans ?_
  refine (E_br_ge (q := 17) c_207_5 rfl).trans (ax_ite ?_ ?_)
  · refine (E_al c_207_8 rfl (by decide)).trans ?_
    refine (E_gfr (k := 9) (r := 89) c_207_9 sh_82 rfl rfl rfl).trans ?_
    refine (E_il c_207_12 rfl).trans ?_
    refine (E_ial c_207_13 sh_89).trans (ax_gd ?_)
    refine (E_goto (q := 19) c_207_14 rfl).trans ?_
    exact E_rI c_207_19 mi_207
  · refine (E_ic (v := (-1000000 : Int32)) c_207_17 (by decide)).trans ?_
    exact E_rI c_207_19 mi_207
set_option maxHeartbeats 4000000 in
theorem u_208 (d : Nat) (σ : ax_S) (x0 : Int32) : ev sO d 208 0 [.int x0] [] σ = if x0 < (97 : Int32) then (some (some (.int (0 : Int32)), σ)) else (if (122 : Int32) < x0 then (some (some (.int (0 : Int32)), σ)) else (some (some (.int (1 : Int32)), σ))) := by
  refine (E_il c_208_0 rfl).trans ?_
  refine (E_ic (v := (97 : Int32)) c_208_1 (by decide)).trans ?_
  refine (E_br_lt (q := 16) c_208_3 rfl).trans (ax_ite ?_ ?_)
  · refine (E_ic (v := (0 : Int32)) c_208_16 (by decide)).trans ?_
    exact E_rZ (v := (0 : Int32)) c_208_17 mi_208 (by decide)
  · refine (E_il c_208_6 rfl).trans ?_
    refine (E_ic (v := (122 : Int32)) c_208_7 (by decide)).trans ?_
    refine (E_br_gt (q := 16) c_208_9 rfl).trans (ax_ite ?_ ?_)
    · refine (E_ic (v := (0 : Int32)) c_208_16 (by decide)).trans ?_
      exact E_rZ (v := (0 : Int32)) c_208_17 mi_208 (by decide)
    · refine (E_ic (v := (1 : Int32)) c_208_12 (by decide)).trans ?_
      refine (E_goto (q := 17) c_208_13 rfl).trans ?_
      exact E_rZ (v := (1 : Int32)) c_208_17 mi_208 (by decide)
set_option maxHeartbeats 4000000 in
theorem u_209 (d : Nat) (σ : ax_S) (x0 : Int32) : ev sO d 209 0 [.int x0] [] σ = if x0 < (48 : Int32) then (some (some (.int (0 : Int32)), σ)) else (if (57 : Int32) < x0 then (some (some (.int (0 : Int32)), σ)) else (some (some (.int (1 : Int32)), σ))) := by
  refine (E_il c_209_0 rfl).trans ?_
  refine (E_ic (v := (48 : Int32)) c_209_1 (by decide)).trans ?_
  refine (E_br_lt (q := 16) c_209_3 rfl).trans (ax_ite ?_ ?_)
  · refine (E_ic (v := (0 : Int32)) c_209_16 (by decide)).trans ?_
    exact E_rZ (v := (0 : Int32)) c_209_17 mi_209 (by decide)
  · refine (E_il c_209_6 rfl).trans ?_
    refine (E_ic (v := (57 : Int32)) c_209_7 (by decide)).trans ?_
    refine (E_br_gt (q := 16) c_209_9 rfl).trans (ax_ite ?_ ?_)
    · refine (E_ic (v := (0 : Int32)) c_209_16 (by decide)).trans ?_
      exact E_rZ (v := (0 : Int32)) c_209_17 mi_209 (by decide)
    · refine (E_ic (v := (1 : Int32)) c_209_12 (by decide)).trans ?_
      refine (E_goto (q := 17) c_209_13 rfl).trans ?_
      exact E_rZ (v := (1 : Int32)) c_209_17 mi_209 (by decide)
set_option maxHeartbeats 4000000 in
theorem u_38_5_1004 (d : Nat) (σ : ax_S) : ev sO (d + 4) 38 0 [.ref 5, .ref 1004, .null] [] σ = if (σ.1 5 5) = (1 : Int32) then ((cI sO (d + 3) 39 [.ref 1004] σ).bind fun u0 => if u0.1 = ((u0.2.1 5 7) - (u0.2.1 5 6)) then (ev sO (d + 4) 38 28 [.ref 5, .ref 1004, .int (0 : Int32)] [] u0.2) else (some (some (.int (0 : Int32)), u0.2))) else (some (some (.int (0 : Int32)), σ)) := by
  refine (E_al c_38_0 rfl (by decide)).trans ?_
  refine (E_gfi (k := 5) c_38_1 sh_5 rfl rfl rfl (by decide)).trans ?_
  refine (E_ic (v := (1 : Int32)) c_38_4 (by decide)).trans ?_
  refine (E_br_ne (q := 24) c_38_5 rfl).trans (ax_ite ?_ ?_)
  · refine (E_al c_38_8 rfl (by decide)).trans ?_
    refine (E_cIV c_38_9 mi_39 rfl rfl (sO_kls (by decide)) (Nat.le_of_ble_eq_true rfl) (Nat.le_of_ble_eq_true rfl)).trans (ax_bnd fun u0 => ?_)
    refine (E_al c_38_12 rfl (by decide)).trans ?_
    refine (E_gfi (k := 7) c_38_13 sh_5 rfl rfl rfl (by decide)).trans ?_
    refine (E_al c_38_16 rfl (by decide)).trans ?_
    refine (E_gfi (k := 6) c_38_17 sh_5 rfl rfl rfl (by decide)).trans ?_
    refine (E_isub c_38_20).trans ?_
    refine (E_br_eq (q := 26) c_38_21 rfl).trans (ax_ite ?_ ?_)
    · refine (E_ic (v := (0 : Int32)) c_38_26 (by decide)).trans ?_
      refine (E_is (L' := [.ref 5, .ref 1004, .int (0 : Int32)]) c_38_27 (Nat.le_of_ble_eq_true rfl) rfl).trans ?_
      rfl
    · refine (E_ic (v := (0 : Int32)) c_38_24 (by decide)).trans ?_
      exact E_rZ (v := (0 : Int32)) c_38_25 mi_38 (by decide)
  · refine (E_ic (v := (0 : Int32)) c_38_24 (by decide)).trans ?_
    exact E_rZ (v := (0 : Int32)) c_38_25 mi_38 (by decide)
set_option maxHeartbeats 4000000 in
theorem u_38_5_1004p28 (d : Nat) (σ : ax_S) (x2 : Int32) : ev sO (d + 4) 38 28 [.ref 5, .ref 1004, .int x2] [] σ = (cI sO (d + 3) 39 [.ref 1004] σ).bind fun u0 => if x2 < u0.1 then ((cI sO (d + 3) 34 [.ref 5, .int ((u0.2.1 5 6) + x2)] u0.2).bind fun u1 => (cI sO (d + 3) 41 [.ref 1004, .int x2] u1.2).bind fun u2 => if u1.1 = u2.1 then (ev sO (d + 4) 38 28 [.ref 5, .ref 1004, .int (x2 + (1 : Int32))] [] u2.2) else (some (some (.int (0 : Int32)), u2.2))) else (some (some (.int (1 : Int32)), u0.2)) := by
  refine (E_il c_38_28 rfl).trans ?_
  refine (E_al c_38_29 rfl (by decide)).trans ?_
  refine (E_cIV c_38_30 mi_39 rfl rfl (sO_kls (by decide)) (Nat.le_of_ble_eq_true rfl) (Nat.le_of_ble_eq_true rfl)).trans (ax_bnd fun u0 => ?_)
  refine (E_br_ge (q := 62) c_38_33 rfl).trans (ax_ite ?_ ?_)
  · refine (E_al c_38_36 rfl (by decide)).trans ?_
    refine (E_al c_38_37 rfl (by decide)).trans ?_
    refine (E_gfi (k := 6) c_38_38 sh_5 rfl rfl rfl (by decide)).trans ?_
    refine (E_il c_38_41 rfl).trans ?_
    refine (E_iadd c_38_42).trans ?_
    refine (E_cIV c_38_43 mi_34 rfl rfl (sO_kl sh_5) (Nat.le_of_ble_eq_true rfl) (Nat.le_of_ble_eq_true rfl)).trans (ax_bnd fun u1 => ?_)
    refine (E_al c_38_46 rfl (by decide)).trans ?_
    refine (E_il c_38_47 rfl).trans ?_
    refine (E_cIV c_38_48 mi_41 rfl rfl (sO_kls (by decide)) (Nat.le_of_ble_eq_true rfl) (Nat.le_of_ble_eq_true rfl)).trans (ax_bnd fun u2 => ?_)
    refine (E_br_eq (q := 56) c_38_51 rfl).trans (ax_ite ?_ ?_)
    · refine (E_inc (v := (1 : Int32)) (L' := [.ref 5, .ref 1004, .int (x2 + (1 : Int32))]) c_38_56 rfl (by decide) rfl).trans ?_
      refine (E_goto (q := 28) c_38_59 rfl).trans ?_
      rfl
    · refine (E_ic (v := (0 : Int32)) c_38_54 (by decide)).trans ?_
      exact E_rZ (v := (0 : Int32)) c_38_55 mi_38 (by decide)
  · refine (E_ic (v := (1 : Int32)) c_38_62 (by decide)).trans ?_
    exact E_rZ (v := (1 : Int32)) c_38_63 mi_38 (by decide)
set_option maxHeartbeats 4000000 in
theorem u_49_5 (d : Nat) (σ : ax_S) (x1 : Int32) : ev sO (d + 2) 49 0 [.ref 5, .int x1] [] σ = if x1 = 0 then ((cV sO (d + 1) 47 [.ref 5, .int (1 : Int32)] σ).bind fun u0 => some (none, u0)) else (if (σ.1 5 4) = 0 then ((cV sO (d + 1) 33 [.ref 5] σ).bind fun u1 => some (none, u1)) else (some (none, σ))) := by
  refine (E_il c_49_0 rfl).trans ?_
  refine (E_b0_ne (q := 12) c_49_1 rfl).trans (ax_ite ?_ ?_)
  · refine (E_al c_49_4 rfl (by decide)).trans ?_
    refine (E_ic (v := (1 : Int32)) c_49_5 (by decide)).trans ?_
    refine (E_cVV c_49_6 mi_47 rfl (sO_kl sh_5) (Nat.le_of_ble_eq_true rfl) (Nat.le_of_ble_eq_true rfl)).trans (ax_bnd fun u0 => ?_)
    refine (E_goto (q := 23) c_49_9 rfl).trans ?_
    exact E_rV c_49_23 mi_49
  · refine (E_al c_49_12 rfl (by decide)).trans ?_
    refine (E_gfi (k := 4) c_49_13 sh_5 rfl rfl rfl (by decide)).trans ?_
    refine (E_b0_ne (q := 23) c_49_16 rfl).trans (ax_ite ?_ ?_)
    · refine (E_al c_49_19 rfl (by decide)).trans ?_
      refine (E_cVV c_49_20 mi_33 rfl (sO_kl sh_5) (Nat.le_of_ble_eq_true rfl) (Nat.le_of_ble_eq_true rfl)).trans (ax_bnd fun u1 => ?_)
      exact E_rV c_49_23 mi_49
    · exact E_rV c_49_23 mi_49
set_option maxHeartbeats 4000000 in
theorem u_51_5 (d : Nat) (σ : ax_S) (x1 : Int32) (x2 : Int32) : ev sO (d + 2) 51 0 [.ref 5, .int x1, .int x2, .null] [] σ = if (σ.1 5 5) = (2 : Int32) then (if (σ.1 5 4) = 0 then ((cI sO (d + 1) 52 [.ref 5] σ).bind fun u0 => if u0.1 < x1 then ((cV sO (d + 1) 47 [.ref 5, .int (2 : Int32)] u0.2).bind fun u1 => if (u1.1 5 4) = 0 then (some (some (.int u0.1), u1)) else (some (some (.int (0 : Int32)), u1))) else (if x2 < u0.1 then ((cV sO (d + 1) 47 [.ref 5, .int (2 : Int32)] u0.2).bind fun u2 => if (u2.1 5 4) = 0 then (some (some (.int u0.1), u2)) else (some (some (.int (0 : Int32)), u2))) else (if (u0.2.1 5 4) = 0 then (some (some (.int u0.1), u0.2)) else (some (some (.int (0 : Int32)), u0.2))))) else (if (0 : Int32) < x1 then ((cV sO (d + 1) 47 [.ref 5, .int (2 : Int32)] σ).bind fun u3 => if (u3.1 5 4) = 0 then (some (some (.int (0 : Int32)), u3)) else (some (some (.int (0 : Int32)), u3))) else (if x2 < (0 : Int32) then ((cV sO (d + 1) 47 [.ref 5, .int (2 : Int32)] σ).bind fun u4 => if (u4.1 5 4) = 0 then (some (some (.int (0 : Int32)), u4)) else (some (some (.int (0 : Int32)), u4))) else (if (σ.1 5 4) = 0 then (some (some (.int (0 : Int32)), σ)) else (some (some (.int (0 : Int32)), σ)))))) else ((cV sO (d + 1) 47 [.ref 5, .int (1 : Int32)] σ).bind fun u5 => if (u5.1 5 4) = 0 then ((cI sO (d + 1) 52 [.ref 5] u5).bind fun u6 => if u6.1 < x1 then ((cV sO (d + 1) 47 [.ref 5, .int (2 : Int32)] u6.2).bind fun u7 => if (u7.1 5 4) = 0 then (some (some (.int u6.1), u7)) else (some (some (.int (0 : Int32)), u7))) else (if x2 < u6.1 then ((cV sO (d + 1) 47 [.ref 5, .int (2 : Int32)] u6.2).bind fun u8 => if (u8.1 5 4) = 0 then (some (some (.int u6.1), u8)) else (some (some (.int (0 : Int32)), u8))) else (if (u6.2.1 5 4) = 0 then (some (some (.int u6.1), u6.2)) else (some (some (.int (0 : Int32)), u6.2))))) else (if (0 : Int32) < x1 then ((cV sO (d + 1) 47 [.ref 5, .int (2 : Int32)] u5).bind fun u9 => if (u9.1 5 4) = 0 then (some (some (.int (0 : Int32)), u9)) else (some (some (.int (0 : Int32)), u9))) else (if x2 < (0 : Int32) then ((cV sO (d + 1) 47 [.ref 5, .int (2 : Int32)] u5).bind fun u10 => if (u10.1 5 4) = 0 then (some (some (.int (0 : Int32)), u10)) else (some (some (.int (0 : Int32)), u10))) else (if (u5.1 5 4) = 0 then (some (some (.int (0 : Int32)), u5)) else (some (some (.int (0 : Int32)), u5)))))) := by
  refine (E_al c_51_0 rfl (by decide)).trans ?_
  refine (E_gfi (k := 5) c_51_1 sh_5 rfl rfl rfl (by decide)).trans ?_
  refine (E_ic (v := (2 : Int32)) c_51_4 (by decide)).trans ?_
  refine (E_br_eq (q := 13) c_51_5 rfl).trans (ax_ite ?_ ?_)
  · refine (E_al c_51_13 rfl (by decide)).trans ?_
    refine (E_gfi (k := 4) c_51_14 sh_5 rfl rfl rfl (by decide)).trans ?_
    refine (E_b0_eq (q := 24) c_51_17 rfl).trans (ax_ite ?_ ?_)
    · refine (E_al c_51_24 rfl (by decide)).trans ?_
      refine (E_cIV c_51_25 mi_52 rfl rfl (sO_kl sh_5) (Nat.le_of_ble_eq_true rfl) (Nat.le_of_ble_eq_true rfl)).trans (ax_bnd fun u0 => ?_)
      refine (E_is (L' := [.ref 5, .int x1, .int x2, .int u0.1]) c_51_28 (Nat.le_of_ble_eq_true rfl) rfl).trans ?_
      refine (E_il c_51_29 rfl).trans ?_
      refine (E_il c_51_30 rfl).trans ?_
      refine (E_br_lt (q := 39) c_51_31 rfl).trans (ax_ite ?_ ?_)
      · refine (E_al c_51_39 rfl (by decide)).trans ?_
        refine (E_ic (v := (2 : Int32)) c_51_40 (by decide)).trans ?_
        refine (E_cVV c_51_41 mi_47 rfl (sO_kl sh_5) (Nat.le_of_ble_eq_true rfl) (Nat.le_of_ble_eq_true rfl)).trans (ax_bnd fun u1 => ?_)
        refine (E_al c_51_44 rfl (by decide)).trans ?_
        refine (E_gfi (k := 4) c_51_45 sh_5 rfl rfl rfl (by decide)).trans ?_
        refine (E_b0_eq (q := 55) c_51_48 rfl).trans (ax_ite ?_ ?_)
        · refine (E_il c_51_55 rfl).trans ?_
          exact E_rI c_51_56 mi_51
        · refine (E_ic (v := (0 : Int32)) c_51_51 (by decide)).trans ?_
          refine (E_goto (q := 56) c_51_52 rfl).trans ?_
          exact E_rI c_51_56 mi_51
      · refine (E_il c_51_34 rfl).trans ?_
        refine (E_il c_51_35 rfl).trans ?_
        refine (E_br_le (q := 44) c_51_36 rfl).trans (ax_ite ?_ ?_)
        · refine (E_al c_51_39 rfl (by decide)).trans ?_
          refine (E_ic (v := (2 : Int32)) c_51_40 (by decide)).trans ?_
          refine (E_cVV c_51_41 mi_47 rfl (sO_kl sh_5) (Nat.le_of_ble_eq_true rfl) (Nat.le_of_ble_eq_true rfl)).trans (ax_bnd fun u2 => ?_)
          refine (E_al c_51_44 rfl (by decide)).trans ?_
          refine (E_gfi (k := 4) c_51_45 sh_5 rfl rfl rfl (by decide)).trans ?_
          refine (E_b0_eq (q := 55) c_51_48 rfl).trans (ax_ite ?_ ?_)
          · refine (E_il c_51_55 rfl).trans ?_
            exact E_rI c_51_56 mi_51
          · refine (E_ic (v := (0 : Int32)) c_51_51 (by decide)).trans ?_
            refine (E_goto (q := 56) c_51_52 rfl).trans ?_
            exact E_rI c_51_56 mi_51
        · refine (E_al c_51_44 rfl (by decide)).trans ?_
          refine (E_gfi (k := 4) c_51_45 sh_5 rfl rfl rfl (by decide)).trans ?_
          refine (E_b0_eq (q := 55) c_51_48 rfl).trans (ax_ite ?_ ?_)
          · refine (E_il c_51_55 rfl).trans ?_
            exact E_rI c_51_56 mi_51
          · refine (E_ic (v := (0 : Int32)) c_51_51 (by decide)).trans ?_
            refine (E_goto (q := 56) c_51_52 rfl).trans ?_
            exact E_rI c_51_56 mi_51
    · refine (E_ic (v := (0 : Int32)) c_51_20 (by decide)).trans ?_
      refine (E_goto (q := 28) c_51_21 rfl).trans ?_
      refine (E_is (L' := [.ref 5, .int x1, .int x2, .int (0 : Int32)]) c_51_28 (Nat.le_of_ble_eq_true rfl) rfl).trans ?_
      refine (E_il c_51_29 rfl).trans ?_
      refine (E_il c_51_30 rfl).trans ?_
      refine (E_br_lt (q := 39) c_51_31 rfl).trans (ax_ite ?_ ?_)
      · refine (E_al c_51_39 rfl (by decide)).trans ?_
        refine (E_ic (v := (2 : Int32)) c_51_40 (by decide)).trans ?_
        refine (E_cVV c_51_41 mi_47 rfl (sO_kl sh_5) (Nat.le_of_ble_eq_true rfl) (Nat.le_of_ble_eq_true rfl)).trans (ax_bnd fun u3 => ?_)
        refine (E_al c_51_44 rfl (by decide)).trans ?_
        refine (E_gfi (k := 4) c_51_45 sh_5 rfl rfl rfl (by decide)).trans ?_
        refine (E_b0_eq (q := 55) c_51_48 rfl).trans (ax_ite ?_ ?_)
        · refine (E_il c_51_55 rfl).trans ?_
          exact E_rI c_51_56 mi_51
        · refine (E_ic (v := (0 : Int32)) c_51_51 (by decide)).trans ?_
          refine (E_goto (q := 56) c_51_52 rfl).trans ?_
          exact E_rI c_51_56 mi_51
      · refine (E_il c_51_34 rfl).trans ?_
        refine (E_il c_51_35 rfl).trans ?_
        refine (E_br_le (q := 44) c_51_36 rfl).trans (ax_ite ?_ ?_)
        · refine (E_al c_51_39 rfl (by decide)).trans ?_
          refine (E_ic (v := (2 : Int32)) c_51_40 (by decide)).trans ?_
          refine (E_cVV c_51_41 mi_47 rfl (sO_kl sh_5) (Nat.le_of_ble_eq_true rfl) (Nat.le_of_ble_eq_true rfl)).trans (ax_bnd fun u4 => ?_)
          refine (E_al c_51_44 rfl (by decide)).trans ?_
          refine (E_gfi (k := 4) c_51_45 sh_5 rfl rfl rfl (by decide)).trans ?_
          refine (E_b0_eq (q := 55) c_51_48 rfl).trans (ax_ite ?_ ?_)
          · refine (E_il c_51_55 rfl).trans ?_
            exact E_rI c_51_56 mi_51
          · refine (E_ic (v := (0 : Int32)) c_51_51 (by decide)).trans ?_
            refine (E_goto (q := 56) c_51_52 rfl).trans ?_
            exact E_rI c_51_56 mi_51
        · refine (E_al c_51_44 rfl (by decide)).trans ?_
          refine (E_gfi (k := 4) c_51_45 sh_5 rfl rfl rfl (by decide)).trans ?_
          refine (E_b0_eq (q := 55) c_51_48 rfl).trans (ax_ite ?_ ?_)
          · refine (E_il c_51_55 rfl).trans ?_
            exact E_rI c_51_56 mi_51
          · refine (E_ic (v := (0 : Int32)) c_51_51 (by decide)).trans ?_
            refine (E_goto (q := 56) c_51_52 rfl).trans ?_
            exact E_rI c_51_56 mi_51
  · refine (E_al c_51_8 rfl (by decide)).trans ?_
    refine (E_ic (v := (1 : Int32)) c_51_9 (by decide)).trans ?_
    refine (E_cVV c_51_10 mi_47 rfl (sO_kl sh_5) (Nat.le_of_ble_eq_true rfl) (Nat.le_of_ble_eq_true rfl)).trans (ax_bnd fun u5 => ?_)
    refine (E_al c_51_13 rfl (by decide)).trans ?_
    refine (E_gfi (k := 4) c_51_14 sh_5 rfl rfl rfl (by decide)).trans ?_
    refine (E_b0_eq (q := 24) c_51_17 rfl).trans (ax_ite ?_ ?_)
    · refine (E_al c_51_24 rfl (by decide)).trans ?_
      refine (E_cIV c_51_25 mi_52 rfl rfl (sO_kl sh_5) (Nat.le_of_ble_eq_true rfl) (Nat.le_of_ble_eq_true rfl)).trans (ax_bnd fun u6 => ?_)
      refine (E_is (L' := [.ref 5, .int x1, .int x2, .int u6.1]) c_51_28 (Nat.le_of_ble_eq_true rfl) rfl).trans ?_
      refine (E_il c_51_29 rfl).trans ?_
      refine (E_il c_51_30 rfl).trans ?_
      refine (E_br_lt (q := 39) c_51_31 rfl).trans (ax_ite ?_ ?_)
      · refine (E_al c_51_39 rfl (by decide)).trans ?_
        refine (E_ic (v := (2 : Int32)) c_51_40 (by decide)).trans ?_
        refine (E_cVV c_51_41 mi_47 rfl (sO_kl sh_5) (Nat.le_of_ble_eq_true rfl) (Nat.le_of_ble_eq_true rfl)).trans (ax_bnd fun u7 => ?_)
        refine (E_al c_51_44 rfl (by decide)).trans ?_
        refine (E_gfi (k := 4) c_51_45 sh_5 rfl rfl rfl (by decide)).trans ?_
        refine (E_b0_eq (q := 55) c_51_48 rfl).trans (ax_ite ?_ ?_)
        · refine (E_il c_51_55 rfl).trans ?_
          exact E_rI c_51_56 mi_51
        · refine (E_ic (v := (0 : Int32)) c_51_51 (by decide)).trans ?_
          refine (E_goto (q := 56) c_51_52 rfl).trans ?_
          exact E_rI c_51_56 mi_51
      · refine (E_il c_51_34 rfl).trans ?_
        refine (E_il c_51_35 rfl).trans ?_
        refine (E_br_le (q := 44) c_51_36 rfl).trans (ax_ite ?_ ?_)
        · refine (E_al c_51_39 rfl (by decide)).trans ?_
          refine (E_ic (v := (2 : Int32)) c_51_40 (by decide)).trans ?_
          refine (E_cVV c_51_41 mi_47 rfl (sO_kl sh_5) (Nat.le_of_ble_eq_true rfl) (Nat.le_of_ble_eq_true rfl)).trans (ax_bnd fun u8 => ?_)
          refine (E_al c_51_44 rfl (by decide)).trans ?_
          refine (E_gfi (k := 4) c_51_45 sh_5 rfl rfl rfl (by decide)).trans ?_
          refine (E_b0_eq (q := 55) c_51_48 rfl).trans (ax_ite ?_ ?_)
          · refine (E_il c_51_55 rfl).trans ?_
            exact E_rI c_51_56 mi_51
          · refine (E_ic (v := (0 : Int32)) c_51_51 (by decide)).trans ?_
            refine (E_goto (q := 56) c_51_52 rfl).trans ?_
            exact E_rI c_51_56 mi_51
        · refine (E_al c_51_44 rfl (by decide)).trans ?_
          refine (E_gfi (k := 4) c_51_45 sh_5 rfl rfl rfl (by decide)).trans ?_
          refine (E_b0_eq (q := 55) c_51_48 rfl).trans (ax_ite ?_ ?_)
          · refine (E_il c_51_55 rfl).trans ?_
            exact E_rI c_51_56 mi_51
          · refine (E_ic (v := (0 : Int32)) c_51_51 (by decide)).trans ?_
            refine (E_goto (q := 56) c_51_52 rfl).trans ?_
            exact E_rI c_51_56 mi_51
    · refine (E_ic (v := (0 : Int32)) c_51_20 (by decide)).trans ?_
      refine (E_goto (q := 28) c_51_21 rfl).trans ?_
      refine (E_is (L' := [.ref 5, .int x1, .int x2, .int (0 : Int32)]) c_51_28 (Nat.le_of_ble_eq_true rfl) rfl).trans ?_
      refine (E_il c_51_29 rfl).trans ?_
      refine (E_il c_51_30 rfl).trans ?_
      refine (E_br_lt (q := 39) c_51_31 rfl).trans (ax_ite ?_ ?_)
      · refine (E_al c_51_39 rfl (by decide)).trans ?_
        refine (E_ic (v := (2 : Int32)) c_51_40 (by decide)).trans ?_
        refine (E_cVV c_51_41 mi_47 rfl (sO_kl sh_5) (Nat.le_of_ble_eq_true rfl) (Nat.le_of_ble_eq_true rfl)).trans (ax_bnd fun u9 => ?_)
        refine (E_al c_51_44 rfl (by decide)).trans ?_
        refine (E_gfi (k := 4) c_51_45 sh_5 rfl rfl rfl (by decide)).trans ?_
        refine (E_b0_eq (q := 55) c_51_48 rfl).trans (ax_ite ?_ ?_)
        · refine (E_il c_51_55 rfl).trans ?_
          exact E_rI c_51_56 mi_51
        · refine (E_ic (v := (0 : Int32)) c_51_51 (by decide)).trans ?_
          refine (E_goto (q := 56) c_51_52 rfl).trans ?_
          exact E_rI c_51_56 mi_51
      · refine (E_il c_51_34 rfl).trans ?_
        refine (E_il c_51_35 rfl).trans ?_
        refine (E_br_le (q := 44) c_51_36 rfl).trans (ax_ite ?_ ?_)
        · refine (E_al c_51_39 rfl (by decide)).trans ?_
          refine (E_ic (v := (2 : Int32)) c_51_40 (by decide)).trans ?_
          refine (E_cVV c_51_41 mi_47 rfl (sO_kl sh_5) (Nat.le_of_ble_eq_true rfl) (Nat.le_of_ble_eq_true rfl)).trans (ax_bnd fun u10 => ?_)
          refine (E_al c_51_44 rfl (by decide)).trans ?_
          refine (E_gfi (k := 4) c_51_45 sh_5 rfl rfl rfl (by decide)).trans ?_
          refine (E_b0_eq (q := 55) c_51_48 rfl).trans (ax_ite ?_ ?_)
          · refine (E_il c_51_55 rfl).trans ?_
            exact E_rI c_51_56 mi_51
          · refine (E_ic (v := (0 : Int32)) c_51_51 (by decide)).trans ?_
            refine (E_goto (q := 56) c_51_52 rfl).trans ?_
            exact E_rI c_51_56 mi_51
        · refine (E_al c_51_44 rfl (by decide)).trans ?_
          refine (E_gfi (k := 4) c_51_45 sh_5 rfl rfl rfl (by decide)).trans ?_
          refine (E_b0_eq (q := 55) c_51_48 rfl).trans (ax_ite ?_ ?_)
          · refine (E_il c_51_55 rfl).trans ?_
            exact E_rI c_51_56 mi_51
          · refine (E_ic (v := (0 : Int32)) c_51_51 (by decide)).trans ?_
            refine (E_goto (q := 56) c_51_52 rfl).trans ?_
            exact E_rI c_51_56 mi_51
set_option maxHeartbeats 4000000 in
theorem u_54_5 (d : Nat) (σ : ax_S) (x1 : Int32) : ev sO (d + 1) 54 0 [.ref 5, .int x1] [] σ = if (σ.1 5 5) = (3 : Int32) then ((cI sO d 34 [.ref 5, .int (σ.1 5 6)] σ).bind fun u0 => if u0.1 = x1 then (some (some (.int (1 : Int32)), u0.2)) else (some (some (.int (0 : Int32)), u0.2))) else (some (some (.int (0 : Int32)), σ)) := by
  refine (E_al c_54_0 rfl (by decide)).trans ?_
  refine (E_gfi (k := 5) c_54_1 sh_5 rfl rfl rfl (by decide)).trans ?_
  refine (E_ic (v := (3 : Int32)) c_54_4 (by decide)).trans ?_
  refine (E_br_ne (q := 24) c_54_5 rfl).trans (ax_ite ?_ ?_)
  · refine (E_al c_54_8 rfl (by decide)).trans ?_
    refine (E_al c_54_9 rfl (by decide)).trans ?_
    refine (E_gfi (k := 6) c_54_10 sh_5 rfl rfl rfl (by decide)).trans ?_
    refine (E_cIV c_54_13 mi_34 rfl rfl (sO_kl sh_5) (Nat.le_of_ble_eq_true rfl) (Nat.le_of_ble_eq_true rfl)).trans (ax_bnd fun u0 => ?_)
    refine (E_il c_54_16 rfl).trans ?_
    refine (E_br_ne (q := 24) c_54_17 rfl).trans (ax_ite ?_ ?_)
    · refine (E_ic (v := (1 : Int32)) c_54_20 (by decide)).trans ?_
      refine (E_goto (q := 25) c_54_21 rfl).trans ?_
      exact E_rZ (v := (1 : Int32)) c_54_25 mi_54 (by decide)
    · refine (E_ic (v := (0 : Int32)) c_54_24 (by decide)).trans ?_
      exact E_rZ (v := (0 : Int32)) c_54_25 mi_54 (by decide)
  · refine (E_ic (v := (0 : Int32)) c_54_24 (by decide)).trans ?_
    exact E_rZ (v := (0 : Int32)) c_54_25 mi_54 (by decide)
set_option maxHeartbeats 4000000 in
theorem u_38_5_1005 (d : Nat) (σ : ax_S) : ev sO (d + 4) 38 0 [.ref 5, .ref 1005, .null] [] σ = if (σ.1 5 5) = (1 : Int32) then ((cI sO (d + 3) 39 [.ref 1005] σ).bind fun u0 => if u0.1 = ((u0.2.1 5 7) - (u0.2.1 5 6)) then (ev sO (d + 4) 38 28 [.ref 5, .ref 1005, .int (0 : Int32)] [] u0.2) else (some (some (.int (0 : Int32)), u0.2))) else (some (some (.int (0 : Int32)), σ)) := by
  refine (E_al c_38_0 rfl (by decide)).trans ?_
  refine (E_gfi (k := 5) c_38_1 sh_5 rfl rfl rfl (by decide)).trans ?_
  refine (E_ic (v := (1 : Int32)) c_38_4 (by decide)).trans ?_
  refine (E_br_ne (q := 24) c_38_5 rfl).trans (ax_ite ?_ ?_)
  · refine (E_al c_38_8 rfl (by decide)).trans ?_
    refine (E_cIV c_38_9 mi_39 rfl rfl (sO_kls (by decide)) (Nat.le_of_ble_eq_true rfl) (Nat.le_of_ble_eq_true rfl)).trans (ax_bnd fun u0 => ?_)
    refine (E_al c_38_12 rfl (by decide)).trans ?_
    refine (E_gfi (k := 7) c_38_13 sh_5 rfl rfl rfl (by decide)).trans ?_
    refine (E_al c_38_16 rfl (by decide)).trans ?_
    refine (E_gfi (k := 6) c_38_17 sh_5 rfl rfl rfl (by decide)).trans ?_
    refine (E_isub c_38_20).trans ?_
    refine (E_br_eq (q := 26) c_38_21 rfl).trans (ax_ite ?_ ?_)
    · refine (E_ic (v := (0 : Int32)) c_38_26 (by decide)).trans ?_
      refine (E_is (L' := [.ref 5, .ref 1005, .int (0 : Int32)]) c_38_27 (Nat.le_of_ble_eq_true rfl) rfl).trans ?_
      rfl
    · refine (E_ic (v := (0 : Int32)) c_38_24 (by decide)).trans ?_
      exact E_rZ (v := (0 : Int32)) c_38_25 mi_38 (by decide)
  · refine (E_ic (v := (0 : Int32)) c_38_24 (by decide)).trans ?_
    exact E_rZ (v := (0 : Int32)) c_38_25 mi_38 (by decide)
set_option maxHeartbeats 4000000 in
theorem u_38_5_1005p28 (d : Nat) (σ : ax_S) (x2 : Int32) : ev sO (d + 4) 38 28 [.ref 5, .ref 1005, .int x2] [] σ = (cI sO (d + 3) 39 [.ref 1005] σ).bind fun u0 => if x2 < u0.1 then ((cI sO (d + 3) 34 [.ref 5, .int ((u0.2.1 5 6) + x2)] u0.2).bind fun u1 => (cI sO (d + 3) 41 [.ref 1005, .int x2] u1.2).bind fun u2 => if u1.1 = u2.1 then (ev sO (d + 4) 38 28 [.ref 5, .ref 1005, .int (x2 + (1 : Int32))] [] u2.2) else (some (some (.int (0 : Int32)), u2.2))) else (some (some (.int (1 : Int32)), u0.2)) := by
  refine (E_il c_38_28 rfl).trans ?_
  refine (E_al c_38_29 rfl (by decide)).trans ?_
  refine (E_cIV c_38_30 mi_39 rfl rfl (sO_kls (by decide)) (Nat.le_of_ble_eq_true rfl) (Nat.le_of_ble_eq_true rfl)).trans (ax_bnd fun u0 => ?_)
  refine (E_br_ge (q := 62) c_38_33 rfl).trans (ax_ite ?_ ?_)
  · refine (E_al c_38_36 rfl (by decide)).trans ?_
    refine (E_al c_38_37 rfl (by decide)).trans ?_
    refine (E_gfi (k := 6) c_38_38 sh_5 rfl rfl rfl (by decide)).trans ?_
    refine (E_il c_38_41 rfl).trans ?_
    refine (E_iadd c_38_42).trans ?_
    refine (E_cIV c_38_43 mi_34 rfl rfl (sO_kl sh_5) (Nat.le_of_ble_eq_true rfl) (Nat.le_of_ble_eq_true rfl)).trans (ax_bnd fun u1 => ?_)
    refine (E_al c_38_46 rfl (by decide)).trans ?_
    refine (E_il c_38_47 rfl).trans ?_
    refine (E_cIV c_38_48 mi_41 rfl rfl (sO_kls (by decide)) (Nat.le_of_ble_eq_true rfl) (Nat.le_of_ble_eq_true rfl)).trans (ax_bnd fun u2 => ?_)
    refine (E_br_eq (q := 56) c_38_51 rfl).trans (ax_ite ?_ ?_)
    · refine (E_inc (v := (1 : Int32)) (L' := [.ref 5, .ref 1005, .int (x2 + (1 : Int32))]) c_38_56 rfl (by decide) rfl).trans ?_
      refine (E_goto (q := 28) c_38_59 rfl).trans ?_
      rfl
    · refine (E_ic (v := (0 : Int32)) c_38_54 (by decide)).trans ?_
      exact E_rZ (v := (0 : Int32)) c_38_55 mi_38 (by decide)
  · refine (E_ic (v := (1 : Int32)) c_38_62 (by decide)).trans ?_
    exact E_rZ (v := (1 : Int32)) c_38_63 mi_38 (by decide)
set_option maxHeartbeats 4000000 in
theorem u_38_5_1006 (d : Nat) (σ : ax_S) : ev sO (d + 4) 38 0 [.ref 5, .ref 1006, .null] [] σ = if (σ.1 5 5) = (1 : Int32) then ((cI sO (d + 3) 39 [.ref 1006] σ).bind fun u0 => if u0.1 = ((u0.2.1 5 7) - (u0.2.1 5 6)) then (ev sO (d + 4) 38 28 [.ref 5, .ref 1006, .int (0 : Int32)] [] u0.2) else (some (some (.int (0 : Int32)), u0.2))) else (some (some (.int (0 : Int32)), σ)) := by
  refine (E_al c_38_0 rfl (by decide)).trans ?_
  refine (E_gfi (k := 5) c_38_1 sh_5 rfl rfl rfl (by decide)).trans ?_
  refine (E_ic (v := (1 : Int32)) c_38_4 (by decide)).trans ?_
  refine (E_br_ne (q := 24) c_38_5 rfl).trans (ax_ite ?_ ?_)
  · refine (E_al c_38_8 rfl (by decide)).trans ?_
    refine (E_cIV c_38_9 mi_39 rfl rfl (sO_kls (by decide)) (Nat.le_of_ble_eq_true rfl) (Nat.le_of_ble_eq_true rfl)).trans (ax_bnd fun u0 => ?_)
    refine (E_al c_38_12 rfl (by decide)).trans ?_
    refine (E_gfi (k := 7) c_38_13 sh_5 rfl rfl rfl (by decide)).trans ?_
    refine (E_al c_38_16 rfl (by decide)).trans ?_
    refine (E_gfi (k := 6) c_38_17 sh_5 rfl rfl rfl (by decide)).trans ?_
    refine (E_isub c_38_20).trans ?_
    refine (E_br_eq (q := 26) c_38_21 rfl).trans (ax_ite ?_ ?_)
    · refine (E_ic (v := (0 : Int32)) c_38_26 (by decide)).trans ?_
      refine (E_is (L' := [.ref 5, .ref 1006, .int (0 : Int32)]) c_38_27 (Nat.le_of_ble_eq_true rfl) rfl).trans ?_
      rfl
    · refine (E_ic (v := (0 : Int32)) c_38_24 (by decide)).trans ?_
      exact E_rZ (v := (0 : Int32)) c_38_25 mi_38 (by decide)
  · refine (E_ic (v := (0 : Int32)) c_38_24 (by decide)).trans ?_
    exact E_rZ (v := (0 : Int32)) c_38_25 mi_38 (by decide)
set_option maxHeartbeats 4000000 in
theorem u_38_5_1006p28 (d : Nat) (σ : ax_S) (x2 : Int32) : ev sO (d + 4) 38 28 [.ref 5, .ref 1006, .int x2] [] σ = (cI sO (d + 3) 39 [.ref 1006] σ).bind fun u0 => if x2 < u0.1 then ((cI sO (d + 3) 34 [.ref 5, .int ((u0.2.1 5 6) + x2)] u0.2).bind fun u1 => (cI sO (d + 3) 41 [.ref 1006, .int x2] u1.2).bind fun u2 => if u1.1 = u2.1 then (ev sO (d + 4) 38 28 [.ref 5, .ref 1006, .int (x2 + (1 : Int32))] [] u2.2) else (some (some (.int (0 : Int32)), u2.2))) else (some (some (.int (1 : Int32)), u0.2)) := by
  refine (E_il c_38_28 rfl).trans ?_
  refine (E_al c_38_29 rfl (by decide)).trans ?_
  refine (E_cIV c_38_30 mi_39 rfl rfl (sO_kls (by decide)) (Nat.le_of_ble_eq_true rfl) (Nat.le_of_ble_eq_true rfl)).trans (ax_bnd fun u0 => ?_)
  refine (E_br_ge (q := 62) c_38_33 rfl).trans (ax_ite ?_ ?_)
  · refine (E_al c_38_36 rfl (by decide)).trans ?_
    refine (E_al c_38_37 rfl (by decide)).trans ?_
    refine (E_gfi (k := 6) c_38_38 sh_5 rfl rfl rfl (by decide)).trans ?_
    refine (E_il c_38_41 rfl).trans ?_
    refine (E_iadd c_38_42).trans ?_
    refine (E_cIV c_38_43 mi_34 rfl rfl (sO_kl sh_5) (Nat.le_of_ble_eq_true rfl) (Nat.le_of_ble_eq_true rfl)).trans (ax_bnd fun u1 => ?_)
    refine (E_al c_38_46 rfl (by decide)).trans ?_
    refine (E_il c_38_47 rfl).trans ?_
    refine (E_cIV c_38_48 mi_41 rfl rfl (sO_kls (by decide)) (Nat.le_of_ble_eq_true rfl) (Nat.le_of_ble_eq_true rfl)).trans (ax_bnd fun u2 => ?_)
    refine (E_br_eq (q := 56) c_38_51 rfl).trans (ax_ite ?_ ?_)
    · refine (E_inc (v := (1 : Int32)) (L' := [.ref 5, .ref 1006, .int (x2 + (1 : Int32))]) c_38_56 rfl (by decide) rfl).trans ?_
      refine (E_goto (q := 28) c_38_59 rfl).trans ?_
      rfl
    · refine (E_ic (v := (0 : Int32)) c_38_54 (by decide)).trans ?_
      exact E_rZ (v := (0 : Int32)) c_38_55 mi_38 (by decide)
  · refine (E_ic (v := (1 : Int32)) c_38_62 (by decide)).trans ?_
    exact E_rZ (v := (1 : Int32)) c_38_63 mi_38 (by decide)
set_option maxHeartbeats 4000000 in
theorem u_38_5_1007 (d : Nat) (σ : ax_S) : ev sO (d + 4) 38 0 [.ref 5, .ref 1007, .null] [] σ = if (σ.1 5 5) = (1 : Int32) then ((cI sO (d + 3) 39 [.ref 1007] σ).bind fun u0 => if u0.1 = ((u0.2.1 5 7) - (u0.2.1 5 6)) then (ev sO (d + 4) 38 28 [.ref 5, .ref 1007, .int (0 : Int32)] [] u0.2) else (some (some (.int (0 : Int32)), u0.2))) else (some (some (.int (0 : Int32)), σ)) := by
  refine (E_al c_38_0 rfl (by decide)).trans ?_
  refine (E_gfi (k := 5) c_38_1 sh_5 rfl rfl rfl (by decide)).trans ?_
  refine (E_ic (v := (1 : Int32)) c_38_4 (by decide)).trans ?_
  refine (E_br_ne (q := 24) c_38_5 rfl).trans (ax_ite ?_ ?_)
  · refine (E_al c_38_8 rfl (by decide)).trans ?_
    refine (E_cIV c_38_9 mi_39 rfl rfl (sO_kls (by decide)) (Nat.le_of_ble_eq_true rfl) (Nat.le_of_ble_eq_true rfl)).trans (ax_bnd fun u0 => ?_)
    refine (E_al c_38_12 rfl (by decide)).trans ?_
    refine (E_gfi (k := 7) c_38_13 sh_5 rfl rfl rfl (by decide)).trans ?_
    refine (E_al c_38_16 rfl (by decide)).trans ?_
    refine (E_gfi (k := 6) c_38_17 sh_5 rfl rfl rfl (by decide)).trans ?_
    refine (E_isub c_38_20).trans ?_
    refine (E_br_eq (q := 26) c_38_21 rfl).trans (ax_ite ?_ ?_)
    · refine (E_ic (v := (0 : Int32)) c_38_26 (by decide)).trans ?_
      refine (E_is (L' := [.ref 5, .ref 1007, .int (0 : Int32)]) c_38_27 (Nat.le_of_ble_eq_true rfl) rfl).trans ?_
      rfl
    · refine (E_ic (v := (0 : Int32)) c_38_24 (by decide)).trans ?_
      exact E_rZ (v := (0 : Int32)) c_38_25 mi_38 (by decide)
  · refine (E_ic (v := (0 : Int32)) c_38_24 (by decide)).trans ?_
    exact E_rZ (v := (0 : Int32)) c_38_25 mi_38 (by decide)
set_option maxHeartbeats 4000000 in
theorem u_38_5_1007p28 (d : Nat) (σ : ax_S) (x2 : Int32) : ev sO (d + 4) 38 28 [.ref 5, .ref 1007, .int x2] [] σ = (cI sO (d + 3) 39 [.ref 1007] σ).bind fun u0 => if x2 < u0.1 then ((cI sO (d + 3) 34 [.ref 5, .int ((u0.2.1 5 6) + x2)] u0.2).bind fun u1 => (cI sO (d + 3) 41 [.ref 1007, .int x2] u1.2).bind fun u2 => if u1.1 = u2.1 then (ev sO (d + 4) 38 28 [.ref 5, .ref 1007, .int (x2 + (1 : Int32))] [] u2.2) else (some (some (.int (0 : Int32)), u2.2))) else (some (some (.int (1 : Int32)), u0.2)) := by
  refine (E_il c_38_28 rfl).trans ?_
  refine (E_al c_38_29 rfl (by decide)).trans ?_
  refine (E_cIV c_38_30 mi_39 rfl rfl (sO_kls (by decide)) (Nat.le_of_ble_eq_true rfl) (Nat.le_of_ble_eq_true rfl)).trans (ax_bnd fun u0 => ?_)
  refine (E_br_ge (q := 62) c_38_33 rfl).trans (ax_ite ?_ ?_)
  · refine (E_al c_38_36 rfl (by decide)).trans ?_
    refine (E_al c_38_37 rfl (by decide)).trans ?_
    refine (E_gfi (k := 6) c_38_38 sh_5 rfl rfl rfl (by decide)).trans ?_
    refine (E_il c_38_41 rfl).trans ?_
    refine (E_iadd c_38_42).trans ?_
    refine (E_cIV c_38_43 mi_34 rfl rfl (sO_kl sh_5) (Nat.le_of_ble_eq_true rfl) (Nat.le_of_ble_eq_true rfl)).trans (ax_bnd fun u1 => ?_)
    refine (E_al c_38_46 rfl (by decide)).trans ?_
    refine (E_il c_38_47 rfl).trans ?_
    refine (E_cIV c_38_48 mi_41 rfl rfl (sO_kls (by decide)) (Nat.le_of_ble_eq_true rfl) (Nat.le_of_ble_eq_true rfl)).trans (ax_bnd fun u2 => ?_)
    refine (E_br_eq (q := 56) c_38_51 rfl).trans (ax_ite ?_ ?_)
    · refine (E_inc (v := (1 : Int32)) (L' := [.ref 5, .ref 1007, .int (x2 + (1 : Int32))]) c_38_56 rfl (by decide) rfl).trans ?_
      refine (E_goto (q := 28) c_38_59 rfl).trans ?_
      rfl
    · refine (E_ic (v := (0 : Int32)) c_38_54 (by decide)).trans ?_
      exact E_rZ (v := (0 : Int32)) c_38_55 mi_38 (by decide)
  · refine (E_ic (v := (1 : Int32)) c_38_62 (by decide)).trans ?_
    exact E_rZ (v := (1 : Int32)) c_38_63 mi_38 (by decide)
set_option maxHeartbeats 4000000 in
theorem u_77_61_5 (d : Nat) (σ : ax_S) : ev sO (d + 6) 77 0 [.ref 61, .ref 5] [] σ = if (σ.1 61 5) = 0 then ((cV sO (d + 5) 48 [.ref 5, .ref 1007] (sI σ 61 5 (1 : Int32))).bind fun u0 => (cI sO (d + 5) 73 [.ref 5, .int (1 : Int32), .int (99 : Int32)] u0).bind fun u1 => (cV sO (d + 5) 53 [.ref 5] (sI u1.2 62 10 u1.1)).bind fun u2 => some (none, u2)) else ((cV sO (d + 5) 47 [.ref 5, .int (4 : Int32)] σ).bind fun u3 => (cV sO (d + 5) 48 [.ref 5, .ref 1007] (sI u3 61 5 (1 : Int32))).bind fun u4 => (cI sO (d + 5) 73 [.ref 5, .int (1 : Int32), .int (99 : Int32)] u4).bind fun u5 => (cV sO (d + 5) 53 [.ref 5] (sI u5.2 62 10 u5.1)).bind fun u6 => some (none, u6)) := by
  refine (E_al c_77_0 rfl (by decide)).trans ?_
  refine (E_gfi (k := 5) c_77_1 sh_61 rfl rfl rfl (by decide)).trans ?_
  refine (E_b0_eq (q := 12) c_77_4 rfl).trans (ax_ite ?_ ?_)
  · refine (E_al c_77_12 rfl (by decide)).trans ?_
    refine (E_ic (v := (1 : Int32)) c_77_13 (by decide)).trans ?_
    refine (E_pfz (k := 5) c_77_14 sh_61 rfl rfl rfl (by decide)).trans ?_
    refine (E_al c_77_17 rfl (by decide)).trans ?_
    refine (E_ls (a := 1007) c_77_18 rfl).trans ?_
    refine (E_cVV c_77_20 mi_48 rfl (sO_kl sh_5) (Nat.le_of_ble_eq_true rfl) (Nat.le_of_ble_eq_true rfl)).trans (ax_bnd fun u0 => ?_)
    refine (E_al c_77_23 rfl (by decide)).trans ?_
    refine (E_gfr (k := 2) (r := 62) c_77_24 sh_61 rfl rfl rfl).trans ?_
    refine (E_ic (v := (10 : Int32)) c_77_27 (by decide)).trans ?_
    refine (E_al c_77_29 rfl (by decide)).trans ?_
    refine (E_ic (v := (1 : Int32)) c_77_30 (by decide)).trans ?_
    refine (E_ic (v := (99 : Int32)) c_77_31 (by decide)).trans ?_
    refine (E_cIV c_77_33 mi_73 rfl rfl (sO_kl sh_5) (Nat.le_of_ble_eq_true rfl) (Nat.le_of_ble_eq_true rfl)).trans (ax_bnd fun u1 => ?_)
    refine (E_iask (k := 10) (v := u1.1) c_77_36 sh_62 rfl (by decide) (by decide)).trans ?_
    refine (E_al c_77_37 rfl (by decide)).trans ?_
    refine (E_cVV c_77_38 mi_53 rfl (sO_kl sh_5) (Nat.le_of_ble_eq_true rfl) (Nat.le_of_ble_eq_true rfl)).trans (ax_bnd fun u2 => ?_)
    exact E_rV c_77_41 mi_77
  · refine (E_al c_77_7 rfl (by decide)).trans ?_
    refine (E_ic (v := (4 : Int32)) c_77_8 (by decide)).trans ?_
    refine (E_cVV c_77_9 mi_47 rfl (sO_kl sh_5) (Nat.le_of_ble_eq_true rfl) (Nat.le_of_ble_eq_true rfl)).trans (ax_bnd fun u3 => ?_)
    refine (E_al c_77_12 rfl (by decide)).trans ?_
    refine (E_ic (v := (1 : Int32)) c_77_13 (by decide)).trans ?_
    refine (E_pfz (k := 5) c_77_14 sh_61 rfl rfl rfl (by decide)).trans ?_
    refine (E_al c_77_17 rfl (by decide)).trans ?_
    refine (E_ls (a := 1007) c_77_18 rfl).trans ?_
    refine (E_cVV c_77_20 mi_48 rfl (sO_kl sh_5) (Nat.le_of_ble_eq_true rfl) (Nat.le_of_ble_eq_true rfl)).trans (ax_bnd fun u4 => ?_)
    refine (E_al c_77_23 rfl (by decide)).trans ?_
    refine (E_gfr (k := 2) (r := 62) c_77_24 sh_61 rfl rfl rfl).trans ?_
    refine (E_ic (v := (10 : Int32)) c_77_27 (by decide)).trans ?_
    refine (E_al c_77_29 rfl (by decide)).trans ?_
    refine (E_ic (v := (1 : Int32)) c_77_30 (by decide)).trans ?_
    refine (E_ic (v := (99 : Int32)) c_77_31 (by decide)).trans ?_
    refine (E_cIV c_77_33 mi_73 rfl rfl (sO_kl sh_5) (Nat.le_of_ble_eq_true rfl) (Nat.le_of_ble_eq_true rfl)).trans (ax_bnd fun u5 => ?_)
    refine (E_iask (k := 10) (v := u5.1) c_77_36 sh_62 rfl (by decide) (by decide)).trans ?_
    refine (E_al c_77_37 rfl (by decide)).trans ?_
    refine (E_cVV c_77_38 mi_53 rfl (sO_kl sh_5) (Nat.le_of_ble_eq_true rfl) (Nat.le_of_ble_eq_true rfl)).trans (ax_bnd fun u6 => ?_)
    exact E_rV c_77_41 mi_77
set_option maxHeartbeats 4000000 in
theorem u_76_61_5 (d : Nat) (σ : ax_S) : ev sO (d + 6) 76 0 [.ref 61, .ref 5] [] σ = if (σ.1 61 4) = 0 then ((cV sO (d + 5) 48 [.ref 5, .ref 1006] (sI σ 61 4 (1 : Int32))).bind fun u0 => (cI sO (d + 5) 73 [.ref 5, .int (0 : Int32), .int (9 : Int32)] u0).bind fun u1 => (cI sO (d + 5) 73 [.ref 5, .int (1 : Int32), .int (99 : Int32)] (sI u1.2 62 8 u1.1)).bind fun u2 => (cV sO (d + 5) 53 [.ref 5] (sI u2.2 62 9 u2.1)).bind fun u3 => some (none, u3)) else ((cV sO (d + 5) 47 [.ref 5, .int (4 : Int32)] σ).bind fun u4 => (cV sO (d + 5) 48 [.ref 5, .ref 1006] (sI u4 61 4 (1 : Int32))).bind fun u5 => (cI sO (d + 5) 73 [.ref 5, .int (0 : Int32), .int (9 : Int32)] u5).bind fun u6 => (cI sO (d + 5) 73 [.ref 5, .int (1 : Int32), .int (99 : Int32)] (sI u6.2 62 8 u6.1)).bind fun u7 => (cV sO (d + 5) 53 [.ref 5] (sI u7.2 62 9 u7.1)).bind fun u8 => some (none, u8)) := by
  refine (E_al c_76_0 rfl (by decide)).trans ?_
  refine (E_gfi (k := 4) c_76_1 sh_61 rfl rfl rfl (by decide)).trans ?_
  refine (E_b0_eq (q := 12) c_76_4 rfl).trans (ax_ite ?_ ?_)
  · refine (E_al c_76_12 rfl (by decide)).trans ?_
    refine (E_ic (v := (1 : Int32)) c_76_13 (by decide)).trans ?_
    refine (E_pfz (k := 4) c_76_14 sh_61 rfl rfl rfl (by decide)).trans ?_
    refine (E_al c_76_17 rfl (by decide)).trans ?_
    refine (E_ls (a := 1006) c_76_18 rfl).trans ?_
    refine (E_cVV c_76_20 mi_48 rfl (sO_kl sh_5) (Nat.le_of_ble_eq_true rfl) (Nat.le_of_ble_eq_true rfl)).trans (ax_bnd fun u0 => ?_)
    refine (E_al c_76_23 rfl (by decide)).trans ?_
    refine (E_gfr (k := 2) (r := 62) c_76_24 sh_61 rfl rfl rfl).trans ?_
    refine (E_ic (v := (8 : Int32)) c_76_27 (by decide)).trans ?_
    refine (E_al c_76_29 rfl (by decide)).trans ?_
    refine (E_ic (v := (0 : Int32)) c_76_30 (by decide)).trans ?_
    refine (E_ic (v := (9 : Int32)) c_76_31 (by decide)).trans ?_
    refine (E_cIV c_76_33 mi_73 rfl rfl (sO_kl sh_5) (Nat.le_of_ble_eq_true rfl) (Nat.le_of_ble_eq_true rfl)).trans (ax_bnd fun u1 => ?_)
    refine (E_iask (k := 8) (v := u1.1) c_76_36 sh_62 rfl (by decide) (by decide)).trans ?_
    refine (E_al c_76_37 rfl (by decide)).trans ?_
    refine (E_gfr (k := 2) (r := 62) c_76_38 sh_61 rfl rfl rfl).trans ?_
    refine (E_ic (v := (9 : Int32)) c_76_41 (by decide)).trans ?_
    refine (E_al c_76_43 rfl (by decide)).trans ?_
    refine (E_ic (v := (1 : Int32)) c_76_44 (by decide)).trans ?_
    refine (E_ic (v := (99 : Int32)) c_76_45 (by decide)).trans ?_
    refine (E_cIV c_76_47 mi_73 rfl rfl (sO_kl sh_5) (Nat.le_of_ble_eq_true rfl) (Nat.le_of_ble_eq_true rfl)).trans (ax_bnd fun u2 => ?_)
    refine (E_iask (k := 9) (v := u2.1) c_76_50 sh_62 rfl (by decide) (by decide)).trans ?_
    refine (E_al c_76_51 rfl (by decide)).trans ?_
    refine (E_cVV c_76_52 mi_53 rfl (sO_kl sh_5) (Nat.le_of_ble_eq_true rfl) (Nat.le_of_ble_eq_true rfl)).trans (ax_bnd fun u3 => ?_)
    exact E_rV c_76_55 mi_76
  · refine (E_al c_76_7 rfl (by decide)).trans ?_
    refine (E_ic (v := (4 : Int32)) c_76_8 (by decide)).trans ?_
    refine (E_cVV c_76_9 mi_47 rfl (sO_kl sh_5) (Nat.le_of_ble_eq_true rfl) (Nat.le_of_ble_eq_true rfl)).trans (ax_bnd fun u4 => ?_)
    refine (E_al c_76_12 rfl (by decide)).trans ?_
    refine (E_ic (v := (1 : Int32)) c_76_13 (by decide)).trans ?_
    refine (E_pfz (k := 4) c_76_14 sh_61 rfl rfl rfl (by decide)).trans ?_
    refine (E_al c_76_17 rfl (by decide)).trans ?_
    refine (E_ls (a := 1006) c_76_18 rfl).trans ?_
    refine (E_cVV c_76_20 mi_48 rfl (sO_kl sh_5) (Nat.le_of_ble_eq_true rfl) (Nat.le_of_ble_eq_true rfl)).trans (ax_bnd fun u5 => ?_)
    refine (E_al c_76_23 rfl (by decide)).trans ?_
    refine (E_gfr (k := 2) (r := 62) c_76_24 sh_61 rfl rfl rfl).trans ?_
    refine (E_ic (v := (8 : Int32)) c_76_27 (by decide)).trans ?_
    refine (E_al c_76_29 rfl (by decide)).trans ?_
    refine (E_ic (v := (0 : Int32)) c_76_30 (by decide)).trans ?_
    refine (E_ic (v := (9 : Int32)) c_76_31 (by decide)).trans ?_
    refine (E_cIV c_76_33 mi_73 rfl rfl (sO_kl sh_5) (Nat.le_of_ble_eq_true rfl) (Nat.le_of_ble_eq_true rfl)).trans (ax_bnd fun u6 => ?_)
    refine (E_iask (k := 8) (v := u6.1) c_76_36 sh_62 rfl (by decide) (by decide)).trans ?_
    refine (E_al c_76_37 rfl (by decide)).trans ?_
    refine (E_gfr (k := 2) (r := 62) c_76_38 sh_61 rfl rfl rfl).trans ?_
    refine (E_ic (v := (9 : Int32)) c_76_41 (by decide)).trans ?_
    refine (E_al c_76_43 rfl (by decide)).trans ?_
    refine (E_ic (v := (1 : Int32)) c_76_44 (by decide)).trans ?_
    refine (E_ic (v := (99 : Int32)) c_76_45 (by decide)).trans ?_
    refine (E_cIV c_76_47 mi_73 rfl rfl (sO_kl sh_5) (Nat.le_of_ble_eq_true rfl) (Nat.le_of_ble_eq_true rfl)).trans (ax_bnd fun u7 => ?_)
    refine (E_iask (k := 9) (v := u7.1) c_76_50 sh_62 rfl (by decide) (by decide)).trans ?_
    refine (E_al c_76_51 rfl (by decide)).trans ?_
    refine (E_cVV c_76_52 mi_53 rfl (sO_kl sh_5) (Nat.le_of_ble_eq_true rfl) (Nat.le_of_ble_eq_true rfl)).trans (ax_bnd fun u8 => ?_)
    exact E_rV c_76_55 mi_76
set_option maxHeartbeats 4000000 in
theorem u_72_61_5_8 (d : Nat) (σ : ax_S) : ev sO (d + 6) 72 0 [.ref 61, .ref 5, .ref 8, .null, .null, .null] [] σ = (cV sO (d + 5) 48 [.ref 5, .ref 1005] σ).bind fun u0 => (cI sO (d + 5) 51 [.ref 5, .int (0 : Int32), .int (7 : Int32)] u0).bind fun u1 => if (((u1.2.1 61 3) >>> (u1.1 &&& 31)) &&& (1 : Int32)) = 0 then ((cI sO (d + 5) 50 [.ref 5, .int (0 : Int32), .int (7 : Int32)] u1.2).bind fun u2 => (cI sO (d + 5) 73 [.ref 5, .int (1 : Int32), .int (99 : Int32)] u2.2).bind fun u3 => (cI sO (d + 5) 50 [.ref 5, .int (0 : Int32), .int (3 : Int32)] u3.2).bind fun u4 => (cV sO (d + 5) 53 [.ref 5] u4.2).bind fun u5 => (cI sO (d + 5) 74 [.int u1.1] (sI u5 61 3 ((u5.1 61 3) ||| ((1 : Int32) <<< (u1.1 &&& 31))))).bind fun u6 => if u6.1 = 0 then (some (none, u6.2)) else (if u3.1 = (-1000000 : Int32) then (gd (0 ≤ u1.1.toInt ∧ u1.1.toInt < (11 : Nat)) (some (none, (sI u6.2 62 u1.1.toNatClampNeg (-1000000 : Int32))))) else ((cI sO (d + 5) 75 [.ref 8, .int u4.1, .int (u6.2.1 61 0), .int (u6.2.1 61 1)] u6.2).bind fun u7 => gd (0 ≤ u1.1.toInt ∧ u1.1.toInt < (11 : Nat)) (some (none, (sI u7.2 62 u1.1.toNatClampNeg (u3.1 * u7.1))))))) else ((cV sO (d + 5) 47 [.ref 5, .int (4 : Int32)] u1.2).bind fun u8 => (cI sO (d + 5) 50 [.ref 5, .int (0 : Int32), .int (7 : Int32)] u8).bind fun u9 => (cI sO (d + 5) 73 [.ref 5, .int (1 : Int32), .int (99 : Int32)] u9.2).bind fun u10 => (cI sO (d + 5) 50 [.ref 5, .int (0 : Int32), .int (3 : Int32)] u10.2).bind fun u11 => (cV sO (d + 5) 53 [.ref 5] u11.2).bind fun u12 => (cI sO (d + 5) 74 [.int u1.1] (sI u12 61 3 ((u12.1 61 3) ||| ((1 : Int32) <<< (u1.1 &&& 31))))).bind fun u13 => if u13.1 = 0 then (some (none, u13.2)) else (if u10.1 = (-1000000 : Int32) then (gd (0 ≤ u1.1.toInt ∧ u1.1.toInt < (11 : Nat)) (some (none, (sI u13.2 62 u1.1.toNatClampNeg (-1000000 : Int32))))) else ((cI sO (d + 5) 75 [.ref 8, .int u11.1, .int (u13.2.1 61 0), .int (u13.2.1 61 1)] u13.2).bind fun u14 => gd (0 ≤ u1.1.toInt ∧ u1.1.toInt < (11 : Nat)) (some (none, (sI u14.2 62 u1.1.toNatClampNeg (u10.1 * u14.1))))))) := by
  refine (E_al c_72_0 rfl (by decide)).trans ?_
  refine (E_ls (a := 1005) c_72_1 rfl).trans ?_
  refine (E_cVV c_72_3 mi_48 rfl (sO_kl sh_5) (Nat.le_of_ble_eq_true rfl) (Nat.le_of_ble_eq_true rfl)).trans (ax_bnd fun u0 => ?_)
  refine (E_al c_72_6 rfl (by decide)).trans ?_
  refine (E_ic (v := (0 : Int32)) c_72_7 (by decide)).trans ?_
  refine (E_ic (v := (7 : Int32)) c_72_8 (by decide)).trans ?_
  refine (E_cIV c_72_10 mi_51 rfl rfl (sO_kl sh_5) (Nat.le_of_ble_eq_true rfl) (Nat.le_of_ble_eq_true rfl)).trans (ax_bnd fun u1 => ?_)
  refine (E_is (L' := [.ref 61, .ref 5, .ref 8, .int u1.1, .null, .null]) c_72_13 (Nat.le_of_ble_eq_true rfl) rfl).trans ?_
  refine (E_al c_72_14 rfl (by decide)).trans ?_
  refine (E_gfi (k := 3) c_72_15 sh_61 rfl rfl rfl (by decide)).trans ?_
  refine (E_il c_72_18 rfl).trans ?_
  refine (E_ishr c_72_19).trans ?_
  refine (E_ic (v := (1 : Int32)) c_72_20 (by decide)).trans ?_
  refine (E_iand c_72_21).trans ?_
  refine (E_b0_eq (q := 30) c_72_22 rfl).trans (ax_ite ?_ ?_)
  · refine (E_al c_72_30 rfl (by decide)).trans ?_
    refine (E_ic (v := (0 : Int32)) c_72_31 (by decide)).trans ?_
    refine (E_ic (v := (7 : Int32)) c_72_32 (by decide)).trans ?_
    refine (E_cIV c_72_34 mi_50 rfl rfl (sO_kl sh_5) (Nat.le_of_ble_eq_true rfl) (Nat.le_of_ble_eq_true rfl)).trans (ax_bnd fun u2 => ?_)
    refine (E_pop c_72_37 rfl).trans ?_
    refine (E_al c_72_38 rfl (by decide)).trans ?_
    refine (E_ic (v := (1 : Int32)) c_72_39 (by decide)).trans ?_
    refine (E_ic (v := (99 : Int32)) c_72_40 (by decide)).trans ?_
    refine (E_cIV c_72_42 mi_73 rfl rfl (sO_kl sh_5) (Nat.le_of_ble_eq_true rfl) (Nat.le_of_ble_eq_true rfl)).trans (ax_bnd fun u3 => ?_)
    refine (E_is (L' := [.ref 61, .ref 5, .ref 8, .int u1.1, .int u3.1, .null]) c_72_45 (Nat.le_of_ble_eq_true rfl) rfl).trans ?_
    refine (E_al c_72_47 rfl (by decide)).trans ?_
    refine (E_ic (v := (0 : Int32)) c_72_48 (by decide)).trans ?_
    refine (E_ic (v := (3 : Int32)) c_72_49 (by decide)).trans ?_
    refine (E_cIV c_72_50 mi_50 rfl rfl (sO_kl sh_5) (Nat.le_of_ble_eq_true rfl) (Nat.le_of_ble_eq_true rfl)).trans (ax_bnd fun u4 => ?_)
    refine (E_is (L' := [.ref 61, .ref 5, .ref 8, .int u1.1, .int u3.1, .int u4.1]) c_72_53 (Nat.le_of_ble_eq_true rfl) rfl).trans ?_
    refine (E_al c_72_55 rfl (by decide)).trans ?_
    refine (E_cVV c_72_56 mi_53 rfl (sO_kl sh_5) (Nat.le_of_ble_eq_true rfl) (Nat.le_of_ble_eq_true rfl)).trans (ax_bnd fun u5 => ?_)
    refine (E_al c_72_59 rfl (by decide)).trans ?_
    refine (E_dup c_72_60 rfl).trans ?_
    refine (E_gfi (k := 3) c_72_61 sh_61 rfl rfl rfl (by decide)).trans ?_
    refine (E_ic (v := (1 : Int32)) c_72_64 (by decide)).trans ?_
    refine (E_il c_72_65 rfl).trans ?_
    refine (E_ishl c_72_66).trans ?_
    refine (E_ior c_72_67).trans ?_
    refine (E_pfi (k := 3) c_72_68 sh_61 rfl rfl rfl).trans ?_
    refine (E_il c_72_71 rfl).trans ?_
    refine (E_cIS c_72_72 mi_74 rfl rfl (Nat.le_of_ble_eq_true rfl) (Nat.le_of_ble_eq_true rfl)).trans (ax_bnd fun u6 => ?_)
    refine (E_b0_eq (q := 113) c_72_75 rfl).trans (ax_ite ?_ ?_)
    · exact E_rV c_72_113 mi_72
    · refine (E_al c_72_78 rfl (by decide)).trans ?_
      refine (E_gfr (k := 2) (r := 62) c_72_79 sh_61 rfl rfl rfl).trans ?_
      refine (E_il c_72_82 rfl).trans ?_
      refine (E_il c_72_83 rfl).trans ?_
      refine (E_ic (v := (-1000000 : Int32)) c_72_85 (by decide)).trans ?_
      refine (E_br_ne (q := 95) c_72_87 rfl).trans (ax_ite ?_ ?_)
      · refine (E_ic (v := (-1000000 : Int32)) c_72_90 (by decide)).trans ?_
        refine (E_goto (q := 112) c_72_92 rfl).trans ?_
        refine (E_ias (v := (-1000000 : Int32)) c_72_112 sh_62 rfl).trans (ax_gd ?_)
        exact E_rV c_72_113 mi_72
      · refine (E_il c_72_95 rfl).trans ?_
        refine (E_al c_72_97 rfl (by decide)).trans ?_
        refine (E_il c_72_98 rfl).trans ?_
        refine (E_al c_72_100 rfl (by decide)).trans ?_
        refine (E_gfi (k := 0) c_72_101 sh_61 rfl rfl rfl (by decide)).trans ?_
        refine (E_al c_72_104 rfl (by decide)).trans ?_
        refine (E_gfi (k := 1) c_72_105 sh_61 rfl rfl rfl (by decide)).trans ?_
        refine (E_cIV c_72_108 mi_75 rfl rfl (sO_kl sh_8) (Nat.le_of_ble_eq_true rfl) (Nat.le_of_ble_eq_true rfl)).trans (ax_bnd fun u7 => ?_)
        refine (E_imul c_72_111).trans ?_
        refine (E_ias (v := (u3.1 * u7.1)) c_72_112 sh_62 rfl).trans (ax_gd ?_)
        exact E_rV c_72_113 mi_72
  · refine (E_al c_72_25 rfl (by decide)).trans ?_
    refine (E_ic (v := (4 : Int32)) c_72_26 (by decide)).trans ?_
    refine (E_cVV c_72_27 mi_47 rfl (sO_kl sh_5) (Nat.le_of_ble_eq_true rfl) (Nat.le_of_ble_eq_true rfl)).trans (ax_bnd fun u8 => ?_)
    refine (E_al c_72_30 rfl (by decide)).trans ?_
    refine (E_ic (v := (0 : Int32)) c_72_31 (by decide)).trans ?_
    refine (E_ic (v := (7 : Int32)) c_72_32 (by decide)).trans ?_
    refine (E_cIV c_72_34 mi_50 rfl rfl (sO_kl sh_5) (Nat.le_of_ble_eq_true rfl) (Nat.le_of_ble_eq_true rfl)).trans (ax_bnd fun u9 => ?_)
    refine (E_pop c_72_37 rfl).trans ?_
    refine (E_al c_72_38 rfl (by decide)).trans ?_
    refine (E_ic (v := (1 : Int32)) c_72_39 (by decide)).trans ?_
    refine (E_ic (v := (99 : Int32)) c_72_40 (by decide)).trans ?_
    refine (E_cIV c_72_42 mi_73 rfl rfl (sO_kl sh_5) (Nat.le_of_ble_eq_true rfl) (Nat.le_of_ble_eq_true rfl)).trans (ax_bnd fun u10 => ?_)
    refine (E_is (L' := [.ref 61, .ref 5, .ref 8, .int u1.1, .int u10.1, .null]) c_72_45 (Nat.le_of_ble_eq_true rfl) rfl).trans ?_
    refine (E_al c_72_47 rfl (by decide)).trans ?_
    refine (E_ic (v := (0 : Int32)) c_72_48 (by decide)).trans ?_
    refine (E_ic (v := (3 : Int32)) c_72_49 (by decide)).trans ?_
    refine (E_cIV c_72_50 mi_50 rfl rfl (sO_kl sh_5) (Nat.le_of_ble_eq_true rfl) (Nat.le_of_ble_eq_true rfl)).trans (ax_bnd fun u11 => ?_)
    refine (E_is (L' := [.ref 61, .ref 5, .ref 8, .int u1.1, .int u10.1, .int u11.1]) c_72_53 (Nat.le_of_ble_eq_true rfl) rfl).trans ?_
    refine (E_al c_72_55 rfl (by decide)).trans ?_
    refine (E_cVV c_72_56 mi_53 rfl (sO_kl sh_5) (Nat.le_of_ble_eq_true rfl) (Nat.le_of_ble_eq_true rfl)).trans (ax_bnd fun u12 => ?_)
    refine (E_al c_72_59 rfl (by decide)).trans ?_
    refine (E_dup c_72_60 rfl).trans ?_
    refine (E_gfi (k := 3) c_72_61 sh_61 rfl rfl rfl (by decide)).trans ?_
    refine (E_ic (v := (1 : Int32)) c_72_64 (by decide)).trans ?_
    refine (E_il c_72_65 rfl).trans ?_
    refine (E_ishl c_72_66).trans ?_
    refine (E_ior c_72_67).trans ?_
    refine (E_pfi (k := 3) c_72_68 sh_61 rfl rfl rfl).trans ?_
    refine (E_il c_72_71 rfl).trans ?_
    refine (E_cIS c_72_72 mi_74 rfl rfl (Nat.le_of_ble_eq_true rfl) (Nat.le_of_ble_eq_true rfl)).trans (ax_bnd fun u13 => ?_)
    refine (E_b0_eq (q := 113) c_72_75 rfl).trans (ax_ite ?_ ?_)
    · exact E_rV c_72_113 mi_72
    · refine (E_al c_72_78 rfl (by decide)).trans ?_
      refine (E_gfr (k := 2) (r := 62) c_72_79 sh_61 rfl rfl rfl).trans ?_
      refine (E_il c_72_82 rfl).trans ?_
      refine (E_il c_72_83 rfl).trans ?_
      refine (E_ic (v := (-1000000 : Int32)) c_72_85 (by decide)).trans ?_
      refine (E_br_ne (q := 95) c_72_87 rfl).trans (ax_ite ?_ ?_)
      · refine (E_ic (v := (-1000000 : Int32)) c_72_90 (by decide)).trans ?_
        refine (E_goto (q := 112) c_72_92 rfl).trans ?_
        refine (E_ias (v := (-1000000 : Int32)) c_72_112 sh_62 rfl).trans (ax_gd ?_)
        exact E_rV c_72_113 mi_72
      · refine (E_il c_72_95 rfl).trans ?_
        refine (E_al c_72_97 rfl (by decide)).trans ?_
        refine (E_il c_72_98 rfl).trans ?_
        refine (E_al c_72_100 rfl (by decide)).trans ?_
        refine (E_gfi (k := 0) c_72_101 sh_61 rfl rfl rfl (by decide)).trans ?_
        refine (E_al c_72_104 rfl (by decide)).trans ?_
        refine (E_gfi (k := 1) c_72_105 sh_61 rfl rfl rfl (by decide)).trans ?_
        refine (E_cIV c_72_108 mi_75 rfl rfl (sO_kl sh_8) (Nat.le_of_ble_eq_true rfl) (Nat.le_of_ble_eq_true rfl)).trans (ax_bnd fun u14 => ?_)
        refine (E_imul c_72_111).trans ?_
        refine (E_ias (v := (u10.1 * u14.1)) c_72_112 sh_62 rfl).trans (ax_gd ?_)
        exact E_rV c_72_113 mi_72
set_option maxHeartbeats 4000000 in
theorem u_138_67 (d : Nat) (σ : ax_S) (x1 : Int32) (x2 : Int32) : ev sO d 138 0 [.ref 67, .int x1, .int x2, .null, .null, .null, .null] [] σ = gd (0 ≤ x1.toInt ∧ x1.toInt < (11 : Nat)) (ev sO d 138 13 [.ref 67, .int x1, .int x2, .int (x1 * (6 : Int32)), .int (σ.1 70 x1.toNatClampNeg), .null, .null] [] σ) := by
  refine (E_il c_138_0 rfl).trans ?_
  refine (E_ic (v := (6 : Int32)) c_138_1 (by decide)).trans ?_
  refine (E_imul c_138_3).trans ?_
  refine (E_is (L' := [.ref 67, .int x1, .int x2, .int (x1 * (6 : Int32)), .null, .null, .null]) c_138_4 (Nat.le_of_ble_eq_true rfl) rfl).trans ?_
  refine (E_al c_138_5 rfl (by decide)).trans ?_
  refine (E_gfr (k := 3) (r := 70) c_138_6 sh_67 rfl rfl rfl).trans ?_
  refine (E_il c_138_9 rfl).trans ?_
  refine (E_ial c_138_10 sh_70).trans (ax_gd ?_)
  refine (E_is (L' := [.ref 67, .int x1, .int x2, .int (x1 * (6 : Int32)), .int (σ.1 70 x1.toNatClampNeg), .null, .null]) c_138_11 (Nat.le_of_ble_eq_true rfl) rfl).trans ?_
  rfl
set_option maxHeartbeats 4000000 in
theorem u_138_67p13 (d : Nat) (σ : ax_S) (x1 : Int32) (x2 : Int32) (x3 : Int32) (x4 : Int32) (w5 : Value) (hw5 : w5.category = 1) (w6 : Value) (hw6 : w6.category = 1) : ev sO d 138 13 [.ref 67, .int x1, .int x2, .int x3, .int x4, w5, w6] [] σ = if 0 < x4 then (gd (0 ≤ ((x3 + x4) - (1 : Int32)).toInt ∧ ((x3 + x4) - (1 : Int32)).toInt < (66 : Nat)) (if x2 < (σ.1 69 ((x3 + x4) - (1 : Int32)).toNatClampNeg) then (ev sO d 138 13 [.ref 67, .int x1, .int x2, .int x3, .int (x4 + (-1 : Int32)), w5, w6] [] σ) else (if 0 < x4 then (gd (0 ≤ ((x3 + x4) - (1 : Int32)).toInt ∧ ((x3 + x4) - (1 : Int32)).toInt < (66 : Nat)) (if (σ.1 69 ((x3 + x4) - (1 : Int32)).toNatClampNeg) = x2 then (if x2 = (-1000000 : Int32) then (some (none, σ)) else (some (none, σ))) else (if x2 = (-1000000 : Int32) then (some (none, σ)) else (gd (0 ≤ x1.toInt ∧ x1.toInt < (11 : Nat)) (if (σ.1 70 x1.toNatClampNeg) < (6 : Int32) then (gd (0 ≤ x1.toInt ∧ x1.toInt < (11 : Nat)) (ev sO d 138 97 [.ref 67, .int x1, .int x2, .int x3, .int x4, .int (0 : Int32), .int (σ.1 70 x1.toNatClampNeg)] [] σ)) else (some (none, σ))))))) else (if x2 = (-1000000 : Int32) then (some (none, σ)) else (gd (0 ≤ x1.toInt ∧ x1.toInt < (11 : Nat)) (if (σ.1 70 x1.toNatClampNeg) < (6 : Int32) then (gd (0 ≤ x1.toInt ∧ x1.toInt < (11 : Nat)) (ev sO d 138 97 [.ref 67, .int x1, .int x2, .int x3, .int x4, .int (0 : Int32), .int (σ.1 70 x1.toNatClampNeg)] [] σ)) else (some (none, σ)))))))) else (if 0 < x4 then (gd (0 ≤ ((x3 + x4) - (1 : Int32)).toInt ∧ ((x3 + x4) - (1 : Int32)).toInt < (66 : Nat)) (if (σ.1 69 ((x3 + x4) - (1 : Int32)).toNatClampNeg) = x2 then (if x2 = (-1000000 : Int32) then (some (none, σ)) else (some (none, σ))) else (if x2 = (-1000000 : Int32) then (some (none, σ)) else (gd (0 ≤ x1.toInt ∧ x1.toInt < (11 : Nat)) (if (σ.1 70 x1.toNatClampNeg) < (6 : Int32) then (gd (0 ≤ x1.toInt ∧ x1.toInt < (11 : Nat)) (ev sO d 138 97 [.ref 67, .int x1, .int x2, .int x3, .int x4, .int (0 : Int32), .int (σ.1 70 x1.toNatClampNeg)] [] σ)) else (some (none, σ))))))) else (if x2 = (-1000000 : Int32) then (some (none, σ)) else (gd (0 ≤ x1.toInt ∧ x1.toInt < (11 : Nat)) (if (σ.1 70 x1.toNatClampNeg) < (6 : Int32) then (gd (0 ≤ x1.toInt ∧ x1.toInt < (11 : Nat)) (ev sO d 138 97 [.ref 67, .int x1, .int x2, .int x3, .int x4, .int (0 : Int32), .int (σ.1 70 x1.toNatClampNeg)] [] σ)) else (some (none, σ)))))) := by
  refine (E_il c_138_13 rfl).trans ?_
  refine (E_b0_le (q := 39) c_138_15 rfl).trans (ax_ite ?_ ?_)
  · refine (E_al c_138_18 rfl (by decide)).trans ?_
    refine (E_gfr (k := 2) (r := 69) c_138_19 sh_67 rfl rfl rfl).trans ?_
    refine (E_il c_138_22 rfl).trans ?_
    refine (E_il c_138_23 rfl).trans ?_
    refine (E_iadd c_138_25).trans ?_
    refine (E_ic (v := (1 : Int32)) c_138_26 (by decide)).trans ?_
    refine (E_isub c_138_27).trans ?_
    refine (E_ial c_138_28 sh_69).trans (ax_gd ?_)
    refine (E_il c_138_29 rfl).trans ?_
    refine (E_br_le (q := 39) c_138_30 rfl).trans (ax_ite ?_ ?_)
    · refine (E_inc (v := (-1 : Int32)) (L' := [.ref 67, .int x1, .int x2, .int x3, .int (x4 + (-1 : Int32)), w5, w6]) c_138_33 rfl (by decide) rfl).trans ?_
      refine (E_goto (q := 13) c_138_36 rfl).trans ?_
      rfl
    · refine (E_il c_138_39 rfl).trans ?_
      refine (E_b0_le (q := 63) c_138_41 rfl).trans (ax_ite ?_ ?_)
      · refine (E_al c_138_44 rfl (by decide)).trans ?_
        refine (E_gfr (k := 2) (r := 69) c_138_45 sh_67 rfl rfl rfl).trans ?_
        refine (E_il c_138_48 rfl).trans ?_
        refine (E_il c_138_49 rfl).trans ?_
        refine (E_iadd c_138_51).trans ?_
        refine (E_ic (v := (1 : Int32)) c_138_52 (by decide)).trans ?_
        refine (E_isub c_138_53).trans ?_
        refine (E_ial c_138_54 sh_69).trans (ax_gd ?_)
        refine (E_il c_138_55 rfl).trans ?_
        refine (E_br_ne (q := 63) c_138_56 rfl).trans (ax_ite ?_ ?_)
        · refine (E_ic (v := (1 : Int32)) c_138_59 (by decide)).trans ?_
          refine (E_goto (q := 64) c_138_60 rfl).trans ?_
          refine (E_is (L' := [.ref 67, .int x1, .int x2, .int x3, .int x4, .int (1 : Int32), w6]) c_138_64 (Nat.le_of_ble_eq_true rfl) rfl).trans ?_
          refine (E_il c_138_66 rfl).trans ?_
          refine (E_ic (v := (-1000000 : Int32)) c_138_67 (by decide)).trans ?_
          refine (E_br_eq (q := 88) c_138_69 rfl).trans (ax_ite ?_ ?_)
          · exact E_rV c_138_88 mi_138
          · refine (E_il c_138_72 rfl).trans ?_
            refine (E_b0_ne (q := 88) c_138_74 rfl).trans ?_
            refine (if_neg (by decide)).trans ?_
            exact E_rV c_138_88 mi_138
        · refine (E_ic (v := (0 : Int32)) c_138_63 (by decide)).trans ?_
          refine (E_is (L' := [.ref 67, .int x1, .int x2, .int x3, .int x4, .int (0 : Int32), w6]) c_138_64 (Nat.le_of_ble_eq_true rfl) rfl).trans ?_
          refine (E_il c_138_66 rfl).trans ?_
          refine (E_ic (v := (-1000000 : Int32)) c_138_67 (by decide)).trans ?_
          refine (E_br_eq (q := 88) c_138_69 rfl).trans (ax_ite ?_ ?_)
          · exact E_rV c_138_88 mi_138
          · refine (E_il c_138_72 rfl).trans ?_
            refine (E_b0_ne (q := 88) c_138_74 rfl).trans ?_
            refine (if_pos (by decide)).trans ?_
            refine (E_al c_138_77 rfl (by decide)).trans ?_
            refine (E_gfr (k := 3) (r := 70) c_138_78 sh_67 rfl rfl rfl).trans ?_
            refine (E_il c_138_81 rfl).trans ?_
            refine (E_ial c_138_82 sh_70).trans (ax_gd ?_)
            refine (E_ic (v := (6 : Int32)) c_138_83 (by decide)).trans ?_
            refine (E_br_lt (q := 89) c_138_85 rfl).trans (ax_ite ?_ ?_)
            · refine (E_al c_138_89 rfl (by decide)).trans ?_
              refine (E_gfr (k := 3) (r := 70) c_138_90 sh_67 rfl rfl rfl).trans ?_
              refine (E_il c_138_93 rfl).trans ?_
              refine (E_ial c_138_94 sh_70).trans (ax_gd ?_)
              refine (E_is (L' := [.ref 67, .int x1, .int x2, .int x3, .int x4, .int (0 : Int32), .int (σ.1 70 x1.toNatClampNeg)]) c_138_95 (Nat.le_of_ble_eq_true rfl) rfl).trans ?_
              rfl
            · exact E_rV c_138_88 mi_138
      · refine (E_ic (v := (0 : Int32)) c_138_63 (by decide)).trans ?_
        refine (E_is (L' := [.ref 67, .int x1, .int x2, .int x3, .int x4, .int (0 : Int32), w6]) c_138_64 (Nat.le_of_ble_eq_true rfl) rfl).trans ?_
        refine (E_il c_138_66 rfl).trans ?_
        refine (E_ic (v := (-1000000 : Int32)) c_138_67 (by decide)).trans ?_
        refine (E_br_eq (q := 88) c_138_69 rfl).trans (ax_ite ?_ ?_)
        · exact E_rV c_138_88 mi_138
        · refine (E_il c_138_72 rfl).trans ?_
          refine (E_b0_ne (q := 88) c_138_74 rfl).trans ?_
          refine (if_pos (by decide)).trans ?_
          refine (E_al c_138_77 rfl (by decide)).trans ?_
          refine (E_gfr (k := 3) (r := 70) c_138_78 sh_67 rfl rfl rfl).trans ?_
          refine (E_il c_138_81 rfl).trans ?_
          refine (E_ial c_138_82 sh_70).trans (ax_gd ?_)
          refine (E_ic (v := (6 : Int32)) c_138_83 (by decide)).trans ?_
          refine (E_br_lt (q := 89) c_138_85 rfl).trans (ax_ite ?_ ?_)
          · refine (E_al c_138_89 rfl (by decide)).trans ?_
            refine (E_gfr (k := 3) (r := 70) c_138_90 sh_67 rfl rfl rfl).trans ?_
            refine (E_il c_138_93 rfl).trans ?_
            refine (E_ial c_138_94 sh_70).trans (ax_gd ?_)
            refine (E_is (L' := [.ref 67, .int x1, .int x2, .int x3, .int x4, .int (0 : Int32), .int (σ.1 70 x1.toNatClampNeg)]) c_138_95 (Nat.le_of_ble_eq_true rfl) rfl).trans ?_
            rfl
          · exact E_rV c_138_88 mi_138
  · refine (E_il c_138_39 rfl).trans ?_
    refine (E_b0_le (q := 63) c_138_41 rfl).trans (ax_ite ?_ ?_)
    · refine (E_al c_138_44 rfl (by decide)).trans ?_
      refine (E_gfr (k := 2) (r := 69) c_138_45 sh_67 rfl rfl rfl).trans ?_
      refine (E_il c_138_48 rfl).trans ?_
      refine (E_il c_138_49 rfl).trans ?_
      refine (E_iadd c_138_51).trans ?_
      refine (E_ic (v := (1 : Int32)) c_138_52 (by decide)).trans ?_
      refine (E_isub c_138_53).trans ?_
      refine (E_ial c_138_54 sh_69).trans (ax_gd ?_)
      refine (E_il c_138_55 rfl).trans ?_
      refine (E_br_ne (q := 63) c_138_56 rfl).trans (ax_ite ?_ ?_)
      · refine (E_ic (v := (1 : Int32)) c_138_59 (by decide)).trans ?_
        refine (E_goto (q := 64) c_138_60 rfl).trans ?_
        refine (E_is (L' := [.ref 67, .int x1, .int x2, .int x3, .int x4, .int (1 : Int32), w6]) c_138_64 (Nat.le_of_ble_eq_true rfl) rfl).trans ?_
        refine (E_il c_138_66 rfl).trans ?_
        refine (E_ic (v := (-1000000 : Int32)) c_138_67 (by decide)).trans ?_
        refine (E_br_eq (q := 88) c_138_69 rfl).trans (ax_ite ?_ ?_)
        · exact E_rV c_138_88 mi_138
        · refine (E_il c_138_72 rfl).trans ?_
          refine (E_b0_ne (q := 88) c_138_74 rfl).trans ?_
          refine (if_neg (by decide)).trans ?_
          exact E_rV c_138_88 mi_138
      · refine (E_ic (v := (0 : Int32)) c_138_63 (by decide)).trans ?_
        refine (E_is (L' := [.ref 67, .int x1, .int x2, .int x3, .int x4, .int (0 : Int32), w6]) c_138_64 (Nat.le_of_ble_eq_true rfl) rfl).trans ?_
        refine (E_il c_138_66 rfl).trans ?_
        refine (E_ic (v := (-1000000 : Int32)) c_138_67 (by decide)).trans ?_
        refine (E_br_eq (q := 88) c_138_69 rfl).trans (ax_ite ?_ ?_)
        · exact E_rV c_138_88 mi_138
        · refine (E_il c_138_72 rfl).trans ?_
          refine (E_b0_ne (q := 88) c_138_74 rfl).trans ?_
          refine (if_pos (by decide)).trans ?_
          refine (E_al c_138_77 rfl (by decide)).trans ?_
          refine (E_gfr (k := 3) (r := 70) c_138_78 sh_67 rfl rfl rfl).trans ?_
          refine (E_il c_138_81 rfl).trans ?_
          refine (E_ial c_138_82 sh_70).trans (ax_gd ?_)
          refine (E_ic (v := (6 : Int32)) c_138_83 (by decide)).trans ?_
          refine (E_br_lt (q := 89) c_138_85 rfl).trans (ax_ite ?_ ?_)
          · refine (E_al c_138_89 rfl (by decide)).trans ?_
            refine (E_gfr (k := 3) (r := 70) c_138_90 sh_67 rfl rfl rfl).trans ?_
            refine (E_il c_138_93 rfl).trans ?_
            refine (E_ial c_138_94 sh_70).trans (ax_gd ?_)
            refine (E_is (L' := [.ref 67, .int x1, .int x2, .int x3, .int x4, .int (0 : Int32), .int (σ.1 70 x1.toNatClampNeg)]) c_138_95 (Nat.le_of_ble_eq_true rfl) rfl).trans ?_
            rfl
          · exact E_rV c_138_88 mi_138
    · refine (E_ic (v := (0 : Int32)) c_138_63 (by decide)).trans ?_
      refine (E_is (L' := [.ref 67, .int x1, .int x2, .int x3, .int x4, .int (0 : Int32), w6]) c_138_64 (Nat.le_of_ble_eq_true rfl) rfl).trans ?_
      refine (E_il c_138_66 rfl).trans ?_
      refine (E_ic (v := (-1000000 : Int32)) c_138_67 (by decide)).trans ?_
      refine (E_br_eq (q := 88) c_138_69 rfl).trans (ax_ite ?_ ?_)
      · exact E_rV c_138_88 mi_138
      · refine (E_il c_138_72 rfl).trans ?_
        refine (E_b0_ne (q := 88) c_138_74 rfl).trans ?_
        refine (if_pos (by decide)).trans ?_
        refine (E_al c_138_77 rfl (by decide)).trans ?_
        refine (E_gfr (k := 3) (r := 70) c_138_78 sh_67 rfl rfl rfl).trans ?_
        refine (E_il c_138_81 rfl).trans ?_
        refine (E_ial c_138_82 sh_70).trans (ax_gd ?_)
        refine (E_ic (v := (6 : Int32)) c_138_83 (by decide)).trans ?_
        refine (E_br_lt (q := 89) c_138_85 rfl).trans (ax_ite ?_ ?_)
        · refine (E_al c_138_89 rfl (by decide)).trans ?_
          refine (E_gfr (k := 3) (r := 70) c_138_90 sh_67 rfl rfl rfl).trans ?_
          refine (E_il c_138_93 rfl).trans ?_
          refine (E_ial c_138_94 sh_70).trans (ax_gd ?_)
          refine (E_is (L' := [.ref 67, .int x1, .int x2, .int x3, .int x4, .int (0 : Int32), .int (σ.1 70 x1.toNatClampNeg)]) c_138_95 (Nat.le_of_ble_eq_true rfl) rfl).trans ?_
          rfl
        · exact E_rV c_138_88 mi_138
set_option maxHeartbeats 4000000 in
theorem u_138_67p97 (d : Nat) (σ : ax_S) (x1 : Int32) (x2 : Int32) (x3 : Int32) (x4 : Int32) (w5 : Value) (hw5 : w5.category = 1) (x6 : Int32) : ev sO d 138 97 [.ref 67, .int x1, .int x2, .int x3, .int x4, w5, .int x6] [] σ = if x4 < x6 then (gd (0 ≤ ((x3 + x6) - (1 : Int32)).toInt ∧ ((x3 + x6) - (1 : Int32)).toInt < (66 : Nat)) (gd (0 ≤ (x3 + x6).toInt ∧ (x3 + x6).toInt < (66 : Nat)) (ev sO d 138 97 [.ref 67, .int x1, .int x2, .int x3, .int x4, w5, .int (x6 + (-1 : Int32))] [] (sI σ 69 (x3 + x6).toNatClampNeg (σ.1 69 ((x3 + x6) - (1 : Int32)).toNatClampNeg))))) else (gd (0 ≤ (x3 + x4).toInt ∧ (x3 + x4).toInt < (66 : Nat)) (gd (0 ≤ x1.toInt ∧ x1.toInt < (11 : Nat)) (gd (0 ≤ x1.toInt ∧ x1.toInt < (11 : Nat)) (some (none, (sI (sI σ 69 (x3 + x4).toNatClampNeg x2) 70 x1.toNatClampNeg (((sI σ 69 (x3 + x4).toNatClampNeg x2).1 70 x1.toNatClampNeg) + (1 : Int32)))))))) := by
  refine (E_il c_138_97 rfl).trans ?_
  refine (E_il c_138_99 rfl).trans ?_
  refine (E_br_le (q := 130) c_138_101 rfl).trans (ax_ite ?_ ?_)
  · refine (E_al c_138_104 rfl (by decide)).trans ?_
    refine (E_gfr (k := 2) (r := 69) c_138_105 sh_67 rfl rfl rfl).trans ?_
    refine (E_il c_138_108 rfl).trans ?_
    refine (E_il c_138_109 rfl).trans ?_
    refine (E_iadd c_138_111).trans ?_
    refine (E_al c_138_112 rfl (by decide)).trans ?_
    refine (E_gfr (k := 2) (r := 69) c_138_113 sh_67 rfl rfl rfl).trans ?_
    refine (E_il c_138_116 rfl).trans ?_
    refine (E_il c_138_117 rfl).trans ?_
    refine (E_iadd c_138_119).trans ?_
    refine (E_ic (v := (1 : Int32)) c_138_120 (by decide)).trans ?_
    refine (E_isub c_138_121).trans ?_
    refine (E_ial c_138_122 sh_69).trans (ax_gd ?_)
    refine (E_ias (v := (σ.1 69 ((x3 + x6) - (1 : Int32)).toNatClampNeg)) c_138_123 sh_69 rfl).trans (ax_gd ?_)
    refine (E_inc (v := (-1 : Int32)) (L' := [.ref 67, .int x1, .int x2, .int x3, .int x4, w5, .int (x6 + (-1 : Int32))]) c_138_124 rfl (by decide) (by simp [ax_st1, ax_drp, hw5])).trans ?_
    refine (E_goto (q := 97) c_138_127 rfl).trans ?_
    rfl
  · refine (E_al c_138_130 rfl (by decide)).trans ?_
    refine (E_gfr (k := 2) (r := 69) c_138_131 sh_67 rfl rfl rfl).trans ?_
    refine (E_il c_138_134 rfl).trans ?_
    refine (E_il c_138_135 rfl).trans ?_
    refine (E_iadd c_138_137).trans ?_
    refine (E_il c_138_138 rfl).trans ?_
    refine (E_ias (v := x2) c_138_139 sh_69 rfl).trans (ax_gd ?_)
    refine (E_al c_138_140 rfl (by decide)).trans ?_
    refine (E_gfr (k := 3) (r := 70) c_138_141 sh_67 rfl rfl rfl).trans ?_
    refine (E_il c_138_144 rfl).trans ?_
    refine (E_dup2 c_138_145 ⟨rfl, rfl⟩).trans ?_
    refine (E_ial c_138_146 sh_70).trans (ax_gd ?_)
    refine (E_ic (v := (1 : Int32)) c_138_147 (by decide)).trans ?_
    refine (E_iadd c_138_148).trans ?_
    refine (E_ias (v := (((sI σ 69 (x3 + x4).toNatClampNeg x2).1 70 x1.toNatClampNeg) + (1 : Int32))) c_138_149 sh_70 rfl).trans (ax_gd ?_)
    exact E_rV c_138_150 mi_138
set_option maxHeartbeats 4000000 in
theorem u_139_67 (d : Nat) (σ : ax_S) (x1 : Int32) (x2 : Int32) : ev sO d 139 0 [.ref 67, .int x1, .int x2, .null, .null] [] σ = ev sO d 139 5 [.ref 67, .int x1, .int x2, .int (0 : Int32), .int (0 : Int32)] [] σ := by
  refine (E_ic (v := (0 : Int32)) c_139_0 (by decide)).trans ?_
  refine (E_is (L' := [.ref 67, .int x1, .int x2, .int (0 : Int32), .null]) c_139_1 (Nat.le_of_ble_eq_true rfl) rfl).trans ?_
  refine (E_ic (v := (0 : Int32)) c_139_2 (by decide)).trans ?_
  refine (E_is (L' := [.ref 67, .int x1, .int x2, .int (0 : Int32), .int (0 : Int32)]) c_139_3 (Nat.le_of_ble_eq_true rfl) rfl).trans ?_
  rfl
set_option maxHeartbeats 4000000 in
theorem u_139_67p5 (d : Nat) (σ : ax_S) (x1 : Int32) (x2 : Int32) (x3 : Int32) (x4 : Int32) : ev sO d 139 5 [.ref 67, .int x1, .int x2, .int x3, .int x4] [] σ = gd (0 ≤ x1.toInt ∧ x1.toInt < (11 : Nat)) (if x4 < (σ.1 70 x1.toNatClampNeg) then (if x4 < (6 : Int32) then (if x2 = (-1000000 : Int32) then (ev sO d 139 5 [.ref 67, .int x1, .int x2, .int (x3 ||| ((1 : Int32) <<< (x4 &&& 31))), .int (x4 + (1 : Int32))] [] σ) else (gd (0 ≤ ((x1 * (6 : Int32)) + x4).toInt ∧ ((x1 * (6 : Int32)) + x4).toInt < (66 : Nat)) (if x2 = (σ.1 69 ((x1 * (6 : Int32)) + x4).toNatClampNeg) then (ev sO d 139 5 [.ref 67, .int x1, .int x2, .int (x3 ||| ((1 : Int32) <<< (x4 &&& 31))), .int (x4 + (1 : Int32))] [] σ) else (ev sO d 139 5 [.ref 67, .int x1, .int x2, .int x3, .int (x4 + (1 : Int32))] [] σ)))) else (some (some (.int x3), σ))) else (some (some (.int x3), σ))) := by
  refine (E_il c_139_5 rfl).trans ?_
  refine (E_al c_139_7 rfl (by decide)).trans ?_
  refine (E_gfr (k := 3) (r := 70) c_139_8 sh_67 rfl rfl rfl).trans ?_
  refine (E_il c_139_11 rfl).trans ?_
  refine (E_ial c_139_12 sh_70).trans (ax_gd ?_)
  refine (E_br_ge (q := 58) c_139_13 rfl).trans (ax_ite ?_ ?_)
  · refine (E_il c_139_16 rfl).trans ?_
    refine (E_ic (v := (6 : Int32)) c_139_18 (by decide)).trans ?_
    refine (E_br_ge (q := 58) c_139_20 rfl).trans (ax_ite ?_ ?_)
    · refine (E_il c_139_23 rfl).trans ?_
      refine (E_ic (v := (-1000000 : Int32)) c_139_24 (by decide)).trans ?_
      refine (E_br_eq (q := 45) c_139_26 rfl).trans (ax_ite ?_ ?_)
      · refine (E_il c_139_45 rfl).trans ?_
        refine (E_ic (v := (1 : Int32)) c_139_46 (by decide)).trans ?_
        refine (E_il c_139_47 rfl).trans ?_
        refine (E_ishl c_139_49).trans ?_
        refine (E_ior c_139_50).trans ?_
        refine (E_is (L' := [.ref 67, .int x1, .int x2, .int (x3 ||| ((1 : Int32) <<< (x4 &&& 31))), .int x4]) c_139_51 (Nat.le_of_ble_eq_true rfl) rfl).trans ?_
        refine (E_inc (v := (1 : Int32)) (L' := [.ref 67, .int x1, .int x2, .int (x3 ||| ((1 : Int32) <<< (x4 &&& 31))), .int (x4 + (1 : Int32))]) c_139_52 rfl (by decide) rfl).trans ?_
        refine (E_goto (q := 5) c_139_55 rfl).trans ?_
        rfl
      · refine (E_il c_139_29 rfl).trans ?_
        refine (E_al c_139_30 rfl (by decide)).trans ?_
        refine (E_gfr (k := 2) (r := 69) c_139_31 sh_67 rfl rfl rfl).trans ?_
        refine (E_il c_139_34 rfl).trans ?_
        refine (E_ic (v := (6 : Int32)) c_139_35 (by decide)).trans ?_
        refine (E_imul c_139_37).trans ?_
        refine (E_il c_139_38 rfl).trans ?_
        refine (E_iadd c_139_40).trans ?_
        refine (E_ial c_139_41 sh_69).trans (ax_gd ?_)
        refine (E_br_ne (q := 52) c_139_42 rfl).trans (ax_ite ?_ ?_)
        · refine (E_il c_139_45 rfl).trans ?_
          refine (E_ic (v := (1 : Int32)) c_139_46 (by decide)).trans ?_
          refine (E_il c_139_47 rfl).trans ?_
          refine (E_ishl c_139_49).trans ?_
          refine (E_ior c_139_50).trans ?_
          refine (E_is (L' := [.ref 67, .int x1, .int x2, .int (x3 ||| ((1 : Int32) <<< (x4 &&& 31))), .int x4]) c_139_51 (Nat.le_of_ble_eq_true rfl) rfl).trans ?_
          refine (E_inc (v := (1 : Int32)) (L' := [.ref 67, .int x1, .int x2, .int (x3 ||| ((1 : Int32) <<< (x4 &&& 31))), .int (x4 + (1 : Int32))]) c_139_52 rfl (by decide) rfl).trans ?_
          refine (E_goto (q := 5) c_139_55 rfl).trans ?_
          rfl
        · refine (E_inc (v := (1 : Int32)) (L' := [.ref 67, .int x1, .int x2, .int x3, .int (x4 + (1 : Int32))]) c_139_52 rfl (by decide) rfl).trans ?_
          refine (E_goto (q := 5) c_139_55 rfl).trans ?_
          rfl
    · refine (E_il c_139_58 rfl).trans ?_
      exact E_rI c_139_59 mi_139
  · refine (E_il c_139_58 rfl).trans ?_
    exact E_rI c_139_59 mi_139
