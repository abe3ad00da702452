set_option maxHeartbeats 4000000 in
theorem u_181 (d : Nat) (σ : ax_S) (x0 : Int32) (x1 : Int32) : ev sO d 181 0 [.int x0, .int x1] [] σ = if x1 = (0 : Int32) then (some (some (.int (1 : Int32)), σ)) else (if x1 = (1 : Int32) then (if x0 = (1 : Int32) then (some (some (.int (1 : Int32)), σ)) else (if x0 = (3 : Int32) then (some (some (.int (1 : Int32)), σ)) else (if x0 = (4 : Int32) then (some (some (.int (1 : Int32)), σ)) else (some (some (.int (0 : Int32)), σ))))) else (if x1 = (2 : Int32) then (if x0 = (2 : Int32) then (some (some (.int (1 : Int32)), σ)) else (if x0 = (5 : Int32) then (some (some (.int (1 : Int32)), σ)) else (some (some (.int (0 : Int32)), σ)))) else (if x0 = x1 then (some (some (.int (1 : Int32)), σ)) else (some (some (.int (0 : Int32)), σ))))) := by
  refine (E_il c_181_0 rfl).trans ?_
  refine (E_sw c_181_1 [((0 : Int32), 28), ((1 : Int32), 30), ((2 : Int32), 51)] (q := 67) rfl (by decide) (by decide) (by decide)).trans ?_
  refine ev_sw1.trans (ax_ite ?_ ?_)
  · refine (E_ic (v := (1 : Int32)) c_181_28 (by decide)).trans ?_
    exact E_rZ (v := (1 : Int32)) c_181_29 mi_181 (by decide)
  · refine ev_sw1.trans (ax_ite ?_ ?_)
    · refine (E_il c_181_30 rfl).trans ?_
      refine (E_ic (v := (1 : Int32)) c_181_31 (by decide)).trans ?_
      refine (E_br_eq (q := 45) c_181_32 rfl).trans (ax_ite ?_ ?_)
      · refine (E_ic (v := (1 : Int32)) c_181_45 (by decide)).trans ?_
        refine (E_goto (q := 50) c_181_46 rfl).trans ?_
        exact E_rZ (v := (1 : Int32)) c_181_50 mi_181 (by decide)
      · refine (E_il c_181_35 rfl).trans ?_
        refine (E_ic (v := (3 : Int32)) c_181_36 (by decide)).trans ?_
        refine (E_br_eq (q := 45) c_181_37 rfl).trans (ax_ite ?_ ?_)
        · refine (E_ic (v := (1 : Int32)) c_181_45 (by decide)).trans ?_
          refine (E_goto (q := 50) c_181_46 rfl).trans ?_
          exact E_rZ (v := (1 : Int32)) c_181_50 mi_181 (by decide)
        · refine (E_il c_181_40 rfl).trans ?_
          refine (E_ic (v := (4 : Int32)) c_181_41 (by decide)).trans ?_
          refine (E_br_ne (q := 49) c_181_42 rfl).trans (ax_ite ?_ ?_)
          · refine (E_ic (v := (1 : Int32)) c_181_45 (by decide)).trans ?_
            refine (E_goto (q := 50) c_181_46 rfl).trans ?_
            exact E_rZ (v := (1 : Int32)) c_181_50 mi_181 (by decide)
          · refine (E_ic (v := (0 : Int32)) c_181_49 (by decide)).trans ?_
            exact E_rZ (v := (0 : Int32)) c_181_50 mi_181 (by decide)
    · refine ev_sw1.trans (ax_ite ?_ ?_)
      · refine (E_il c_181_51 rfl).trans ?_
        refine (E_ic (v := (2 : Int32)) c_181_52 (by decide)).trans ?_
        refine (E_br_eq (q := 61) c_181_53 rfl).trans (ax_ite ?_ ?_)
        · refine (E_ic (v := (1 : Int32)) c_181_61 (by decide)).trans ?_
          refine (E_goto (q := 66) c_181_62 rfl).trans ?_
          exact E_rZ (v := (1 : Int32)) c_181_66 mi_181 (by decide)
        · refine (E_il c_181_56 rfl).trans ?_
          refine (E_ic (v := (5 : Int32)) c_181_57 (by decide)).trans ?_
          refine (E_br_ne (q := 65) c_181_58 rfl).trans (ax_ite ?_ ?_)
          · refine (E_ic (v := (1 : Int32)) c_181_61 (by decide)).trans ?_
            refine (E_goto (q := 66) c_181_62 rfl).trans ?_
            exact E_rZ (v := (1 : Int32)) c_181_66 mi_181 (by decide)
          · refine (E_ic (v := (0 : Int32)) c_181_65 (by decide)).trans ?_
            exact E_rZ (v := (0 : Int32)) c_181_66 mi_181 (by decide)
      · refine ev_sw0.trans ?_
        refine (E_il c_181_67 rfl).trans ?_
        refine (E_il c_181_68 rfl).trans ?_
        refine (E_br_ne (q := 76) c_181_69 rfl).trans (ax_ite ?_ ?_)
        · refine (E_ic (v := (1 : Int32)) c_181_72 (by decide)).trans ?_
          refine (E_goto (q := 77) c_181_73 rfl).trans ?_
          exact E_rZ (v := (1 : Int32)) c_181_77 mi_181 (by decide)
        · refine (E_ic (v := (0 : Int32)) c_181_76 (by decide)).trans ?_
          exact E_rZ (v := (0 : Int32)) c_181_77 mi_181 (by decide)
set_option maxHeartbeats 4000000 in
theorem u_283 (d : Nat) (σ : ax_S) (x0 : Int32) (x1 : Int32) : ev sO d 283 0 [.int x0, .int x1] [] σ = if x1 = 0 then (some (some (.int (1 : Int32)), σ)) else (if x0 = x1 then (some (some (.int (1 : Int32)), σ)) else (if x1 = (1 : Int32) then (if x0 = (3 : Int32) then (some (some (.int (1 : Int32)), σ)) else (if x0 = (4 : Int32) then (some (some (.int (1 : Int32)), σ)) else (if x1 = (2 : Int32) then (if x0 = (5 : Int32) then (some (some (.int (1 : Int32)), σ)) else (some (some (.int (0 : Int32)), σ))) else (some (some (.int (0 : Int32)), σ))))) else (if x1 = (2 : Int32) then (if x0 = (5 : Int32) then (some (some (.int (1 : Int32)), σ)) else (some (some (.int (0 : Int32)), σ))) else (some (some (.int (0 : Int32)), σ))))) := by
  refine (E_il c_283_0 rfl).trans ?_
  refine (E_b0_eq (q := 34) c_283_1 rfl).trans (ax_ite ?_ ?_)
  · refine (E_ic (v := (1 : Int32)) c_283_34 (by decide)).trans ?_
    refine (E_goto (q := 39) c_283_35 rfl).trans ?_
    exact E_rZ (v := (1 : Int32)) c_283_39 mi_283 (by decide)
  · refine (E_il c_283_4 rfl).trans ?_
    refine (E_il c_283_5 rfl).trans ?_
    refine (E_br_eq (q := 34) c_283_6 rfl).trans (ax_ite ?_ ?_)
    · refine (E_ic (v := (1 : Int32)) c_283_34 (by decide)).trans ?_
      refine (E_goto (q := 39) c_283_35 rfl).trans ?_
      exact E_rZ (v := (1 : Int32)) c_283_39 mi_283 (by decide)
    · refine (E_il c_283_9 rfl).trans ?_
      refine (E_ic (v := (1 : Int32)) c_283_10 (by decide)).trans ?_
      refine (E_br_ne (q := 24) c_283_11 rfl).trans (ax_ite ?_ ?_)
      · refine (E_il c_283_14 rfl).trans ?_
        refine (E_ic (v := (3 : Int32)) c_283_15 (by decide)).trans ?_
        refine (E_br_eq (q := 34) c_283_16 rfl).trans (ax_ite ?_ ?_)
        · refine (E_ic (v := (1 : Int32)) c_283_34 (by decide)).trans ?_
          refine (E_goto (q := 39) c_283_35 rfl).trans ?_
          exact E_rZ (v := (1 : Int32)) c_283_39 mi_283 (by decide)
        · refine (E_il c_283_19 rfl).trans ?_
          refine (E_ic (v := (4 : Int32)) c_283_20 (by decide)).trans ?_
          refine (E_br_eq (q := 34) c_283_21 rfl).trans (ax_ite ?_ ?_)
          · refine (E_ic (v := (1 : Int32)) c_283_34 (by decide)).trans ?_
            refine (E_goto (q := 39) c_283_35 rfl).trans ?_
            exact E_rZ (v := (1 : Int32)) c_283_39 mi_283 (by decide)
          · refine (E_il c_283_24 rfl).trans ?_
            refine (E_ic (v := (2 : Int32)) c_283_25 (by decide)).trans ?_
            refine (E_br_ne (q := 38) c_283_26 rfl).trans (ax_ite ?_ ?_)
            · refine (E_il c_283_29 rfl).trans ?_
              refine (E_ic (v := (5 : Int32)) c_283_30 (by decide)).trans ?_
              refine (E_br_ne (q := 38) c_283_31 rfl).trans (ax_ite ?_ ?_)
              · refine (E_ic (v := (1 : Int32)) c_283_34 (by decide)).trans ?_
                refine (E_goto (q := 39) c_283_35 rfl).trans ?_
                exact E_rZ (v := (1 : Int32)) c_283_39 mi_283 (by decide)
              · refine (E_ic (v := (0 : Int32)) c_283_38 (by decide)).trans ?_
                exact E_rZ (v := (0 : Int32)) c_283_39 mi_283 (by decide)
            · refine (E_ic (v := (0 : Int32)) c_283_38 (by decide)).trans ?_
              exact E_rZ (v := (0 : Int32)) c_283_39 mi_283 (by decide)
      · refine (E_il c_283_24 rfl).trans ?_
        refine (E_ic (v := (2 : Int32)) c_283_25 (by decide)).trans ?_
        refine (E_br_ne (q := 38) c_283_26 rfl).trans (ax_ite ?_ ?_)
        · refine (E_il c_283_29 rfl).trans ?_
          refine (E_ic (v := (5 : Int32)) c_283_30 (by decide)).trans ?_
          refine (E_br_ne (q := 38) c_283_31 rfl).trans (ax_ite ?_ ?_)
          · refine (E_ic (v := (1 : Int32)) c_283_34 (by decide)).trans ?_
            refine (E_goto (q := 39) c_283_35 rfl).trans ?_
            exact E_rZ (v := (1 : Int32)) c_283_39 mi_283 (by decide)
          · refine (E_ic (v := (0 : Int32)) c_283_38 (by decide)).trans ?_
            exact E_rZ (v := (0 : Int32)) c_283_39 mi_283 (by decide)
        · refine (E_ic (v := (0 : Int32)) c_283_38 (by decide)).trans ?_
          exact E_rZ (v := (0 : Int32)) c_283_39 mi_283 (by decide)
set_option maxHeartbeats 4000000 in
theorem u_183_80_7 (d : Nat) (σ : ax_S) (x2 : Int32) (x3 : Int32) : ev sO (d + 5) 183 0 [.ref 80, .ref 7, .int x2, .int x3] [] σ = (cI sO (d + 4) 179 [.ref 7, .int x2] (sI (sI σ 80 1 (0 : Int32)) 80 2 x2)).bind fun u0 => (cI sO (d + 4) 91 [.ref 17, .int x2] (sI u0.2 80 3 u0.1)).bind fun u1 => (cI sO (d + 4) 184 [.ref 17, .int x2] (sI u1.2 80 4 u1.1)).bind fun u2 => (cI sO (d + 4) 103 [.ref 17, .int x2] (sI u2.2 80 5 u2.1)).bind fun u3 => (cI sO (d + 4) 111 [.ref 7, .int x2] (sI u3.2 80 6 u3.1)).bind fun u4 => (cI sO (d + 4) 185 [.ref 80, .int x3] (sI u4.2 80 7 u4.1)).bind fun u5 => (cI sO (d + 4) 186 [.ref 80, .int u5.1, .int (0 : Int32)] u5.2).bind fun u6 => some (some (.int u6.1), u6.2) := by
  refine (E_al c_183_0 rfl (by decide)).trans ?_
  refine (E_ic (v := (0 : Int32)) c_183_1 (by decide)).trans ?_
  refine (E_pfi (k := 1) c_183_2 sh_80 rfl rfl rfl).trans ?_
  refine (E_al c_183_5 rfl (by decide)).trans ?_
  refine (E_il c_183_6 rfl).trans ?_
  refine (E_pfi (k := 2) c_183_7 sh_80 rfl rfl rfl).trans ?_
  refine (E_al c_183_10 rfl (by decide)).trans ?_
  refine (E_al c_183_11 rfl (by decide)).trans ?_
  refine (E_il c_183_12 rfl).trans ?_
  refine (E_cIV c_183_13 mi_179 rfl rfl (sO_kl sh_7) (Nat.le_of_ble_eq_true rfl) (Nat.le_of_ble_eq_true rfl)).trans (ax_bnd fun u0 => ?_)
  refine (E_pfi (k := 3) c_183_16 sh_80 rfl rfl rfl).trans ?_
  refine (E_al c_183_19 rfl (by decide)).trans ?_
  refine (E_al c_183_20 rfl (by decide)).trans ?_
  refine (E_gfr (k := 1) (r := 17) c_183_21 sh_7 rfl rfl rfl).trans ?_
  refine (E_il c_183_24 rfl).trans ?_
  refine (E_cIV c_183_25 mi_91 rfl rfl (sO_kl sh_17) (Nat.le_of_ble_eq_true rfl) (Nat.le_of_ble_eq_true rfl)).trans (ax_bnd fun u1 => ?_)
  refine (E_pfi (k := 4) c_183_28 sh_80 rfl rfl rfl).trans ?_
  refine (E_al c_183_31 rfl (by decide)).trans ?_
  refine (E_al c_183_32 rfl (by decide)).trans ?_
  refine (E_gfr (k := 1) (r := 17) c_183_33 sh_7 rfl rfl rfl).trans ?_
  refine (E_il c_183_36 rfl).trans ?_
  refine (E_cIV c_183_37 mi_184 rfl rfl (sO_kl sh_17) (Nat.le_of_ble_eq_true rfl) (Nat.le_of_ble_eq_true rfl)).trans (ax_bnd fun u2 => ?_)
  refine (E_pfi (k := 5) c_183_40 sh_80 rfl rfl rfl).trans ?_
  refine (E_al c_183_43 rfl (by decide)).trans ?_
  refine (E_al c_183_44 rfl (by decide)).trans ?_
  refine (E_gfr (k := 1) (r := 17) c_183_45 sh_7 rfl rfl rfl).trans ?_
  refine (E_il c_183_48 rfl).trans ?_
  refine (E_cIV c_183_49 mi_103 rfl rfl (sO_kl sh_17) (Nat.le_of_ble_eq_true rfl) (Nat.le_of_ble_eq_true rfl)).trans (ax_bnd fun u3 => ?_)
  refine (E_pfi (k := 6) c_183_52 sh_80 rfl rfl rfl).trans ?_
  refine (E_al c_183_55 rfl (by decide)).trans ?_
  refine (E_al c_183_56 rfl (by decide)).trans ?_
  refine (E_il c_183_57 rfl).trans ?_
  refine (E_cIV c_183_58 mi_111 rfl rfl (sO_kl sh_7) (Nat.le_of_ble_eq_true rfl) (Nat.le_of_ble_eq_true rfl)).trans (ax_bnd fun u4 => ?_)
  refine (E_pfi (k := 7) c_183_61 sh_80 rfl rfl rfl).trans ?_
  refine (E_al c_183_64 rfl (by decide)).trans ?_
  refine (E_al c_183_65 rfl (by decide)).trans ?_
  refine (E_il c_183_66 rfl).trans ?_
  refine (E_cIV c_183_67 mi_185 rfl rfl (sO_kl sh_80) (Nat.le_of_ble_eq_true rfl) (Nat.le_of_ble_eq_true rfl)).trans (ax_bnd fun u5 => ?_)
  refine (E_ic (v := (0 : Int32)) c_183_70 (by decide)).trans ?_
  refine (E_cIV c_183_71 mi_186 rfl rfl (sO_kl sh_80) (Nat.le_of_ble_eq_true rfl) (Nat.le_of_ble_eq_true rfl)).trans (ax_bnd fun u6 => ?_)
  exact E_rI c_183_74 mi_183
set_option maxHeartbeats 4000000 in
theorem u_285_82 (d : Nat) (σ : ax_S) (x1 : Int32) (x2 : Int32) : ev sO (d + 6) 285 0 [.ref 82, .int x1, .int x2, .null] [] σ = (cI sO (d + 5) 283 [.int x2, .int (2 : Int32)] σ).bind fun u0 => if u0.1 = 0 then (if x2 = (3 : Int32) then ((cV sO (d + 5) 287 [.ref 82, .int (12 : Int32)] u0.2).bind fun u1 => (cV sO (d + 5) 287 [.ref 82, .int (11 : Int32)] u1).bind fun u2 => (cV sO (d + 5) 287 [.ref 82, .int (10 : Int32)] u2).bind fun u3 => (cI sO (d + 5) 288 [.ref 82, .int x1] u3).bind fun u4 => (cI sO (d + 5) 289 [.ref 82, .int x1, .int x2] u4.2).bind fun u5 => if x2 = (3 : Int32) then (some (some (.int ((2 : Int32) * (u4.1 + u5.1))), u5.2)) else (some (some (.int (u4.1 + u5.1)), u5.2))) else ((cV sO (d + 5) 287 [.ref 82, .int (11 : Int32)] u0.2).bind fun u6 => (cV sO (d + 5) 287 [.ref 82, .int (10 : Int32)] u6).bind fun u7 => (cI sO (d + 5) 288 [.ref 82, .int x1] u7).bind fun u8 => (cI sO (d + 5) 289 [.ref 82, .int x1, .int x2] u8.2).bind fun u9 => if x2 = (3 : Int32) then (some (some (.int ((2 : Int32) * (u8.1 + u9.1))), u9.2)) else (some (some (.int (u8.1 + u9.1)), u9.2)))) else ((cI sO (d + 5) 286 [.ref 82, .int x1, .int x2] u0.2).bind fun u10 => some (some (.int u10.1), u10.2)) := by
  refine (E_il c_285_0 rfl).trans ?_
  refine (E_ic (v := (2 : Int32)) c_285_1 (by decide)).trans ?_
  refine (E_cIS c_285_2 mi_283 rfl rfl (Nat.le_of_ble_eq_true rfl) (Nat.le_of_ble_eq_true rfl)).trans (ax_bnd fun u0 => ?_)
  refine (E_b0_eq (q := 15) c_285_5 rfl).trans (ax_ite ?_ ?_)
  · refine (E_il c_285_15 rfl).trans ?_
    refine (E_ic (v := (3 : Int32)) c_285_16 (by decide)).trans ?_
    refine (E_br_ne (q := 26) c_285_17 rfl).trans (ax_ite ?_ ?_)
    · refine (E_al c_285_20 rfl (by decide)).trans ?_
      refine (E_ic (v := (12 : Int32)) c_285_21 (by decide)).trans ?_
      refine (E_cVV c_285_23 mi_287 rfl (sO_kl sh_82) (Nat.le_of_ble_eq_true rfl) (Nat.le_of_ble_eq_true rfl)).trans (ax_bnd fun u1 => ?_)
      refine (E_al c_285_26 rfl (by decide)).trans ?_
      refine (E_ic (v := (11 : Int32)) c_285_27 (by decide)).trans ?_
      refine (E_cVV c_285_29 mi_287 rfl (sO_kl sh_82) (Nat.le_of_ble_eq_true rfl) (Nat.le_of_ble_eq_true rfl)).trans (ax_bnd fun u2 => ?_)
      refine (E_al c_285_32 rfl (by decide)).trans ?_
      refine (E_ic (v := (10 : Int32)) c_285_33 (by decide)).trans ?_
      refine (E_cVV c_285_35 mi_287 rfl (sO_kl sh_82) (Nat.le_of_ble_eq_true rfl) (Nat.le_of_ble_eq_true rfl)).trans (ax_bnd fun u3 => ?_)
      refine (E_al c_285_38 rfl (by decide)).trans ?_
      refine (E_il c_285_39 rfl).trans ?_
      refine (E_cIV c_285_40 mi_288 rfl rfl (sO_kl sh_82) (Nat.le_of_ble_eq_true rfl) (Nat.le_of_ble_eq_true rfl)).trans (ax_bnd fun u4 => ?_)
      refine (E_al c_285_43 rfl (by decide)).trans ?_
      refine (E_il c_285_44 rfl).trans ?_
      refine (E_il c_285_45 rfl).trans ?_
      refine (E_cIV c_285_46 mi_289 rfl rfl (sO_kl sh_82) (Nat.le_of_ble_eq_true rfl) (Nat.le_of_ble_eq_true rfl)).trans (ax_bnd fun u5 => ?_)
      refine (E_iadd c_285_49).trans ?_
      refine (E_is (L' := [.ref 82, .int x1, .int x2, .int (u4.1 + u5.1)]) c_285_50 (Nat.le_of_ble_eq_true rfl) rfl).trans ?_
      refine (E_il c_285_51 rfl).trans ?_
      refine (E_ic (v := (3 : Int32)) c_285_52 (by decide)).trans ?_
      refine (E_br_ne (q := 62) c_285_53 rfl).trans (ax_ite ?_ ?_)
      · refine (E_ic (v := (2 : Int32)) c_285_56 (by decide)).trans ?_
        refine (E_il c_285_57 rfl).trans ?_
        refine (E_imul c_285_58).trans ?_
        refine (E_goto (q := 63) c_285_59 rfl).trans ?_
        exact E_rI c_285_63 mi_285
      · refine (E_il c_285_62 rfl).trans ?_
        exact E_rI c_285_63 mi_285
    · refine (E_al c_285_26 rfl (by decide)).trans ?_
      refine (E_ic (v := (11 : Int32)) c_285_27 (by decide)).trans ?_
      refine (E_cVV c_285_29 mi_287 rfl (sO_kl sh_82) (Nat.le_of_ble_eq_true rfl) (Nat.le_of_ble_eq_true rfl)).trans (ax_bnd fun u6 => ?_)
      refine (E_al c_285_32 rfl (by decide)).trans ?_
      refine (E_ic (v := (10 : Int32)) c_285_33 (by decide)).trans ?_
      refine (E_cVV c_285_35 mi_287 rfl (sO_kl sh_82) (Nat.le_of_ble_eq_true rfl) (Nat.le_of_ble_eq_true rfl)).trans (ax_bnd fun u7 => ?_)
      refine (E_al c_285_38 rfl (by decide)).trans ?_
      refine (E_il c_285_39 rfl).trans ?_
      refine (E_cIV c_285_40 mi_288 rfl rfl (sO_kl sh_82) (Nat.le_of_ble_eq_true rfl) (Nat.le_of_ble_eq_true rfl)).trans (ax_bnd fun u8 => ?_)
      refine (E_al c_285_43 rfl (by decide)).trans ?_
      refine (E_il c_285_44 rfl).trans ?_
      refine (E_il c_285_45 rfl).trans ?_
      refine (E_cIV c_285_46 mi_289 rfl rfl (sO_kl sh_82) (Nat.le_of_ble_eq_true rfl) (Nat.le_of_ble_eq_true rfl)).trans (ax_bnd fun u9 => ?_)
      refine (E_iadd c_285_49).trans ?_
      refine (E_is (L' := [.ref 82, .int x1, .int x2, .int (u8.1 + u9.1)]) c_285_50 (Nat.le_of_ble_eq_true rfl) rfl).trans ?_
      refine (E_il c_285_51 rfl).trans ?_
      refine (E_ic (v := (3 : Int32)) c_285_52 (by decide)).trans ?_
      refine (E_br_ne (q := 62) c_285_53 rfl).trans (ax_ite ?_ ?_)
      · refine (E_ic (v := (2 : Int32)) c_285_56 (by decide)).trans ?_
        refine (E_il c_285_57 rfl).trans ?_
        refine (E_imul c_285_58).trans ?_
        refine (E_goto (q := 63) c_285_59 rfl).trans ?_
        exact E_rI c_285_63 mi_285
      · refine (E_il c_285_62 rfl).trans ?_
        exact E_rI c_285_63 mi_285
  · refine (E_al c_285_8 rfl (by decide)).trans ?_
    refine (E_il c_285_9 rfl).trans ?_
    refine (E_il c_285_10 rfl).trans ?_
    refine (E_cIV c_285_11 mi_286 rfl rfl (sO_kl sh_82) (Nat.le_of_ble_eq_true rfl) (Nat.le_of_ble_eq_true rfl)).trans (ax_bnd fun u10 => ?_)
    exact E_rI c_285_14 mi_285
set_option maxHeartbeats 4000000 in
theorem u_289_82 (d : Nat) (σ : ax_S) (x1 : Int32) (x2 : Int32) : ev sO (d + 5) 289 0 [.ref 82, .int x1, .int x2, .null, .null] [] σ = if x2 = (3 : Int32) then (ev sO (d + 5) 289 10 [.ref 82, .int x1, .int x2, .null, .null] [] σ) else (if x2 = (4 : Int32) then (ev sO (d + 5) 289 10 [.ref 82, .int x1, .int x2, .null, .null] [] σ) else (ev sO (d + 5) 289 26 [.ref 82, .int x1, .int x2, .null, .null] [] σ)) := by
  refine (E_il c_289_0 rfl).trans ?_
  refine (E_ic (v := (3 : Int32)) c_289_1 (by decide)).trans ?_
  refine (E_br_eq (q := 10) c_289_2 rfl).trans (ax_ite ?_ ?_)
  · rfl
  · refine (E_il c_289_5 rfl).trans ?_
    refine (E_ic (v := (4 : Int32)) c_289_6 (by decide)).trans ?_
    refine (E_br_ne (q := 26) c_289_7 rfl).trans (ax_ite ?_ ?_)
    · rfl
    · rfl
set_option maxHeartbeats 4000000 in
theorem u_289_82p10 (d : Nat) (σ : ax_S) (x1 : Int32) (x2 : Int32) (w3 : Value) (hw3 : w3.category = 1) (w4 : Value) (hw4 : w4.category = 1) : ev sO (d + 5) 289 10 [.ref 82, .int x1, .int x2, w3, w4] [] σ = if x2 = (3 : Int32) then ((cV sO (d + 4) 287 [.ref 82, .int (24 : Int32)] σ).bind fun u0 => ev sO (d + 5) 289 26 [.ref 82, .int x1, .int x2, w3, w4] [] u0) else ((cV sO (d + 4) 287 [.ref 82, .int (21 : Int32)] σ).bind fun u1 => ev sO (d + 5) 289 26 [.ref 82, .int x1, .int x2, w3, w4] [] u1) := by
  refine (E_al c_289_10 rfl (by decide)).trans ?_
  refine (E_il c_289_11 rfl).trans ?_
  refine (E_ic (v := (3 : Int32)) c_289_12 (by decide)).trans ?_
  refine (E_br_ne (q := 21) c_289_13 rfl).trans (ax_ite ?_ ?_)
  · refine (E_ic (v := (24 : Int32)) c_289_16 (by decide)).trans ?_
    refine (E_goto (q := 23) c_289_18 rfl).trans ?_
    refine (E_cVV c_289_23 mi_287 rfl (sO_kl sh_82) (Nat.le_of_ble_eq_true rfl) (Nat.le_of_ble_eq_true rfl)).trans (ax_bnd fun u0 => ?_)
    rfl
  · refine (E_ic (v := (21 : Int32)) c_289_21 (by decide)).trans ?_
    refine (E_cVV c_289_23 mi_287 rfl (sO_kl sh_82) (Nat.le_of_ble_eq_true rfl) (Nat.le_of_ble_eq_true rfl)).trans (ax_bnd fun u1 => ?_)
    rfl
set_option maxHeartbeats 4000000 in
theorem u_289_82p26 (d : Nat) (σ : ax_S) (x1 : Int32) (x2 : Int32) (w3 : Value) (hw3 : w3.category = 1) (w4 : Value) (hw4 : w4.category = 1) : ev sO (d + 5) 289 26 [.ref 82, .int x1, .int x2, w3, w4] [] σ = if x2 = (5 : Int32) then ((cV sO (d + 4) 287 [.ref 82, .int (23 : Int32)] σ).bind fun u0 => ev sO (d + 5) 289 37 [.ref 82, .int x1, .int x2, w3, w4] [] u0) else (ev sO (d + 5) 289 37 [.ref 82, .int x1, .int x2, w3, w4] [] σ) := by
  refine (E_il c_289_26 rfl).trans ?_
  refine (E_ic (v := (5 : Int32)) c_289_27 (by decide)).trans ?_
  refine (E_br_ne (q := 37) c_289_28 rfl).trans (ax_ite ?_ ?_)
  · refine (E_al c_289_31 rfl (by decide)).trans ?_
    refine (E_ic (v := (23 : Int32)) c_289_32 (by decide)).trans ?_
    refine (E_cVV c_289_34 mi_287 rfl (sO_kl sh_82) (Nat.le_of_ble_eq_true rfl) (Nat.le_of_ble_eq_true rfl)).trans (ax_bnd fun u0 => ?_)
    rfl
  · rfl
set_option maxHeartbeats 4000000 in
theorem u_289_82p37 (d : Nat) (σ : ax_S) (x1 : Int32) (x2 : Int32) (w3 : Value) (hw3 : w3.category = 1) (w4 : Value) (hw4 : w4.category = 1) : ev sO (d + 5) 289 37 [.ref 82, .int x1, .int x2, w3, w4] [] σ = (cI sO (d + 4) 283 [.int x2, .int (2 : Int32)] σ).bind fun u0 => if u0.1 = 0 then (ev sO (d + 5) 289 53 [.ref 82, .int x1, .int x2, .int u0.1, w4] [] u0.2) else ((cV sO (d + 4) 287 [.ref 82, .int (22 : Int32)] u0.2).bind fun u1 => ev sO (d + 5) 289 53 [.ref 82, .int x1, .int x2, .int u0.1, w4] [] u1) := by
  refine (E_il c_289_37 rfl).trans ?_
  refine (E_ic (v := (2 : Int32)) c_289_38 (by decide)).trans ?_
  refine (E_cIS c_289_39 mi_283 rfl rfl (Nat.le_of_ble_eq_true rfl) (Nat.le_of_ble_eq_true rfl)).trans (ax_bnd fun u0 => ?_)
  refine (E_is (L' := [.ref 82, .int x1, .int x2, .int u0.1, w4]) c_289_42 (Nat.le_of_ble_eq_true rfl) rfl).trans ?_
  refine (E_il c_289_43 rfl).trans ?_
  refine (E_b0_eq (q := 53) c_289_44 rfl).trans (ax_ite ?_ ?_)
  · rfl
  · refine (E_al c_289_47 rfl (by decide)).trans ?_
    refine (E_ic (v := (22 : Int32)) c_289_48 (by decide)).trans ?_
    refine (E_cVV c_289_50 mi_287 rfl (sO_kl sh_82) (Nat.le_of_ble_eq_true rfl) (Nat.le_of_ble_eq_true rfl)).trans (ax_bnd fun u1 => ?_)
    rfl
set_option maxHeartbeats 4000000 in
theorem u_289_82p53 (d : Nat) (σ : ax_S) (x1 : Int32) (x2 : Int32) (x3 : Int32) (w4 : Value) (hw4 : w4.category = 1) : ev sO (d + 5) 289 53 [.ref 82, .int x1, .int x2, .int x3, w4] [] σ = (cV sO (d + 4) 287 [.ref 82, .int (20 : Int32)] σ).bind fun u0 => if x3 = 0 then (if x2 = (3 : Int32) then ((cI sO (d + 4) 247 [.ref 82, .int x1, .int x1, .int (0 : Int32)] u0).bind fun u1 => if x2 = (5 : Int32) then (some (some (.int (-(x1 + u1.1))), u1.2)) else (some (some (.int (x1 + u1.1)), u1.2))) else (if x2 = (4 : Int32) then ((cI sO (d + 4) 232 [.ref 82, .int x1, .int (2 : Int32)] u0).bind fun u2 => if x2 = (5 : Int32) then (some (some (.int (-(x1 + u2.1))), u2.2)) else (some (some (.int (x1 + u2.1)), u2.2))) else (if x2 = (5 : Int32) then (some (some (.int (-(x1 + (0 : Int32)))), u0)) else (some (some (.int (x1 + (0 : Int32))), u0))))) else ((cI sO (d + 4) 286 [.ref 82, .int x1, .int x2] u0).bind fun u3 => if x2 = (5 : Int32) then (some (some (.int (-(x1 + u3.1))), u3.2)) else (some (some (.int (x1 + u3.1)), u3.2))) := by
  refine (E_al c_289_53 rfl (by decide)).trans ?_
  refine (E_ic (v := (20 : Int32)) c_289_54 (by decide)).trans ?_
  refine (E_cVV c_289_56 mi_287 rfl (sO_kl sh_82) (Nat.le_of_ble_eq_true rfl) (Nat.le_of_ble_eq_true rfl)).trans (ax_bnd fun u0 => ?_)
  refine (E_il c_289_59 rfl).trans ?_
  refine (E_il c_289_60 rfl).trans ?_
  refine (E_b0_eq (q := 73) c_289_61 rfl).trans (ax_ite ?_ ?_)
  · refine (E_il c_289_73 rfl).trans ?_
    refine (E_ic (v := (3 : Int32)) c_289_74 (by decide)).trans ?_
    refine (E_br_ne (q := 88) c_289_75 rfl).trans (ax_ite ?_ ?_)
    · refine (E_al c_289_78 rfl (by decide)).trans ?_
      refine (E_il c_289_79 rfl).trans ?_
      refine (E_il c_289_80 rfl).trans ?_
      refine (E_ic (v := (0 : Int32)) c_289_81 (by decide)).trans ?_
      refine (E_cIV c_289_82 mi_247 rfl rfl (sO_kl sh_82) (Nat.le_of_ble_eq_true rfl) (Nat.le_of_ble_eq_true rfl)).trans (ax_bnd fun u1 => ?_)
      refine (E_goto (q := 103) c_289_85 rfl).trans ?_
      refine (E_iadd c_289_103).trans ?_
      refine (E_is (L' := [.ref 82, .int x1, .int x2, .int x3, .int (x1 + u1.1)]) c_289_104 (Nat.le_of_ble_eq_true rfl) rfl).trans ?_
      refine (E_il c_289_106 rfl).trans ?_
      refine (E_ic (v := (5 : Int32)) c_289_107 (by decide)).trans ?_
      refine (E_br_ne (q := 117) c_289_108 rfl).trans (ax_ite ?_ ?_)
      · refine (E_il c_289_111 rfl).trans ?_
        refine (E_ineg c_289_113).trans ?_
        refine (E_goto (q := 119) c_289_114 rfl).trans ?_
        exact E_rI c_289_119 mi_289
      · refine (E_il c_289_117 rfl).trans ?_
        exact E_rI c_289_119 mi_289
    · refine (E_il c_289_88 rfl).trans ?_
      refine (E_ic (v := (4 : Int32)) c_289_89 (by decide)).trans ?_
      refine (E_br_ne (q := 102) c_289_90 rfl).trans (ax_ite ?_ ?_)
      · refine (E_al c_289_93 rfl (by decide)).trans ?_
        refine (E_il c_289_94 rfl).trans ?_
        refine (E_ic (v := (2 : Int32)) c_289_95 (by decide)).trans ?_
        refine (E_cIV c_289_96 mi_232 rfl rfl (sO_kl sh_82) (Nat.le_of_ble_eq_true rfl) (Nat.le_of_ble_eq_true rfl)).trans (ax_bnd fun u2 => ?_)
        refine (E_goto (q := 103) c_289_99 rfl).trans ?_
        refine (E_iadd c_289_103).trans ?_
        refine (E_is (L' := [.ref 82, .int x1, .int x2, .int x3, .int (x1 + u2.1)]) c_289_104 (Nat.le_of_ble_eq_true rfl) rfl).trans ?_
        refine (E_il c_289_106 rfl).trans ?_
        refine (E_ic (v := (5 : Int32)) c_289_107 (by decide)).trans ?_
        refine (E_br_ne (q := 117) c_289_108 rfl).trans (ax_ite ?_ ?_)
        · refine (E_il c_289_111 rfl).trans ?_
          refine (E_ineg c_289_113).trans ?_
          refine (E_goto (q := 119) c_289_114 rfl).trans ?_
          exact E_rI c_289_119 mi_289
        · refine (E_il c_289_117 rfl).trans ?_
          exact E_rI c_289_119 mi_289
      · refine (E_ic (v := (0 : Int32)) c_289_102 (by decide)).trans ?_
        refine (E_iadd c_289_103).trans ?_
        refine (E_is (L' := [.ref 82, .int x1, .int x2, .int x3, .int (x1 + (0 : Int32))]) c_289_104 (Nat.le_of_ble_eq_true rfl) rfl).trans ?_
        refine (E_il c_289_106 rfl).trans ?_
        refine (E_ic (v := (5 : Int32)) c_289_107 (by decide)).trans ?_
        refine (E_br_ne (q := 117) c_289_108 rfl).trans (ax_ite ?_ ?_)
        · refine (E_il c_289_111 rfl).trans ?_
          refine (E_ineg c_289_113).trans ?_
          refine (E_goto (q := 119) c_289_114 rfl).trans ?_
          exact E_rI c_289_119 mi_289
        · refine (E_il c_289_117 rfl).trans ?_
          exact E_rI c_289_119 mi_289
  · refine (E_al c_289_64 rfl (by decide)).trans ?_
    refine (E_il c_289_65 rfl).trans ?_
    refine (E_il c_289_66 rfl).trans ?_
    refine (E_cIV c_289_67 mi_286 rfl rfl (sO_kl sh_82) (Nat.le_of_ble_eq_true rfl) (Nat.le_of_ble_eq_true rfl)).trans (ax_bnd fun u3 => ?_)
    refine (E_goto (q := 103) c_289_70 rfl).trans ?_
    refine (E_iadd c_289_103).trans ?_
    refine (E_is (L' := [.ref 82, .int x1, .int x2, .int x3, .int (x1 + u3.1)]) c_289_104 (Nat.le_of_ble_eq_true rfl) rfl).trans ?_
    refine (E_il c_289_106 rfl).trans ?_
    refine (E_ic (v := (5 : Int32)) c_289_107 (by decide)).trans ?_
    refine (E_br_ne (q := 117) c_289_108 rfl).trans (ax_ite ?_ ?_)
    · refine (E_il c_289_111 rfl).trans ?_
      refine (E_ineg c_289_113).trans ?_
      refine (E_goto (q := 119) c_289_114 rfl).trans ?_
      exact E_rI c_289_119 mi_289
    · refine (E_il c_289_117 rfl).trans ?_
      exact E_rI c_289_119 mi_289
set_option maxHeartbeats 4000000 in
theorem u_189_80 (d : Nat) (σ : ax_S) (x1 : Int32) : ev sO d 189 0 [.ref 80, .int x1] [] σ = if x1 < 0 then (some (some (.int (-1000000 : Int32)), σ)) else (if x1 < (σ.1 80 1) then (if x1 < (16 : Int32) then (gd (0 ≤ x1.toInt ∧ x1.toInt < (16 : Nat)) (some (some (.int (σ.1 81 x1.toNatClampNeg)), σ))) else (some (some (.int (-1000000 : Int32)), σ))) else (some (some (.int (-1000000 : Int32)), σ))) := by
  refine (E_il c_189_0 rfl).trans ?_
  refine (E_b0_lt (q := 27) c_189_1 rfl).trans (ax_ite ?_ ?_)
  · refine (E_ic (v := (-1000000 : Int32)) c_189_27 (by decide)).trans ?_
    exact E_rI c_189_29 mi_189
  · refine (E_il c_189_4 rfl).trans ?_
    refine (E_al c_189_5 rfl (by decide)).trans ?_
    refine (E_gfi (k := 1) c_189_6 sh_80 rfl rfl rfl (by decide)).trans ?_
    refine (E_br_ge (q := 27) c_189_9 rfl).trans (ax_ite ?_ ?_)
    · refine (E_il c_189_12 rfl).trans ?_
      refine (E_ic (v := (16 : Int32)) c_189_13 (by decide)).trans ?_
      refine (E_br_ge (q := 27) c_189_15 rfl).trans (ax_ite ?_ ?_)
      · refine (E_al c_189_18 rfl (by decide)).trans ?_
        refine (E_gfr (k := 0) (r := 81) c_189_19 sh_80 rfl rfl rfl).trans ?_
        refine (E_il c_189_22 rfl).trans ?_
        refine (E_ial c_189_23 sh_81).trans (ax_gd ?_)
        refine (E_goto (q := 29) c_189_24 rfl).trans ?_
        exact E_rI c_189_29 mi_189
      · refine (E_ic (v := (-1000000 : Int32)) c_189_27 (by decide)).trans ?_
        exact E_rI c_189_29 mi_189
    · refine (E_ic (v := (-1000000 : Int32)) c_189_27 (by decide)).trans ?_
      exact E_rI c_189_29 mi_189
set_option maxHeartbeats 4000000 in
theorem u_191_1 (d : Nat) (σ : ax_S) : ev sO d 191 0 [.ref 1, .null, .null, .null, .null, .null] [] σ = ev sO d 191 13 [.ref 1, .int (0 : Int32), .ref 3, .int (8 : Int32), .int (0 : Int32), .null] [] σ := by
  refine (E_ic (v := (0 : Int32)) c_191_0 (by decide)).trans ?_
  refine (E_is (L' := [.ref 1, .int (0 : Int32), .null, .null, .null, .null]) c_191_1 (Nat.le_of_ble_eq_true rfl) rfl).trans ?_
  refine (E_al c_191_2 rfl (by decide)).trans ?_
  refine (E_gfr (k := 1) (r := 3) c_191_3 sh_1 rfl rfl rfl).trans ?_
  refine (E_as (L' := [.ref 1, .int (0 : Int32), .ref 3, .null, .null, .null]) c_191_6 (Nat.le_of_ble_eq_true rfl) (by decide) rfl).trans ?_
  refine (E_al c_191_7 rfl (by decide)).trans ?_
  refine (E_aln (v := (8 : Int32)) c_191_8 sh_3 (by decide) (by decide)).trans ?_
  refine (E_is (L' := [.ref 1, .int (0 : Int32), .ref 3, .int (8 : Int32), .null, .null]) c_191_9 (Nat.le_of_ble_eq_true rfl) rfl).trans ?_
  refine (E_ic (v := (0 : Int32)) c_191_10 (by decide)).trans ?_
  refine (E_is (L' := [.ref 1, .int (0 : Int32), .ref 3, .int (8 : Int32), .int (0 : Int32), .null]) c_191_11 (Nat.le_of_ble_eq_true rfl) rfl).trans ?_
  rfl
set_option maxHeartbeats 4000000 in
theorem u_191_1p13 (d : Nat) (σ : ax_S) (w0 : Value) (hw0 : w0.category = 1) (x1 : Int32) (x3 : Int32) (x4 : Int32) (w5 : Value) (hw5 : w5.category = 1) : ev sO d 191 13 [w0, .int x1, .ref 3, .int x3, .int x4, w5] [] σ = if x4 < x3 then (gd (0 ≤ x4.toInt ∧ x4.toInt < (8 : Nat)) (if (σ.1 3 x4.toNatClampNeg) = (-1 : Int32) then (ev sO d 191 13 [w0, .int x1, .ref 3, .int x3, .int (x4 + (1 : Int32)), .int (σ.1 3 x4.toNatClampNeg)] [] σ) else (ev sO d 191 13 [w0, .int (x1 + (1 : Int32)), .ref 3, .int x3, .int (x4 + (1 : Int32)), .int (σ.1 3 x4.toNatClampNeg)] [] σ))) else (some (some (.int x1), σ)) := by
  refine (E_il c_191_13 rfl).trans ?_
  refine (E_il c_191_15 rfl).trans ?_
  refine (E_br_ge (q := 40) c_191_16 rfl).trans (ax_ite ?_ ?_)
  · refine (E_al c_191_19 rfl (by decide)).trans ?_
    refine (E_il c_191_20 rfl).trans ?_
    refine (E_ial c_191_22 sh_3).trans (ax_gd ?_)
    refine (E_is (L' := [w0, .int x1, .ref 3, .int x3, .int x4, .int (σ.1 3 x4.toNatClampNeg)]) c_191_23 (Nat.le_of_ble_eq_true rfl) rfl).trans ?_
    refine (E_il c_191_25 rfl).trans ?_
    refine (E_ic (v := (-1 : Int32)) c_191_27 (by decide)).trans ?_
    refine (E_br_eq (q := 34) c_191_28 rfl).trans (ax_ite ?_ ?_)
    · refine (E_inc (v := (1 : Int32)) (L' := [w0, .int x1, .ref 3, .int x3, .int (x4 + (1 : Int32)), .int (σ.1 3 x4.toNatClampNeg)]) c_191_34 rfl (by decide) rfl).trans ?_
      refine (E_goto (q := 13) c_191_37 rfl).trans ?_
      rfl
    · refine (E_inc (v := (1 : Int32)) (L' := [w0, .int (x1 + (1 : Int32)), .ref 3, .int x3, .int x4, .int (σ.1 3 x4.toNatClampNeg)]) c_191_31 rfl (by decide) (by simp [ax_st1, ax_drp, hw0])).trans ?_
      refine (E_inc (v := (1 : Int32)) (L' := [w0, .int (x1 + (1 : Int32)), .ref 3, .int x3, .int (x4 + (1 : Int32)), .int (σ.1 3 x4.toNatClampNeg)]) c_191_34 rfl (by decide) rfl).trans ?_
      refine (E_goto (q := 13) c_191_37 rfl).trans ?_
      rfl
  · refine (E_il c_191_40 rfl).trans ?_
    exact E_rI c_191_41 mi_191
set_option maxHeartbeats 4000000 in
theorem u_64_8 (d : Nat) (σ : ax_S) : ev sO d 64 0 [.ref 8] [] σ = some (some (.int (σ.1 8 1)), σ) := by
  refine (E_al c_64_0 rfl (by decide)).trans ?_
  refine (E_gfi (k := 1) c_64_1 sh_8 rfl rfl rfl (by decide)).trans ?_
  exact E_rI c_64_4 mi_64
set_option maxHeartbeats 4000000 in
theorem u_65_8 (d : Nat) (σ : ax_S) : ev sO d 65 0 [.ref 8] [] σ = some (some (.int (σ.1 8 6)), σ) := by
  refine (E_al c_65_0 rfl (by decide)).trans ?_
  refine (E_gfi (k := 6) c_65_1 sh_8 rfl rfl rfl (by decide)).trans ?_
  exact E_rI c_65_4 mi_65
set_option maxHeartbeats 4000000 in
theorem u_192_17 (d : Nat) (σ : ax_S) : ev sO (d + 3) 192 0 [.ref 17, .null, .null] [] σ = ev sO (d + 3) 192 4 [.ref 17, .int (0 : Int32), .int (0 : Int32)] [] σ := by
  refine (E_ic (v := (0 : Int32)) c_192_0 (by decide)).trans ?_
  refine (E_is (L' := [.ref 17, .int (0 : Int32), .null]) c_192_1 (Nat.le_of_ble_eq_true rfl) rfl).trans ?_
  refine (E_ic (v := (0 : Int32)) c_192_2 (by decide)).trans ?_
  refine (E_is (L' := [.ref 17, .int (0 : Int32), .int (0 : Int32)]) c_192_3 (Nat.le_of_ble_eq_true rfl) rfl).trans ?_
  rfl
set_option maxHeartbeats 4000000 in
theorem u_192_17p4 (d : Nat) (σ : ax_S) (x1 : Int32) (x2 : Int32) : ev sO (d + 3) 192 4 [.ref 17, .int x1, .int x2] [] σ = if x2 < (σ.1 17 0) then ((cI sO (d + 2) 103 [.ref 17, .int x2] σ).bind fun u0 => ev sO (d + 3) 192 4 [.ref 17, .int (x1 + u0.1), .int (x2 + (1 : Int32))] [] u0.2) else (some (some (.int x1), σ)) := by
  refine (E_il c_192_4 rfl).trans ?_
  refine (E_al c_192_5 rfl (by decide)).trans ?_
  refine (E_gfi (k := 0) c_192_6 sh_17 rfl rfl rfl (by decide)).trans ?_
  refine (E_br_ge (q := 26) c_192_9 rfl).trans (ax_ite ?_ ?_)
  · refine (E_il c_192_12 rfl).trans ?_
    refine (E_al c_192_13 rfl (by decide)).trans ?_
    refine (E_il c_192_14 rfl).trans ?_
    refine (E_cIV c_192_15 mi_103 rfl rfl (sO_kl sh_17) (Nat.le_of_ble_eq_true rfl) (Nat.le_of_ble_eq_true rfl)).trans (ax_bnd fun u0 => ?_)
    refine (E_iadd c_192_18).trans ?_
    refine (E_is (L' := [.ref 17, .int (x1 + u0.1), .int x2]) c_192_19 (Nat.le_of_ble_eq_true rfl) rfl).trans ?_
    refine (E_inc (v := (1 : Int32)) (L' := [.ref 17, .int (x1 + u0.1), .int (x2 + (1 : Int32))]) c_192_20 rfl (by decide) rfl).trans ?_
    refine (E_goto (q := 4) c_192_23 rfl).trans ?_
    rfl
  · refine (E_il c_192_26 rfl).trans ?_
    exact E_rI c_192_27 mi_192
set_option maxHeartbeats 4000000 in
theorem u_193_5 (d : Nat) (σ : ax_S) : ev sO d 193 0 [.ref 5] [] σ = some (some (.int (σ.1 5 1)), σ) := by
  refine (E_al c_193_0 rfl (by decide)).trans ?_
  refine (E_gfi (k := 1) c_193_1 sh_5 rfl rfl rfl (by decide)).trans ?_
  exact E_rI c_193_4 mi_193
set_option maxHeartbeats 4000000 in
theorem u_19_1 (d : Nat) (σ : ax_S) (x1 : Int32) : ev sO (d + 1) 19 0 [.ref 1, .int x1] [] σ = (cI sO d 13 [.int x1] σ).bind fun u0 => if u0.1 = 0 then (some (some (.int (-1 : Int32)), u0.2)) else (gd (0 ≤ x1.toInt ∧ x1.toInt < (8 : Nat)) (some (some (.int (u0.2.1 3 x1.toNatClampNeg)), u0.2))) := by
  refine (E_il c_19_0 rfl).trans ?_
  refine (E_cIS c_19_1 mi_13 rfl rfl (Nat.le_of_ble_eq_true rfl) (Nat.le_of_ble_eq_true rfl)).trans (ax_bnd fun u0 => ?_)
  refine (E_b0_eq (q := 16) c_19_4 rfl).trans (ax_ite ?_ ?_)
  · refine (E_ic (v := (-1 : Int32)) c_19_16 (by decide)).trans ?_
    exact E_rI c_19_17 mi_19
  · refine (E_al c_19_7 rfl (by decide)).trans ?_
    refine (E_gfr (k := 1) (r := 3) c_19_8 sh_1 rfl rfl rfl).trans ?_
    refine (E_il c_19_11 rfl).trans ?_
    refine (E_ial c_19_12 sh_3).trans (ax_gd ?_)
    refine (E_goto (q := 17) c_19_13 rfl).trans ?_
    exact E_rI c_19_17 mi_19
set_option maxHeartbeats 4000000 in
theorem u_32_5 (d : Nat) (σ : ax_S) : ev sO (d + 2) 32 0 [.ref 5] [] σ = (cV sO (d + 1) 33 [.ref 5] (sI (sI σ 5 4 (0 : Int32)) 5 7 (0 : Int32))).bind fun u0 => some (none, u0) := by
  refine (E_al c_32_0 rfl (by decide)).trans ?_
  refine (E_ic (v := (0 : Int32)) c_32_1 (by decide)).trans ?_
  refine (E_pfz (k := 4) c_32_2 sh_5 rfl rfl rfl (by decide)).trans ?_
  refine (E_al c_32_5 rfl (by decide)).trans ?_
  refine (E_ic (v := (0 : Int32)) c_32_6 (by decide)).trans ?_
  refine (E_pfi (k := 7) c_32_7 sh_5 rfl rfl rfl).trans ?_
  refine (E_al c_32_10 rfl (by decide)).trans ?_
  refine (E_cVV c_32_11 mi_33 rfl (sO_kl sh_5) (Nat.le_of_ble_eq_true rfl) (Nat.le_of_ble_eq_true rfl)).trans (ax_bnd fun u0 => ?_)
  exact E_rV c_32_14 mi_32
set_option maxHeartbeats 4000000 in
theorem u_38_5_1001 (d : Nat) (σ : ax_S) : ev sO (d + 4) 38 0 [.ref 5, .ref 1001, .null] [] σ = if (σ.1 5 5) = (1 : Int32) then ((cI sO (d + 3) 39 [.ref 1001] σ).bind fun u0 => if u0.1 = ((u0.2.1 5 7) - (u0.2.1 5 6)) then (ev sO (d + 4) 38 28 [.ref 5, .ref 1001, .int (0 : Int32)] [] u0.2) else (some (some (.int (0 : Int32)), u0.2))) else (some (some (.int (0 : Int32)), σ)) := by
  refine (E_al c_38_0 rfl (by decide)).trans ?_
  refine (E_gfi (k := 5) c_38_1 sh_5 rfl rfl rfl (by decide)).trans ?_
  refine (E_ic (v := (1 : Int32)) c_38_4 (by decide)).trans ?_
  refine (E_br_ne (q := 24) c_38_5 rfl).trans (ax_ite ?_ ?_)
  · refine (E_al c_38_8 rfl (by decide)).trans ?_
    refine (E_cIV c_38_9 mi_39 rfl rfl (sO_kls (by decide)) (Nat.le_of_ble_eq_true rfl) (Nat.le_of_ble_eq_true rfl)).trans (ax_bnd fun u0 => ?_)
    refine (E_al c_38_12 rfl (by decide)).trans ?_
    refine (E_gfi (k := 7) c_38_13 sh_5 rfl rfl rfl (by decide)).trans ?_
    refine (E_al c_38_16 rfl (by decide)).trans ?_
    refine (E_gfi (k := 6) c_38_17 sh_5 rfl rfl rfl (by decide)).trans ?_
    refine (E_isub c_38_20).trans ?_
    refine (E_br_eq (q := 26) c_38_21 rfl).trans (ax_ite ?_ ?_)
    · refine (E_ic (v := (0 : Int32)) c_38_26 (by decide)).trans ?_
      refine (E_is (L' := [.ref 5, .ref 1001, .int (0 : Int32)]) c_38_27 (Nat.le_of_ble_eq_true rfl) rfl).trans ?_
      rfl
    · refine (E_ic (v := (0 : Int32)) c_38_24 (by decide)).trans ?_
      exact E_rZ (v := (0 : Int32)) c_38_25 mi_38 (by decide)
  · refine (E_ic (v := (0 : Int32)) c_38_24 (by decide)).trans ?_
    exact E_rZ (v := (0 : Int32)) c_38_25 mi_38 (by decide)
set_option maxHeartbeats 4000000 in
theorem u_38_5_1001p28 (d : Nat) (σ : ax_S) (x2 : Int32) : ev sO (d + 4) 38 28 [.ref 5, .ref 1001, .int x2] [] σ = (cI sO (d + 3) 39 [.ref 1001] σ).bind fun u0 => if x2 < u0.1 then ((cI sO (d + 3) 34 [.ref 5, .int ((u0.2.1 5 6) + x2)] u0.2).bind fun u1 => (cI sO (d + 3) 41 [.ref 1001, .int x2] u1.2).bind fun u2 => if u1.1 = u2.1 then (ev sO (d + 4) 38 28 [.ref 5, .ref 1001, .int (x2 + (1 : Int32))] [] u2.2) else (some (some (.int (0 : Int32)), u2.2))) else (some (some (.int (1 : Int32)), u0.2)) := by
  refine (E_il c_38_28 rfl).trans ?_
  refine (E_al c_38_29 rfl (by decide)).trans ?_
  refine (E_cIV c_38_30 mi_39 rfl rfl (sO_kls (by decide)) (Nat.le_of_ble_eq_true rfl) (Nat.le_of_ble_eq_true rfl)).trans (ax_bnd fun u0 => ?_)
  refine (E_br_ge (q := 62) c_38_33 rfl).trans (ax_ite ?_ ?_)
  · refine (E_al c_38_36 rfl (by decide)).trans ?_
    refine (E_al c_38_37 rfl (by decide)).trans ?_
    refine (E_gfi (k := 6) c_38_38 sh_5 rfl rfl rfl (by decide)).trans ?_
    refine (E_il c_38_41 rfl).trans ?_
    refine (E_iadd c_38_42).trans ?_
    refine (E_cIV c_38_43 mi_34 rfl rfl (sO_kl sh_5) (Nat.le_of_ble_eq_true rfl) (Nat.le_of_ble_eq_true rfl)).trans (ax_bnd fun u1 => ?_)
    refine (E_al c_38_46 rfl (by decide)).trans ?_
    refine (E_il c_38_47 rfl).trans ?_
    refine (E_cIV c_38_48 mi_41 rfl rfl (sO_kls (by decide)) (Nat.le_of_ble_eq_true rfl) (Nat.le_of_ble_eq_true rfl)).trans (ax_bnd fun u2 => ?_)
    refine (E_br_eq (q := 56) c_38_51 rfl).trans (ax_ite ?_ ?_)
    · refine (E_inc (v := (1 : Int32)) (L' := [.ref 5, .ref 1001, .int (x2 + (1 : Int32))]) c_38_56 rfl (by decide) rfl).trans ?_
      refine (E_goto (q := 28) c_38_59 rfl).trans ?_
      rfl
    · refine (E_ic (v := (0 : Int32)) c_38_54 (by decide)).trans ?_
      exact E_rZ (v := (0 : Int32)) c_38_55 mi_38 (by decide)
  · refine (E_ic (v := (1 : Int32)) c_38_62 (by decide)).trans ?_
    exact E_rZ (v := (1 : Int32)) c_38_63 mi_38 (by decide)
set_option maxHeartbeats 4000000 in
theorem u_46_52_5 (d : Nat) (σ : ax_S) : ev sO (d + 6) 46 0 [.ref 52, .ref 5] [] σ = if (σ.1 52 1) < (16 : Int32) then ((cV sO (d + 5) 48 [.ref 5, .ref 1001] σ).bind fun u0 => (cI sO (d + 5) 50 [.ref 5, .int (0 : Int32), .int (3 : Int32)] u0).bind fun u1 => gd (0 ≤ (u0.1 52 1).toInt ∧ (u0.1 52 1).toInt < (16 : Nat)) ((cI sO (d + 5) 50 [.ref 5, .int (0 : Int32), .int (3 : Int32)] (sI u1.2 53 (u0.1 52 1).toNatClampNeg u1.1)).bind fun u2 => gd (0 ≤ ((sI u1.2 53 (u0.1 52 1).toNatClampNeg u1.1).1 52 1).toInt ∧ ((sI u1.2 53 (u0.1 52 1).toNatClampNeg u1.1).1 52 1).toInt < (16 : Nat)) ((cI sO (d + 5) 50 [.ref 5, .int (1800 : Int32), .int (2000 : Int32)] (sI u2.2 54 ((sI u1.2 53 (u0.1 52 1).toNatClampNeg u1.1).1 52 1).toNatClampNeg u2.1)).bind fun u3 => gd (0 ≤ ((sI u2.2 54 ((sI u1.2 53 (u0.1 52 1).toNatClampNeg u1.1).1 52 1).toNatClampNeg u2.1).1 52 1).toInt ∧ ((sI u2.2 54 ((sI u1.2 53 (u0.1 52 1).toNatClampNeg u1.1).1 52 1).toNatClampNeg u2.1).1 52 1).toInt < (16 : Nat)) ((cI sO (d + 5) 50 [.ref 5, .int (1 : Int32), .int (99 : Int32)] (sI u3.2 55 ((sI u2.2 54 ((sI u1.2 53 (u0.1 52 1).toNatClampNeg u1.1).1 52 1).toNatClampNeg u2.1).1 52 1).toNatClampNeg u3.1)).bind fun u4 => gd (0 ≤ ((sI u3.2 55 ((sI u2.2 54 ((sI u1.2 53 (u0.1 52 1).toNatClampNeg u1.1).1 52 1).toNatClampNeg u2.1).1 52 1).toNatClampNeg u3.1).1 52 1).toInt ∧ ((sI u3.2 55 ((sI u2.2 54 ((sI u1.2 53 (u0.1 52 1).toNatClampNeg u1.1).1 52 1).toNatClampNeg u2.1).1 52 1).toNatClampNeg u3.1).1 52 1).toInt < (16 : Nat)) ((cV sO (d + 5) 53 [.ref 5] (sI u4.2 56 ((sI u3.2 55 ((sI u2.2 54 ((sI u1.2 53 (u0.1 52 1).toNatClampNeg u1.1).1 52 1).toNatClampNeg u2.1).1 52 1).toNatClampNeg u3.1).1 52 1).toNatClampNeg u4.1)).bind fun u5 => some (none, (sI u5 52 1 ((u5.1 52 1) + (1 : Int32))))))))) else ((cV sO (d + 5) 47 [.ref 5, .int (3 : Int32)] σ).bind fun u6 => some (none, u6)) := by
  refine (E_al c_46_0 rfl (by decide)).trans ?_
  refine (E_gfi (k := 1) c_46_1 sh_52 rfl rfl rfl (by decide)).trans ?_
  refine (E_ic (v := (16 : Int32)) c_46_4 (by decide)).trans ?_
  refine (E_br_lt (q := 15) c_46_6 rfl).trans (ax_ite ?_ ?_)
  · refine (E_al c_46_15 rfl (by decide)).trans ?_
    refine (E_ls (a := 1001) c_46_16 rfl).trans ?_
    refine (E_cVV c_46_18 mi_48 rfl (sO_kl sh_5) (Nat.le_of_ble_eq_true rfl) (Nat.le_of_ble_eq_true rfl)).trans (ax_bnd fun u0 => ?_)
    refine (E_al c_46_21 rfl (by decide)).trans ?_
    refine (E_gfr (k := 2) (r := 53) c_46_22 sh_52 rfl rfl rfl).trans ?_
    refine (E_al c_46_25 rfl (by decide)).trans ?_
    refine (E_gfi (k := 1) c_46_26 sh_52 rfl rfl rfl (by decide)).trans ?_
    refine (E_al c_46_29 rfl (by decide)).trans ?_
    refine (E_ic (v := (0 : Int32)) c_46_30 (by decide)).trans ?_
    refine (E_ic (v := (3 : Int32)) c_46_31 (by decide)).trans ?_
    refine (E_cIV c_46_32 mi_50 rfl rfl (sO_kl sh_5) (Nat.le_of_ble_eq_true rfl) (Nat.le_of_ble_eq_true rfl)).trans (ax_bnd fun u1 => ?_)
    refine (E_ias (v := u1.1) c_46_35 sh_53 rfl).trans (ax_gd ?_)
    refine (E_al c_46_36 rfl (by decide)).trans ?_
    refine (E_gfr (k := 3) (r := 54) c_46_37 sh_52 rfl rfl rfl).trans ?_
    refine (E_al c_46_40 rfl (by decide)).trans ?_
    refine (E_gfi (k := 1) c_46_41 sh_52 rfl rfl rfl (by decide)).trans ?_
    refine (E_al c_46_44 rfl (by decide)).trans ?_
    refine (E_ic (v := (0 : Int32)) c_46_45 (by decide)).trans ?_
    refine (E_ic (v := (3 : Int32)) c_46_46 (by decide)).trans ?_
    refine (E_cIV c_46_47 mi_50 rfl rfl (sO_kl sh_5) (Nat.le_of_ble_eq_true rfl) (Nat.le_of_ble_eq_true rfl)).trans (ax_bnd fun u2 => ?_)
    refine (E_ias (v := u2.1) c_46_50 sh_54 rfl).trans (ax_gd ?_)
    refine (E_al c_46_51 rfl (by decide)).trans ?_
    refine (E_gfr (k := 4) (r := 55) c_46_52 sh_52 rfl rfl rfl).trans ?_
    refine (E_al c_46_55 rfl (by decide)).trans ?_
    refine (E_gfi (k := 1) c_46_56 sh_52 rfl rfl rfl (by decide)).trans ?_
    refine (E_al c_46_59 rfl (by decide)).trans ?_
    refine (E_ic (v := (1800 : Int32)) c_46_60 (by decide)).trans ?_
    refine (E_ic (v := (2000 : Int32)) c_46_63 (by decide)).trans ?_
    refine (E_cIV c_46_66 mi_50 rfl rfl (sO_kl sh_5) (Nat.le_of_ble_eq_true rfl) (Nat.le_of_ble_eq_true rfl)).trans (ax_bnd fun u3 => ?_)
    refine (E_ias (v := u3.1) c_46_69 sh_55 rfl).trans (ax_gd ?_)
    refine (E_al c_46_70 rfl (by decide)).trans ?_
    refine (E_gfr (k := 5) (r := 56) c_46_71 sh_52 rfl rfl rfl).trans ?_
    refine (E_al c_46_74 rfl (by decide)).trans ?_
    refine (E_gfi (k := 1) c_46_75 sh_52 rfl rfl rfl (by decide)).trans ?_
    refine (E_al c_46_78 rfl (by decide)).trans ?_
    refine (E_ic (v := (1 : Int32)) c_46_79 (by decide)).trans ?_
    refine (E_ic (v := (99 : Int32)) c_46_80 (by decide)).trans ?_
    refine (E_cIV c_46_82 mi_50 rfl rfl (sO_kl sh_5) (Nat.le_of_ble_eq_true rfl) (Nat.le_of_ble_eq_true rfl)).trans (ax_bnd fun u4 => ?_)
    refine (E_ias (v := u4.1) c_46_85 sh_56 rfl).trans (ax_gd ?_)
    refine (E_al c_46_86 rfl (by decide)).trans ?_
    refine (E_cVV c_46_87 mi_53 rfl (sO_kl sh_5) (Nat.le_of_ble_eq_true rfl) (Nat.le_of_ble_eq_true rfl)).trans (ax_bnd fun u5 => ?_)
    refine (E_al c_46_90 rfl (by decide)).trans ?_
    refine (E_dup c_46_91 rfl).trans ?_
    refine (E_gfi (k := 1) c_46_92 sh_52 rfl rfl rfl (by decide)).trans ?_
    refine (E_ic (v := (1 : Int32)) c_46_95 (by decide)).trans ?_
    refine (E_iadd c_46_96).trans ?_
    refine (E_pfi (k := 1) c_46_97 sh_52 rfl rfl rfl).trans ?_
    exact E_rV c_46_100 mi_46
  · refine (E_al c_46_9 rfl (by decide)).trans ?_
    refine (E_ic (v := (3 : Int32)) c_46_10 (by decide)).trans ?_
    refine (E_cVV c_46_11 mi_47 rfl (sO_kl sh_5) (Nat.le_of_ble_eq_true rfl) (Nat.le_of_ble_eq_true rfl)).trans (ax_bnd fun u6 => ?_)
    exact E_rV c_46_14 mi_46
set_option maxHeartbeats 4000000 in
theorem u_56_52_5 (d : Nat) (σ : ax_S) : ev sO (d + 6) 56 0 [.ref 52, .ref 5, .null] [] σ = (cV sO (d + 5) 48 [.ref 5, .ref 1003] σ).bind fun u0 => ev sO (d + 6) 56 8 [.ref 52, .ref 5, .int (0 : Int32)] [] u0 := by
  refine (E_al c_56_0 rfl (by decide)).trans ?_
  refine (E_ls (a := 1003) c_56_1 rfl).trans ?_
  refine (E_cVV c_56_3 mi_48 rfl (sO_kl sh_5) (Nat.le_of_ble_eq_true rfl) (Nat.le_of_ble_eq_true rfl)).trans (ax_bnd fun u0 => ?_)
  refine (E_ic (v := (0 : Int32)) c_56_6 (by decide)).trans ?_
  refine (E_is (L' := [.ref 52, .ref 5, .int (0 : Int32)]) c_56_7 (Nat.le_of_ble_eq_true rfl) rfl).trans ?_
  rfl
set_option maxHeartbeats 4000000 in
theorem u_56_52_5p8 (d : Nat) (σ : ax_S) (x2 : Int32) : ev sO (d + 6) 56 8 [.ref 52, .ref 5, .int x2] [] σ = if x2 < (8 : Int32) then ((cI sO (d + 5) 50 [.ref 5, .int (0 : Int32), .int (9 : Int32)] σ).bind fun u0 => gd (0 ≤ x2.toInt ∧ x2.toInt < (8 : Nat)) (ev sO (d + 6) 56 8 [.ref 52, .ref 5, .int (x2 + (1 : Int32))] [] (sI u0.2 60 x2.toNatClampNeg u0.1))) else ((cI sO (d + 5) 50 [.ref 5, .int (0 : Int32), .int (9 : Int32)] σ).bind fun u1 => (cI sO (d + 5) 50 [.ref 5, .int (0 : Int32), .int (99 : Int32)] (sI u1.2 52 11 u1.1)).bind fun u2 => (cI sO (d + 5) 50 [.ref 5, .int (0 : Int32), .int (99 : Int32)] (sI u2.2 52 12 u2.1)).bind fun u3 => (cI sO (d + 5) 50 [.ref 5, .int (0 : Int32), .int (9999 : Int32)] (sI u3.2 52 13 u3.1)).bind fun u4 => (cV sO (d + 5) 53 [.ref 5] (sI u4.2 52 14 u4.1)).bind fun u5 => some (none, u5)) := by
  refine (E_il c_56_8 rfl).trans ?_
  refine (E_ic (v := (8 : Int32)) c_56_9 (by decide)).trans ?_
  refine (E_br_ge (q := 33) c_56_11 rfl).trans (ax_ite ?_ ?_)
  · refine (E_al c_56_14 rfl (by decide)).trans ?_
    refine (E_gfr (k := 10) (r := 60) c_56_15 sh_52 rfl rfl rfl).trans ?_
    refine (E_il c_56_18 rfl).trans ?_
    refine (E_al c_56_19 rfl (by decide)).trans ?_
    refine (E_ic (v := (0 : Int32)) c_56_20 (by decide)).trans ?_
    refine (E_ic (v := (9 : Int32)) c_56_21 (by decide)).trans ?_
    refine (E_cIV c_56_23 mi_50 rfl rfl (sO_kl sh_5) (Nat.le_of_ble_eq_true rfl) (Nat.le_of_ble_eq_true rfl)).trans (ax_bnd fun u0 => ?_)
    refine (E_ias (v := u0.1) c_56_26 sh_60 rfl).trans (ax_gd ?_)
    refine (E_inc (v := (1 : Int32)) (L' := [.ref 52, .ref 5, .int (x2 + (1 : Int32))]) c_56_27 rfl (by decide) rfl).trans ?_
    refine (E_goto (q := 8) c_56_30 rfl).trans ?_
    rfl
  · refine (E_al c_56_33 rfl (by decide)).trans ?_
    refine (E_al c_56_34 rfl (by decide)).trans ?_
    refine (E_ic (v := (0 : Int32)) c_56_35 (by decide)).trans ?_
    refine (E_ic (v := (9 : Int32)) c_56_36 (by decide)).trans ?_
    refine (E_cIV c_56_38 mi_50 rfl rfl (sO_kl sh_5) (Nat.le_of_ble_eq_true rfl) (Nat.le_of_ble_eq_true rfl)).trans (ax_bnd fun u1 => ?_)
    refine (E_pfi (k := 11) c_56_41 sh_52 rfl rfl rfl).trans ?_
    refine (E_al c_56_44 rfl (by decide)).trans ?_
    refine (E_al c_56_45 rfl (by decide)).trans ?_
    refine (E_ic (v := (0 : Int32)) c_56_46 (by decide)).trans ?_
    refine (E_ic (v := (99 : Int32)) c_56_47 (by decide)).trans ?_
    refine (E_cIV c_56_49 mi_50 rfl rfl (sO_kl sh_5) (Nat.le_of_ble_eq_true rfl) (Nat.le_of_ble_eq_true rfl)).trans (ax_bnd fun u2 => ?_)
    refine (E_pfi (k := 12) c_56_52 sh_52 rfl rfl rfl).trans ?_
    refine (E_al c_56_55 rfl (by decide)).trans ?_
    refine (E_al c_56_56 rfl (by decide)).trans ?_
    refine (E_ic (v := (0 : Int32)) c_56_57 (by decide)).trans ?_
    refine (E_ic (v := (99 : Int32)) c_56_58 (by decide)).trans ?_
    refine (E_cIV c_56_60 mi_50 rfl rfl (sO_kl sh_5) (Nat.le_of_ble_eq_true rfl) (Nat.le_of_ble_eq_true rfl)).trans (ax_bnd fun u3 => ?_)
    refine (E_pfi (k := 13) c_56_63 sh_52 rfl rfl rfl).trans ?_
    refine (E_al c_56_66 rfl (by decide)).trans ?_
    refine (E_al c_56_67 rfl (by decide)).trans ?_
    refine (E_ic (v := (0 : Int32)) c_56_68 (by decide)).trans ?_
    refine (E_ic (v := (9999 : Int32)) c_56_69 (by decide)).trans ?_
    refine (E_cIV c_56_72 mi_50 rfl rfl (sO_kl sh_5) (Nat.le_of_ble_eq_true rfl) (Nat.le_of_ble_eq_true rfl)).trans (ax_bnd fun u4 => ?_)
    refine (E_pfi (k := 14) c_56_75 sh_52 rfl rfl rfl).trans ?_
    refine (E_al c_56_78 rfl (by decide)).trans ?_
    refine (E_cVV c_56_79 mi_53 rfl (sO_kl sh_5) (Nat.le_of_ble_eq_true rfl) (Nat.le_of_ble_eq_true rfl)).trans (ax_bnd fun u5 => ?_)
    exact E_rV c_56_82 mi_56
set_option maxHeartbeats 4000000 in
theorem u_57_5 (d : Nat) (σ : ax_S) : ev sO (d + 1) 57 0 [.ref 5] [] σ = (cI sO d 58 [.ref 5] σ).bind fun u0 => if u0.1 = 0 then ((cV sO d 47 [.ref 5, .int (1 : Int32)] u0.2).bind fun u1 => some (none, u1)) else (some (none, u0.2)) := by
  refine (E_al c_57_0 rfl (by decide)).trans ?_
  refine (E_cIV c_57_1 mi_58 rfl rfl (sO_kl sh_5) (Nat.le_of_ble_eq_true rfl) (Nat.le_of_ble_eq_true rfl)).trans (ax_bnd fun u0 => ?_)
  refine (E_b0_ne (q := 12) c_57_4 rfl).trans (ax_ite ?_ ?_)
  · refine (E_al c_57_7 rfl (by decide)).trans ?_
    refine (E_ic (v := (1 : Int32)) c_57_8 (by decide)).trans ?_
    refine (E_cVV c_57_9 mi_47 rfl (sO_kl sh_5) (Nat.le_of_ble_eq_true rfl) (Nat.le_of_ble_eq_true rfl)).trans (ax_bnd fun u1 => ?_)
    exact E_rV c_57_12 mi_57
  · exact E_rV c_57_12 mi_57
set_option maxHeartbeats 4000000 in
theorem u_59_5 (d : Nat) (σ : ax_S) : ev sO d 59 0 [.ref 5] [] σ = some (some (.int ((σ.1 5 4) &&& 1)), σ) := by
  refine (E_al c_59_0 rfl (by decide)).trans ?_
  refine (E_gfi (k := 4) c_59_1 sh_5 rfl rfl rfl (by decide)).trans ?_
  exact E_rZ (v := ((σ.1 5 4) &&& 1)) c_59_4 mi_59 rfl
set_option maxHeartbeats 4000000 in
theorem u_38_5_1002 (d : Nat) (σ : ax_S) : ev sO (d + 4) 38 0 [.ref 5, .ref 1002, .null] [] σ = if (σ.1 5 5) = (1 : Int32) then ((cI sO (d + 3) 39 [.ref 1002] σ).bind fun u0 => if u0.1 = ((u0.2.1 5 7) - (u0.2.1 5 6)) then (ev sO (d + 4) 38 28 [.ref 5, .ref 1002, .int (0 : Int32)] [] u0.2) else (some (some (.int (0 : Int32)), u0.2))) else (some (some (.int (0 : Int32)), σ)) := by
  refine (E_al c_38_0 rfl (by decide)).trans ?_
  refine (E_gfi (k := 5) c_38_1 sh_5 rfl rfl rfl (by decide)).trans ?_
  refine (E_ic (v := (1 : Int32)) c_38_4 (by decide)).trans ?_
  refine (E_br_ne (q := 24) c_38_5 rfl).trans (ax_ite ?_ ?_)
  · refine (E_al c_38_8 rfl (by decide)).trans ?_
    refine (E_cIV c_38_9 mi_39 rfl rfl (sO_kls (by decide)) (Nat.le_of_ble_eq_true rfl) (Nat.le_of_ble_eq_true rfl)).trans (ax_bnd fun u0 => ?_)
    refine (E_al c_38_12 rfl (by decide)).trans ?_
    refine (E_gfi (k := 7) c_38_13 sh_5 rfl rfl rfl (by decide)).trans ?_
    refine (E_al c_38_16 rfl (by decide)).trans ?_
    refine (E_gfi (k := 6) c_38_17 sh_5 rfl rfl rfl (by decide)).trans ?_
    refine (E_isub c_38_20).trans ?_
    refine (E_br_eq (q := 26) c_38_21 rfl).trans (ax_ite ?_ ?_)
    · refine (E_ic (v := (0 : Int32)) c_38_26 (by decide)).trans ?_
      refine (E_is (L' := [.ref 5, .ref 1002, .int (0 : Int32)]) c_38_27 (Nat.le_of_ble_eq_true rfl) rfl).trans ?_
      rfl
    · refine (E_ic (v := (0 : Int32)) c_38_24 (by decide)).trans ?_
      exact E_rZ (v := (0 : Int32)) c_38_25 mi_38 (by decide)
  · refine (E_ic (v := (0 : Int32)) c_38_24 (by decide)).trans ?_
    exact E_rZ (v := (0 : Int32)) c_38_25 mi_38 (by decide)
set_option maxHeartbeats 4000000 in
theorem u_38_5_1002p28 (d : Nat) (σ : ax_S) (x2 : Int32) : ev sO (d + 4) 38 28 [.ref 5, .ref 1002, .int x2] [] σ = (cI sO (d + 3) 39 [.ref 1002] σ).bind fun u0 => if x2 < u0.1 then ((cI sO (d + 3) 34 [.ref 5, .int ((u0.2.1 5 6) + x2)] u0.2).bind fun u1 => (cI sO (d + 3) 41 [.ref 1002, .int x2] u1.2).bind fun u2 => if u1.1 = u2.1 then (ev sO (d + 4) 38 28 [.ref 5, .ref 1002, .int (x2 + (1 : Int32))] [] u2.2) else (some (some (.int (0 : Int32)), u2.2))) else (some (some (.int (1 : Int32)), u0.2)) := by
  refine (E_il c_38_28 rfl).trans ?_
  refine (E_al c_38_29 rfl (by decide)).trans ?_
  refine (E_cIV c_38_30 mi_39 rfl rfl (sO_kls (by decide)) (Nat.le_of_ble_eq_true rfl) (Nat.le_of_ble_eq_true rfl)).trans (ax_bnd fun u0 => ?_)
  refine (E_br_ge (q := 62) c_38_33 rfl).trans (ax_ite ?_ ?_)
  · refine (E_al c_38_36 rfl (by decide)).trans ?_
    refine (E_al c_38_37 rfl (by decide)).trans ?_
    refine (E_gfi (k := 6) c_38_38 sh_5 rfl rfl rfl (by decide)).trans ?_
    refine (E_il c_38_41 rfl).trans ?_
    refine (E_iadd c_38_42).trans ?_
    refine (E_cIV c_38_43 mi_34 rfl rfl (sO_kl sh_5) (Nat.le_of_ble_eq_true rfl) (Nat.le_of_ble_eq_true rfl)).trans (ax_bnd fun u1 => ?_)
    refine (E_al c_38_46 rfl (by decide)).trans ?_
    refine (E_il c_38_47 rfl).trans ?_
    refine (E_cIV c_38_48 mi_41 rfl rfl (sO_kls (by decide)) (Nat.le_of_ble_eq_true rfl) (Nat.le_of_ble_eq_true rfl)).trans (ax_bnd fun u2 => ?_)
    refine (E_br_eq (q := 56) c_38_51 rfl).trans (ax_ite ?_ ?_)
    · refine (E_inc (v := (1 : Int32)) (L' := [.ref 5, .ref 1002, .int (x2 + (1 : Int32))]) c_38_56 rfl (by decide) rfl).trans ?_
      refine (E_goto (q := 28) c_38_59 rfl).trans ?_
      rfl
    · refine (E_ic (v := (0 : Int32)) c_38_54 (by decide)).trans ?_
      exact E_rZ (v := (0 : Int32)) c_38_55 mi_38 (by decide)
  · refine (E_ic (v := (1 : Int32)) c_38_62 (by decide)).trans ?_
    exact E_rZ (v := (1 : Int32)) c_38_63 mi_38 (by decide)
set_option maxHeartbeats 4000000 in
theorem u_55_52_5 (d : Nat) (σ : ax_S) : ev sO (d + 6) 55 0 [.ref 52, .ref 5] [] σ = if (σ.1 52 6) < (8 : Int32) then ((cV sO (d + 5) 48 [.ref 5, .ref 1002] σ).bind fun u0 => (cI sO (d + 5) 50 [.ref 5, .int (0 : Int32), .int (7 : Int32)] u0).bind fun u1 => gd (0 ≤ (u0.1 52 6).toInt ∧ (u0.1 52 6).toInt < (8 : Nat)) ((cI sO (d + 5) 50 [.ref 5, .int (1800 : Int32), .int (2000 : Int32)] (sI u1.2 57 (u0.1 52 6).toNatClampNeg u1.1)).bind fun u2 => gd (0 ≤ ((sI u1.2 57 (u0.1 52 6).toNatClampNeg u1.1).1 52 6).toInt ∧ ((sI u1.2 57 (u0.1 52 6).toNatClampNeg u1.1).1 52 6).toInt < (8 : Nat)) (gd (0 ≤ ((sI u2.2 58 ((sI u1.2 57 (u0.1 52 6).toNatClampNeg u1.1).1 52 6).toNatClampNeg u2.1).1 52 6).toInt ∧ ((sI u2.2 58 ((sI u1.2 57 (u0.1 52 6).toNatClampNeg u1.1).1 52 6).toNatClampNeg u2.1).1 52 6).toInt < (8 : Nat)) ((cI sO (d + 5) 50 [.ref 5, .int ((sI u2.2 58 ((sI u1.2 57 (u0.1 52 6).toNatClampNeg u1.1).1 52 6).toNatClampNeg u2.1).1 58 ((sI u2.2 58 ((sI u1.2 57 (u0.1 52 6).toNatClampNeg u1.1).1 52 6).toNatClampNeg u2.1).1 52 6).toNatClampNeg), .int (2000 : Int32)] (sI u2.2 58 ((sI u1.2 57 (u0.1 52 6).toNatClampNeg u1.1).1 52 6).toNatClampNeg u2.1)).bind fun u3 => gd (0 ≤ ((sI u2.2 58 ((sI u1.2 57 (u0.1 52 6).toNatClampNeg u1.1).1 52 6).toNatClampNeg u2.1).1 52 6).toInt ∧ ((sI u2.2 58 ((sI u1.2 57 (u0.1 52 6).toNatClampNeg u1.1).1 52 6).toNatClampNeg u2.1).1 52 6).toInt < (8 : Nat)) ((cV sO (d + 5) 53 [.ref 5] (sI u3.2 59 ((sI u2.2 58 ((sI u1.2 57 (u0.1 52 6).toNatClampNeg u1.1).1 52 6).toNatClampNeg u2.1).1 52 6).toNatClampNeg u3.1)).bind fun u4 => some (none, (sI u4 52 6 ((u4.1 52 6) + (1 : Int32))))))))) else ((cV sO (d + 5) 47 [.ref 5, .int (3 : Int32)] σ).bind fun u5 => some (none, u5)) := by
  refine (E_al c_55_0 rfl (by decide)).trans ?_
  refine (E_gfi (k := 6) c_55_1 sh_52 rfl rfl rfl (by decide)).trans ?_
  refine (E_ic (v := (8 : Int32)) c_55_4 (by decide)).trans ?_
  refine (E_br_lt (q := 15) c_55_6 rfl).trans (ax_ite ?_ ?_)
  · refine (E_al c_55_15 rfl (by decide)).trans ?_
    refine (E_ls (a := 1002) c_55_16 rfl).trans ?_
    refine (E_cVV c_55_18 mi_48 rfl (sO_kl sh_5) (Nat.le_of_ble_eq_true rfl) (Nat.le_of_ble_eq_true rfl)).trans (ax_bnd fun u0 => ?_)
    refine (E_al c_55_21 rfl (by decide)).trans ?_
    refine (E_gfr (k := 7) (r := 57) c_55_22 sh_52 rfl rfl rfl).trans ?_
    refine (E_al c_55_25 rfl (by decide)).trans ?_
    refine (E_gfi (k := 6) c_55_26 sh_52 rfl rfl rfl (by decide)).trans ?_
    refine (E_al c_55_29 rfl (by decide)).trans ?_
    refine (E_ic (v := (0 : Int32)) c_55_30 (by decide)).trans ?_
    refine (E_ic (v := (7 : Int32)) c_55_31 (by decide)).trans ?_
    refine (E_cIV c_55_33 mi_50 rfl rfl (sO_kl sh_5) (Nat.le_of_ble_eq_true rfl) (Nat.le_of_ble_eq_true rfl)).trans (ax_bnd fun u1 => ?_)
    refine (E_ias (v := u1.1) c_55_36 sh_57 rfl).trans (ax_gd ?_)
    refine (E_al c_55_37 rfl (by decide)).trans ?_
    refine (E_gfr (k := 8) (r := 58) c_55_38 sh_52 rfl rfl rfl).trans ?_
    refine (E_al c_55_41 rfl (by decide)).trans ?_
    refine (E_gfi (k := 6) c_55_42 sh_52 rfl rfl rfl (by decide)).trans ?_
    refine (E_al c_55_45 rfl (by decide)).trans ?_
    refine (E_ic (v := (1800 : Int32)) c_55_46 (by decide)).trans ?_
    refine (E_ic (v := (2000 : Int32)) c_55_49 (by decide)).trans ?_
    refine (E_cIV c_55_52 mi_50 rfl rfl (sO_kl sh_5) (Nat.le_of_ble_eq_true rfl) (Nat.le_of_ble_eq_true rfl)).trans (ax_bnd fun u2 => ?_)
    refine (E_ias (v := u2.1) c_55_55 sh_58 rfl).trans (ax_gd ?_)
    refine (E_al c_55_56 rfl (by decide)).trans ?_
    refine (E_gfr (k := 9) (r := 59) c_55_57 sh_52 rfl rfl rfl).trans ?_
    refine (E_al c_55_60 rfl (by decide)).trans ?_
    refine (E_gfi (k := 6) c_55_61 sh_52 rfl rfl rfl (by decide)).trans ?_
    refine (E_al c_55_64 rfl (by decide)).trans ?_
    refine (E_al c_55_65 rfl (by decide)).trans ?_
    refine (E_gfr (k := 8) (r := 58) c_55_66 sh_52 rfl rfl rfl).trans ?_
    refine (E_al c_55_69 rfl (by decide)).trans ?_
    refine (E_gfi (k := 6) c_55_70 sh_52 rfl rfl rfl (by decide)).trans ?_
    refine (E_ial c_55_73 sh_58).trans (ax_gd ?_)
    refine (E_ic (v := (2000 : Int32)) c_55_74 (by decide)).trans ?_
    refine (E_cIV c_55_77 mi_50 rfl rfl (sO_kl sh_5) (Nat.le_of_ble_eq_true rfl) (Nat.le_of_ble_eq_true rfl)).trans (ax_bnd fun u3 => ?_)
    refine (E_ias (v := u3.1) c_55_80 sh_59 rfl).trans (ax_gd ?_)
    refine (E_al c_55_81 rfl (by decide)).trans ?_
    refine (E_cVV c_55_82 mi_53 rfl (sO_kl sh_5) (Nat.le_of_ble_eq_true rfl) (Nat.le_of_ble_eq_true rfl)).trans (ax_bnd fun u4 => ?_)
    refine (E_al c_55_85 rfl (by decide)).trans ?_
    refine (E_dup c_55_86 rfl).trans ?_
    refine (E_gfi (k := 6) c_55_87 sh_52 rfl rfl rfl (by decide)).trans ?_
    refine (E_ic (v := (1 : Int32)) c_55_90 (by decide)).trans ?_
    refine (E_iadd c_55_91).trans ?_
    refine (E_pfi (k := 6) c_55_92 sh_52 rfl rfl rfl).trans ?_
    exact E_rV c_55_95 mi_55
  · refine (E_al c_55_9 rfl (by decide)).trans ?_
    refine (E_ic (v := (3 : Int32)) c_55_10 (by decide)).trans ?_
    refine (E_cVV c_55_11 mi_47 rfl (sO_kl sh_5) (Nat.le_of_ble_eq_true rfl) (Nat.le_of_ble_eq_true rfl)).trans (ax_bnd fun u5 => ?_)
    exact E_rV c_55_14 mi_55
set_option maxHeartbeats 4000000 in
theorem u_206_82 (d : Nat) (σ : ax_S) : ev sO (d + 1) 206 0 [.ref 82, .null] [] σ = (cI sO d 207 [.ref 82, .int (σ.1 82 13)] σ).bind fun u0 => if u0.1 = (32 : Int32) then (ev sO (d + 1) 206 0 [.ref 82, .null] [] (sI u0.2 82 13 ((u0.2.1 82 13) + (1 : Int32)))) else ((cI sO d 207 [.ref 82, .int (u0.2.1 82 13)] u0.2).bind fun u1 => if u1.1 = (10 : Int32) then (ev sO (d + 1) 206 0 [.ref 82, .null] [] (sI u1.2 82 13 ((u1.2.1 82 13) + (1 : Int32)))) else ((cI sO d 207 [.ref 82, .int ((sI u1.2 82 15 (u1.2.1 82 13)).1 82 13)] (sI u1.2 82 15 (u1.2.1 82 13))).bind fun u2 => if u2.1 = (-1000000 : Int32) then (some (none, (sI (sI u2.2 82 14 (1 : Int32)) 82 16 ((sI u2.2 82 14 (1 : Int32)).1 82 13)))) else ((cI sO d 208 [.int u2.1] u2.2).bind fun u3 => if u3.1 = 0 then ((cI sO d 209 [.int u2.1] u3.2).bind fun u4 => if u4.1 = 0 then (if u2.1 = (59 : Int32) then (some (none, (sI (sI (sI u4.2 82 13 ((u4.2.1 82 13) + (1 : Int32))) 82 14 (4 : Int32)) 82 16 ((sI (sI u4.2 82 13 ((u4.2.1 82 13) + (1 : Int32))) 82 14 (4 : Int32)).1 82 13)))) else (if u2.1 = (63 : Int32) then (some (none, (sI (sI (sI u4.2 82 13 ((u4.2.1 82 13) + (1 : Int32))) 82 14 (5 : Int32)) 82 16 ((sI (sI u4.2 82 13 ((u4.2.1 82 13) + (1 : Int32))) 82 14 (5 : Int32)).1 82 13)))) else (some (none, (sI (sI (sI u4.2 82 13 ((u4.2.1 82 13) + (1 : Int32))) 82 14 (0 : Int32)) 82 16 ((sI (sI u4.2 82 13 ((u4.2.1 82 13) + (1 : Int32))) 82 14 (0 : Int32)).1 82 13)))))) else (ev sO (d + 1) 206 119 [.ref 82, .int u2.1] [] u4.2)) else (ev sO (d + 1) 206 77 [.ref 82, .int u2.1] [] u3.2)))) := by
  refine (E_al c_206_0 rfl (by decide)).trans ?_
  refine (E_al c_206_1 rfl (by decide)).trans ?_
  refine (E_gfi (k := 13) c_206_2 sh_82 rfl rfl rfl (by decide)).trans ?_
  refine (E_cIV c_206_5 mi_207 rfl rfl (sO_kl sh_82) (Nat.le_of_ble_eq_true rfl) (Nat.le_of_ble_eq_true rfl)).trans (ax_bnd fun u0 => ?_)
  refine (E_ic (v := (32 : Int32)) c_206_8 (by decide)).trans ?_
  refine (E_br_eq (q := 26) c_206_10 rfl).trans (ax_ite ?_ ?_)
  · refine (E_al c_206_26 rfl (by decide)).trans ?_
    refine (E_dup c_206_27 rfl).trans ?_
    refine (E_gfi (k := 13) c_206_28 sh_82 rfl rfl rfl (by decide)).trans ?_
    refine (E_ic (v := (1 : Int32)) c_206_31 (by decide)).trans ?_
    refine (E_iadd c_206_32).trans ?_
    refine (E_pfi (k := 13) c_206_33 sh_82 rfl rfl rfl).trans ?_
    refine (E_goto (q := 0) c_206_36 rfl).trans ?_
    rfl
  · refine (E_al c_206_13 rfl (by decide)).trans ?_
    refine (E_al c_206_14 rfl (by decide)).trans ?_
    refine (E_gfi (k := 13) c_206_15 sh_82 rfl rfl rfl (by decide)).trans ?_
    refine (E_cIV c_206_18 mi_207 rfl rfl (sO_kl sh_82) (Nat.le_of_ble_eq_true rfl) (Nat.le_of_ble_eq_true rfl)).trans (ax_bnd fun u1 => ?_)
    refine (E_ic (v := (10 : Int32)) c_206_21 (by decide)).trans ?_
    refine (E_br_ne (q := 39) c_206_23 rfl).trans (ax_ite ?_ ?_)
    · refine (E_al c_206_26 rfl (by decide)).trans ?_
      refine (E_dup c_206_27 rfl).trans ?_
      refine (E_gfi (k := 13) c_206_28 sh_82 rfl rfl rfl (by decide)).trans ?_
      refine (E_ic (v := (1 : Int32)) c_206_31 (by decide)).trans ?_
      refine (E_iadd c_206_32).trans ?_
      refine (E_pfi (k := 13) c_206_33 sh_82 rfl rfl rfl).trans ?_
      refine (E_goto (q := 0) c_206_36 rfl).trans ?_
      rfl
    · refine (E_al c_206_39 rfl (by decide)).trans ?_
      refine (E_al c_206_40 rfl (by decide)).trans ?_
      refine (E_gfi (k := 13) c_206_41 sh_82 rfl rfl rfl (by decide)).trans ?_
      refine (E_pfi (k := 15) c_206_44 sh_82 rfl rfl rfl).trans ?_
      refine (E_al c_206_47 rfl (by decide)).trans ?_
      refine (E_al c_206_48 rfl (by decide)).trans ?_
      refine (E_gfi (k := 13) c_206_49 sh_82 rfl rfl rfl (by decide)).trans ?_
      refine (E_cIV c_206_52 mi_207 rfl rfl (sO_kl sh_82) (Nat.le_of_ble_eq_true rfl) (Nat.le_of_ble_eq_true rfl)).trans (ax_bnd fun u2 => ?_)
      refine (E_is (L' := [.ref 82, .int u2.1]) c_206_55 (Nat.le_of_ble_eq_true rfl) rfl).trans ?_
      refine (E_il c_206_56 rfl).trans ?_
      refine (E_ic (v := (-1000000 : Int32)) c_206_57 (by decide)).trans ?_
      refine (E_br_ne (q := 70) c_206_59 rfl).trans (ax_ite ?_ ?_)
      · refine (E_al c_206_62 rfl (by decide)).trans ?_
        refine (E_ic (v := (1 : Int32)) c_206_63 (by decide)).trans ?_
        refine (E_pfi (k := 14) c_206_64 sh_82 rfl rfl rfl).trans ?_
        refine (E_goto (q := 206) c_206_67 rfl).trans ?_
        refine (E_al c_206_206 rfl (by decide)).trans ?_
        refine (E_al c_206_207 rfl (by decide)).trans ?_
        refine (E_gfi (k := 13) c_206_208 sh_82 rfl rfl rfl (by decide)).trans ?_
        refine (E_pfi (k := 16) c_206_211 sh_82 rfl rfl rfl).trans ?_
        exact E_rV c_206_214 mi_206
      · refine (E_il c_206_70 rfl).trans ?_
        refine (E_cIS c_206_71 mi_208 rfl rfl (Nat.le_of_ble_eq_true rfl) (Nat.le_of_ble_eq_true rfl)).trans (ax_bnd fun u3 => ?_)
        refine (E_b0_eq (q := 112) c_206_74 rfl).trans (ax_ite ?_ ?_)
        · refine (E_il c_206_112 rfl).trans ?_
          refine (E_cIS c_206_113 mi_209 rfl rfl (Nat.le_of_ble_eq_true rfl) (Nat.le_of_ble_eq_true rfl)).trans (ax_bnd fun u4 => ?_)
          refine (E_b0_eq (q := 171) c_206_116 rfl).trans (ax_ite ?_ ?_)
          · refine (E_al c_206_171 rfl (by decide)).trans ?_
            refine (E_dup c_206_172 rfl).trans ?_
            refine (E_gfi (k := 13) c_206_173 sh_82 rfl rfl rfl (by decide)).trans ?_
            refine (E_ic (v := (1 : Int32)) c_206_176 (by decide)).trans ?_
            refine (E_iadd c_206_177).trans ?_
            refine (E_pfi (k := 13) c_206_178 sh_82 rfl rfl rfl).trans ?_
            refine (E_al c_206_181 rfl (by decide)).trans ?_
            refine (E_il c_206_182 rfl).trans ?_
            refine (E_ic (v := (59 : Int32)) c_206_183 (by decide)).trans ?_
            refine (E_br_ne (q := 192) c_206_185 rfl).trans (ax_ite ?_ ?_)
            · refine (E_ic (v := (4 : Int32)) c_206_188 (by decide)).trans ?_
              refine (E_goto (q := 203) c_206_189 rfl).trans ?_
              refine (E_pfi (k := 14) c_206_203 sh_82 rfl rfl rfl).trans ?_
              refine (E_al c_206_206 rfl (by decide)).trans ?_
              refine (E_al c_206_207 rfl (by decide)).trans ?_
              refine (E_gfi (k := 13) c_206_208 sh_82 rfl rfl rfl (by decide)).trans ?_
              refine (E_pfi (k := 16) c_206_211 sh_82 rfl rfl rfl).trans ?_
              exact E_rV c_206_214 mi_206
            · refine (E_il c_206_192 rfl).trans ?_
              refine (E_ic (v := (63 : Int32)) c_206_193 (by decide)).trans ?_
              refine (E_br_ne (q := 202) c_206_195 rfl).trans (ax_ite ?_ ?_)
              · refine (E_ic (v := (5 : Int32)) c_206_198 (by decide)).trans ?_
                refine (E_goto (q := 203) c_206_199 rfl).trans ?_
                refine (E_pfi (k := 14) c_206_203 sh_82 rfl rfl rfl).trans ?_
                refine (E_al c_206_206 rfl (by decide)).trans ?_
                refine (E_al c_206_207 rfl (by decide)).trans ?_
                refine (E_gfi (k := 13) c_206_208 sh_82 rfl rfl rfl (by decide)).trans ?_
                refine (E_pfi (k := 16) c_206_211 sh_82 rfl rfl rfl).trans ?_
                exact E_rV c_206_214 mi_206
              · refine (E_ic (v := (0 : Int32)) c_206_202 (by decide)).trans ?_
                refine (E_pfi (k := 14) c_206_203 sh_82 rfl rfl rfl).trans ?_
                refine (E_al c_206_206 rfl (by decide)).trans ?_
                refine (E_al c_206_207 rfl (by decide)).trans ?_
                refine (E_gfi (k := 13) c_206_208 sh_82 rfl rfl rfl (by decide)).trans ?_
                refine (E_pfi (k := 16) c_206_211 sh_82 rfl rfl rfl).trans ?_
                exact E_rV c_206_214 mi_206
          · rfl
        · rfl
set_option maxHeartbeats 4000000 in
theorem u_206_82p119 (d : Nat) (σ : ax_S) (w1 : Value) (hw1 : w1.category = 1) : ev sO (d + 1) 206 119 [.ref 82, w1] [] σ = (cI sO d 207 [.ref 82, .int (σ.1 82 13)] σ).bind fun u0 => (cI sO d 209 [.int u0.1] u0.2).bind fun u1 => if u1.1 = 0 then (if (4 : Int32) < ((u1.2.1 82 13) - (u1.2.1 82 15)) then (some (none, (sI (sI u1.2 82 14 (0 : Int32)) 82 16 ((sI u1.2 82 14 (0 : Int32)).1 82 13)))) else (some (none, (sI (sI u1.2 82 14 (3 : Int32)) 82 16 ((sI u1.2 82 14 (3 : Int32)).1 82 13))))) else (ev sO (d + 1) 206 119 [.ref 82, w1] [] (sI u1.2 82 13 ((u1.2.1 82 13) + (1 : Int32)))) := by
  refine (E_al c_206_119 rfl (by decide)).trans ?_
  refine (E_al c_206_120 rfl (by decide)).trans ?_
  refine (E_gfi (k := 13) c_206_121 sh_82 rfl rfl rfl (by decide)).trans ?_
  refine (E_cIV c_206_124 mi_207 rfl rfl (sO_kl sh_82) (Nat.le_of_ble_eq_true rfl) (Nat.le_of_ble_eq_true rfl)).trans (ax_bnd fun u0 => ?_)
  refine (E_cIS c_206_127 mi_209 rfl rfl (Nat.le_of_ble_eq_true rfl) (Nat.le_of_ble_eq_true rfl)).trans (ax_bnd fun u1 => ?_)
  refine (E_b0_eq (q := 146) c_206_130 rfl).trans (ax_ite ?_ ?_)
  · refine (E_al c_206_146 rfl (by decide)).trans ?_
    refine (E_al c_206_147 rfl (by decide)).trans ?_
    refine (E_gfi (k := 13) c_206_148 sh_82 rfl rfl rfl (by decide)).trans ?_
    refine (E_al c_206_151 rfl (by decide)).trans ?_
    refine (E_gfi (k := 15) c_206_152 sh_82 rfl rfl rfl (by decide)).trans ?_
    refine (E_isub c_206_155).trans ?_
    refine (E_ic (v := (4 : Int32)) c_206_156 (by decide)).trans ?_
    refine (E_br_le (q := 164) c_206_157 rfl).trans (ax_ite ?_ ?_)
    · refine (E_ic (v := (0 : Int32)) c_206_160 (by decide)).trans ?_
      refine (E_goto (q := 165) c_206_161 rfl).trans ?_
      refine (E_pfi (k := 14) c_206_165 sh_82 rfl rfl rfl).trans ?_
      refine (E_goto (q := 206) c_206_168 rfl).trans ?_
      refine (E_al c_206_206 rfl (by decide)).trans ?_
      refine (E_al c_206_207 rfl (by decide)).trans ?_
      refine (E_gfi (k := 13) c_206_208 sh_82 rfl rfl rfl (by decide)).trans ?_
      refine (E_pfi (k := 16) c_206_211 sh_82 rfl rfl rfl).trans ?_
      exact E_rV c_206_214 mi_206
    · refine (E_ic (v := (3 : Int32)) c_206_164 (by decide)).trans ?_
      refine (E_pfi (k := 14) c_206_165 sh_82 rfl rfl rfl).trans ?_
      refine (E_goto (q := 206) c_206_168 rfl).trans ?_
      refine (E_al c_206_206 rfl (by decide)).trans ?_
      refine (E_al c_206_207 rfl (by decide)).trans ?_
      refine (E_gfi (k := 13) c_206_208 sh_82 rfl rfl rfl (by decide)).trans ?_
      refine (E_pfi (k := 16) c_206_211 sh_82 rfl rfl rfl).trans ?_
      exact E_rV c_206_214 mi_206
  · refine (E_al c_206_133 rfl (by decide)).trans ?_
    refine (E_dup c_206_134 rfl).trans ?_
    refine (E_gfi (k := 13) c_206_135 sh_82 rfl rfl rfl (by decide)).trans ?_
    refine (E_ic (v := (1 : Int32)) c_206_138 (by decide)).trans ?_
    refine (E_iadd c_206_139).trans ?_
    refine (E_pfi (k := 13) c_206_140 sh_82 rfl rfl rfl).trans ?_
    refine (E_goto (q := 119) c_206_143 rfl).trans ?_
    rfl
set_option maxHeartbeats 4000000 in
theorem u_206_82p77 (d : Nat) (σ : ax_S) (w1 : Value) (hw1 : w1.category = 1) : ev sO (d + 1) 206 77 [.ref 82, w1] [] σ = (cI sO d 207 [.ref 82, .int (σ.1 82 13)] σ).bind fun u0 => (cI sO d 208 [.int u0.1] u0.2).bind fun u1 => if u1.1 = 0 then (some (none, (sI (sI u1.2 82 14 (2 : Int32)) 82 16 ((sI u1.2 82 14 (2 : Int32)).1 82 13)))) else (ev sO (d + 1) 206 77 [.ref 82, w1] [] (sI u1.2 82 13 ((u1.2.1 82 13) + (1 : Int32)))) := by
  refine (E_al c_206_77 rfl (by decide)).trans ?_
  refine (E_al c_206_78 rfl (by decide)).trans ?_
  refine (E_gfi (k := 13) c_206_79 sh_82 rfl rfl rfl (by decide)).trans ?_
  refine (E_cIV c_206_82 mi_207 rfl rfl (sO_kl sh_82) (Nat.le_of_ble_eq_true rfl) (Nat.le_of_ble_eq_true rfl)).trans (ax_bnd fun u0 => ?_)
  refine (E_cIS c_206_85 mi_208 rfl rfl (Nat.le_of_ble_eq_true rfl) (Nat.le_of_ble_eq_true rfl)).trans (ax_bnd fun u1 => ?_)
  refine (E_b0_eq (q := 104) c_206_88 rfl).trans (ax_ite ?_ ?_)
  · refine (E_al c_206_104 rfl (by decide)).trans ?_
    refine (E_ic (v := (2 : Int32)) c_206_105 (by decide)).trans ?_
    refine (E_pfi (k := 14) c_206_106 sh_82 rfl rfl rfl).trans ?_
    refine (E_goto (q := 206) c_206_109 rfl).trans ?_
    refine (E_al c_206_206 rfl (by decide)).trans ?_
    refine (E_al c_206_207 rfl (by decide)).trans ?_
    refine (E_gfi (k := 13) c_206_208 sh_82 rfl rfl rfl (by decide)).trans ?_
    refine (E_pfi (k := 16) c_206_211 sh_82 rfl rfl rfl).trans ?_
    exact E_rV c_206_214 mi_206
  · refine (E_al c_206_91 rfl (by decide)).trans ?_
    refine (E_dup c_206_92 rfl).trans ?_
    refine (E_gfi (k := 13) c_206_93 sh_82 rfl rfl rfl (by decide)).trans ?_
    refine (E_ic (v := (1 : Int32)) c_206_96 (by decide)).trans ?_
    refine (E_iadd c_206_97).trans ?_
    refine (E_pfi (k := 13) c_206_98 sh_82 rfl rfl rfl).trans ?_
    refine (E_goto (q := 77) c_206_101 rfl).trans ?_
    rfl
set_option maxHeartbeats 4000000 in
theorem u_212_82 (d : Nat) (σ : ax_S) (x1 : Int32) : ev sO d 212 0 [.ref 82, .int x1] [] σ = if (σ.1 82 17) = 0 then (some (none, (sI (sI σ 82 17 x1) 82 18 ((sI σ 82 17 x1).1 82 15)))) else (some (none, σ)) := by
  refine (E_al c_212_0 rfl (by decide)).trans ?_
  refine (E_gfi (k := 17) c_212_1 sh_82 rfl rfl rfl (by decide)).trans ?_
  refine (E_b0_ne (q := 20) c_212_4 rfl).trans (ax_ite ?_ ?_)
  · refine (E_al c_212_7 rfl (by decide)).trans ?_
    refine (E_il c_212_8 rfl).trans ?_
    refine (E_pfi (k := 17) c_212_9 sh_82 rfl rfl rfl).trans ?_
    refine (E_al c_212_12 rfl (by decide)).trans ?_
    refine (E_al c_212_13 rfl (by decide)).trans ?_
    refine (E_gfi (k := 15) c_212_14 sh_82 rfl rfl rfl (by decide)).trans ?_
    refine (E_pfi (k := 18) c_212_17 sh_82 rfl rfl rfl).trans ?_
    exact E_rV c_212_20 mi_212
  · exact E_rV c_212_20 mi_212
set_option maxHeartbeats 4000000 in
theorem u_215_82 (d : Nat) (σ : ax_S) : ev sO d 215 0 [.ref 82, .null, .null] [] σ = ev sO d 215 7 [.ref 82, .int (0 : Int32), .int (σ.1 82 15)] [] σ := by
  refine (E_ic (v := (0 : Int32)) c_215_0 (by decide)).trans ?_
  refine (E_is (L' := [.ref 82, .int (0 : Int32), .null]) c_215_1 (Nat.le_of_ble_eq_true rfl) rfl).trans ?_
  refine (E_al c_215_2 rfl (by decide)).trans ?_
  refine (E_gfi (k := 15) c_215_3 sh_82 rfl rfl rfl (by decide)).trans ?_
  refine (E_is (L' := [.ref 82, .int (0 : Int32), .int (σ.1 82 15)]) c_215_6 (Nat.le_of_ble_eq_true rfl) rfl).trans ?_
  rfl
set_option maxHeartbeats 4000000 in
theorem u_215_82p7 (d : Nat) (σ : ax_S) (x1 : Int32) (x2 : Int32) : ev sO d 215 7 [.ref 82, .int x1, .int x2] [] σ = if x2 < (σ.1 82 16) then (if (σ.1 82 14) = (3 : Int32) then (gd (0 ≤ x2.toInt ∧ x2.toInt < (500 : Nat)) (ev sO d 215 7 [.ref 82, .int ((((10 : Int32) * x1) + (σ.1 89 x2.toNatClampNeg)) - (48 : Int32)), .int (x2 + (1 : Int32))] [] σ)) else (some (some (.int x1), σ))) else (some (some (.int x1), σ)) := by
  refine (E_il c_215_7 rfl).trans ?_
  refine (E_al c_215_8 rfl (by decide)).trans ?_
  refine (E_gfi (k := 16) c_215_9 sh_82 rfl rfl rfl (by decide)).trans ?_
  refine (E_br_ge (q := 44) c_215_12 rfl).trans (ax_ite ?_ ?_)
  · refine (E_al c_215_15 rfl (by decide)).trans ?_
    refine (E_gfi (k := 14) c_215_16 sh_82 rfl rfl rfl (by decide)).trans ?_
    refine (E_ic (v := (3 : Int32)) c_215_19 (by decide)).trans ?_
    refine (E_br_ne (q := 44) c_215_20 rfl).trans (ax_ite ?_ ?_)
    · refine (E_ic (v := (10 : Int32)) c_215_23 (by decide)).trans ?_
      refine (E_il c_215_25 rfl).trans ?_
      refine (E_imul c_215_26).trans ?_
      refine (E_al c_215_27 rfl (by decide)).trans ?_
      refine (E_gfr (k := 9) (r := 89) c_215_28 sh_82 rfl rfl rfl).trans ?_
      refine (E_il c_215_31 rfl).trans ?_
      refine (E_ial c_215_32 sh_89).trans (ax_gd ?_)
      refine (E_iadd c_215_33).trans ?_
      refine (E_ic (v := (48 : Int32)) c_215_34 (by decide)).trans ?_
      refine (E_isub c_215_36).trans ?_
      refine (E_is (L' := [.ref 82, .int ((((10 : Int32) * x1) + (σ.1 89 x2.toNatClampNeg)) - (48 : Int32)), .int x2]) c_215_37 (Nat.le_of_ble_eq_true rfl) rfl).trans ?_
      refine (E_inc (v := (1 : Int32)) (L' := [.ref 82, .int ((((10 : Int32) * x1) + (σ.1 89 x2.toNatClampNeg)) - (48 : Int32)), .int (x2 + (1 : Int32))]) c_215_38 rfl (by decide) rfl).trans ?_
      refine (E_goto (q := 7) c_215_41 rfl).trans ?_
      rfl
    · refine (E_il c_215_44 rfl).trans ?_
      exact E_rI c_215_45 mi_215
  · refine (E_il c_215_44 rfl).trans ?_
    exact E_rI c_215_45 mi_215
set_option maxHeartbeats 4000000 in
theorem u_48_5_1004 (d : Nat) (σ : ax_S) : ev sO (d + 5) 48 0 [.ref 5, .ref 1004] [] σ = (cI sO (d + 4) 38 [.ref 5, .ref 1004] σ).bind fun u0 => (cV sO (d + 4) 49 [.ref 5, .int u0.1] u0.2).bind fun u1 => some (none, u1) := by
  refine (E_al c_48_0 rfl (by decide)).trans ?_
  refine (E_al c_48_1 rfl (by decide)).trans ?_
  refine (E_al c_48_2 rfl (by decide)).trans ?_
  refine (E_cIV c_48_3 mi_38 rfl rfl (sO_kl sh_5) (Nat.le_of_ble_eq_true rfl) (Nat.le_of_ble_eq_true rfl)).trans (ax_bnd fun u0 => ?_)
  refine (E_cVV c_48_6 mi_49 rfl (sO_kl sh_5) (Nat.le_of_ble_eq_true rfl) (Nat.le_of_ble_eq_true rfl)).trans (ax_bnd fun u1 => ?_)
  exact E_rV c_48_9 mi_48
set_option maxHeartbeats 4000000 in
theorem u_50_5 (d : Nat) (σ : ax_S) (x1 : Int32) (x2 : Int32) : ev sO (d + 3) 50 0 [.ref 5, .int x1, .int x2, .null] [] σ = (cI sO (d + 2) 51 [.ref 5, .int x1, .int x2] σ).bind fun u0 => if (u0.2.1 5 4) = 0 then ((cV sO (d + 2) 33 [.ref 5] u0.2).bind fun u1 => some (some (.int u0.1), u1)) else (some (some (.int u0.1), u0.2)) := by
  refine (E_al c_50_0 rfl (by decide)).trans ?_
  refine (E_il c_50_1 rfl).trans ?_
  refine (E_il c_50_2 rfl).trans ?_
  refine (E_cIV c_50_3 mi_51 rfl rfl (sO_kl sh_5) (Nat.le_of_ble_eq_true rfl) (Nat.le_of_ble_eq_true rfl)).trans (ax_bnd fun u0 => ?_)
  refine (E_is (L' := [.ref 5, .int x1, .int x2, .int u0.1]) c_50_6 (Nat.le_of_ble_eq_true rfl) rfl).trans ?_
  refine (E_al c_50_7 rfl (by decide)).trans ?_
  refine (E_gfi (k := 4) c_50_8 sh_5 rfl rfl rfl (by decide)).trans ?_
  refine (E_b0_ne (q := 18) c_50_11 rfl).trans (ax_ite ?_ ?_)
  · refine (E_al c_50_14 rfl (by decide)).trans ?_
    refine (E_cVV c_50_15 mi_33 rfl (sO_kl sh_5) (Nat.le_of_ble_eq_true rfl) (Nat.le_of_ble_eq_true rfl)).trans (ax_bnd fun u1 => ?_)
    refine (E_il c_50_18 rfl).trans ?_
    exact E_rI c_50_19 mi_50
  · refine (E_il c_50_18 rfl).trans ?_
    exact E_rI c_50_19 mi_50
set_option maxHeartbeats 4000000 in
theorem u_53_5 (d : Nat) (σ : ax_S) : ev sO (d + 3) 53 0 [.ref 5] [] σ = (cI sO (d + 2) 54 [.ref 5, .int (59 : Int32)] σ).bind fun u0 => (cV sO (d + 2) 49 [.ref 5, .int u0.1] u0.2).bind fun u1 => some (none, u1) := by
  refine (E_al c_53_0 rfl (by decide)).trans ?_
  refine (E_al c_53_1 rfl (by decide)).trans ?_
  refine (E_ic (v := (59 : Int32)) c_53_2 (by decide)).trans ?_
  refine (E_cIV c_53_4 mi_54 rfl rfl (sO_kl sh_5) (Nat.le_of_ble_eq_true rfl) (Nat.le_of_ble_eq_true rfl)).trans (ax_bnd fun u0 => ?_)
  refine (E_cVV c_53_7 mi_49 rfl (sO_kl sh_5) (Nat.le_of_ble_eq_true rfl) (Nat.le_of_ble_eq_true rfl)).trans (ax_bnd fun u1 => ?_)
  exact E_rV c_53_10 mi_53
set_option maxHeartbeats 4000000 in
theorem u_58_5 (d : Nat) (σ : ax_S) : ev sO d 58 0 [.ref 5] [] σ = if (σ.1 5 5) = (4 : Int32) then (some (some (.int (1 : Int32)), σ)) else (some (some (.int (0 : Int32)), σ)) := by
  refine (E_al c_58_0 rfl (by decide)).trans ?_
  refine (E_gfi (k := 5) c_58_1 sh_5 rfl rfl rfl (by decide)).trans ?_
  refine (E_ic (v := (4 : Int32)) c_58_4 (by decide)).trans ?_
  refine (E_br_ne (q := 12) c_58_5 rfl).trans (ax_ite ?_ ?_)
  · refine (E_ic (v := (1 : Int32)) c_58_8 (by decide)).trans ?_
    refine (E_goto (q := 13) c_58_9 rfl).trans ?_
    exact E_rZ (v := (1 : Int32)) c_58_13 mi_58 (by decide)
  · refine (E_ic (v := (0 : Int32)) c_58_12 (by decide)).trans ?_
    exact E_rZ (v := (0 : Int32)) c_58_13 mi_58 (by decide)
set_option maxHeartbeats 4000000 in
theorem u_71_61_5_8 (d : Nat) (σ : ax_S) : ev sO (d + 7) 71 0 [.ref 61, .ref 5, .ref 8] [] σ = (cI sO (d + 6) 38 [.ref 5, .ref 1005] σ).bind fun u0 => if u0.1 = 0 then ((cI sO (d + 6) 38 [.ref 5, .ref 1006] u0.2).bind fun u1 => if u1.1 = 0 then ((cI sO (d + 6) 38 [.ref 5, .ref 1007] u1.2).bind fun u2 => if u2.1 = 0 then ((cV sO (d + 6) 47 [.ref 5, .int (1 : Int32)] u2.2).bind fun u3 => some (none, u3)) else ((cV sO (d + 6) 77 [.ref 61, .ref 5] u2.2).bind fun u4 => some (none, u4))) else ((cV sO (d + 6) 76 [.ref 61, .ref 5] u1.2).bind fun u5 => some (none, u5))) else ((cV sO (d + 6) 72 [.ref 61, .ref 5, .ref 8] u0.2).bind fun u6 => some (none, u6)) := by
  refine (E_al c_71_0 rfl (by decide)).trans ?_
  refine (E_ls (a := 1005) c_71_1 rfl).trans ?_
  refine (E_cIV c_71_3 mi_38 rfl rfl (sO_kl sh_5) (Nat.le_of_ble_eq_true rfl) (Nat.le_of_ble_eq_true rfl)).trans (ax_bnd fun u0 => ?_)
  refine (E_b0_eq (q := 18) c_71_6 rfl).trans (ax_ite ?_ ?_)
  · refine (E_al c_71_18 rfl (by decide)).trans ?_
    refine (E_ls (a := 1006) c_71_19 rfl).trans ?_
    refine (E_cIV c_71_21 mi_38 rfl rfl (sO_kl sh_5) (Nat.le_of_ble_eq_true rfl) (Nat.le_of_ble_eq_true rfl)).trans (ax_bnd fun u1 => ?_)
    refine (E_b0_eq (q := 35) c_71_24 rfl).trans (ax_ite ?_ ?_)
    · refine (E_al c_71_35 rfl (by decide)).trans ?_
      refine (E_ls (a := 1007) c_71_36 rfl).trans ?_
      refine (E_cIV c_71_38 mi_38 rfl rfl (sO_kl sh_5) (Nat.le_of_ble_eq_true rfl) (Nat.le_of_ble_eq_true rfl)).trans (ax_bnd fun u2 => ?_)
      refine (E_b0_eq (q := 52) c_71_41 rfl).trans (ax_ite ?_ ?_)
      · refine (E_al c_71_52 rfl (by decide)).trans ?_
        refine (E_ic (v := (1 : Int32)) c_71_53 (by decide)).trans ?_
        refine (E_cVV c_71_54 mi_47 rfl (sO_kl sh_5) (Nat.le_of_ble_eq_true rfl) (Nat.le_of_ble_eq_true rfl)).trans (ax_bnd fun u3 => ?_)
        exact E_rV c_71_57 mi_71
      · refine (E_al c_71_44 rfl (by decide)).trans ?_
        refine (E_al c_71_45 rfl (by decide)).trans ?_
        refine (E_cVV c_71_46 mi_77 rfl (sO_kl sh_61) (Nat.le_of_ble_eq_true rfl) (Nat.le_of_ble_eq_true rfl)).trans (ax_bnd fun u4 => ?_)
        refine (E_goto (q := 57) c_71_49 rfl).trans ?_
        exact E_rV c_71_57 mi_71
    · refine (E_al c_71_27 rfl (by decide)).trans ?_
      refine (E_al c_71_28 rfl (by decide)).trans ?_
      refine (E_cVV c_71_29 mi_76 rfl (sO_kl sh_61) (Nat.le_of_ble_eq_true rfl) (Nat.le_of_ble_eq_true rfl)).trans (ax_bnd fun u5 => ?_)
      refine (E_goto (q := 57) c_71_32 rfl).trans ?_
      exact E_rV c_71_57 mi_71
  · refine (E_al c_71_9 rfl (by decide)).trans ?_
    refine (E_al c_71_10 rfl (by decide)).trans ?_
    refine (E_al c_71_11 rfl (by decide)).trans ?_
    refine (E_cVV c_71_12 mi_72 rfl (sO_kl sh_61) (Nat.le_of_ble_eq_true rfl) (Nat.le_of_ble_eq_true rfl)).trans (ax_bnd fun u6 => ?_)
    refine (E_goto (q := 57) c_71_15 rfl).trans ?_
    exact E_rV c_71_57 mi_71
set_option maxHeartbeats 4000000 in
theorem u_79_61 (d : Nat) (σ : ax_S) : ev sO d 79 0 [.ref 61] [] σ = some (some (.int (σ.1 61 0)), σ) := by
  refine (E_al c_79_0 rfl (by decide)).trans ?_
  refine (E_gfi (k := 0) c_79_1 sh_61 rfl rfl rfl (by decide)).trans ?_
  exact E_rI c_79_4 mi_79
set_option maxHeartbeats 4000000 in
theorem u_80_61 (d : Nat) (σ : ax_S) : ev sO d 80 0 [.ref 61] [] σ = some (some (.int (σ.1 61 1)), σ) := by
  refine (E_al c_80_0 rfl (by decide)).trans ?_
  refine (E_gfi (k := 1) c_80_1 sh_61 rfl rfl rfl (by decide)).trans ?_
  exact E_rI c_80_4 mi_80
set_option maxHeartbeats 4000000 in
theorem u_81_61 (d : Nat) (σ : ax_S) (x1 : Int32) : ev sO (d + 1) 81 0 [.ref 61, .int x1] [] σ = (cI sO d 82 [.int x1] σ).bind fun u0 => if u0.1 = 0 then (some (some (.int (-1000000 : Int32)), u0.2)) else (gd (0 ≤ x1.toInt ∧ x1.toInt < (11 : Nat)) (some (some (.int (u0.2.1 62 x1.toNatClampNeg)), u0.2))) := by
  refine (E_il c_81_0 rfl).trans ?_
  refine (E_cIS c_81_1 mi_82 rfl rfl (Nat.le_of_ble_eq_true rfl) (Nat.le_of_ble_eq_true rfl)).trans (ax_bnd fun u0 => ?_)
  refine (E_b0_eq (q := 16) c_81_4 rfl).trans (ax_ite ?_ ?_)
  · refine (E_ic (v := (-1000000 : Int32)) c_81_16 (by decide)).trans ?_
    exact E_rI c_81_18 mi_81
  · refine (E_al c_81_7 rfl (by decide)).trans ?_
    refine (E_gfr (k := 2) (r := 62) c_81_8 sh_61 rfl rfl rfl).trans ?_
    refine (E_il c_81_11 rfl).trans ?_
    refine (E_ial c_81_12 sh_62).trans (ax_gd ?_)
    refine (E_goto (q := 18) c_81_13 rfl).trans ?_
    exact E_rI c_81_18 mi_81
set_option maxHeartbeats 4000000 in
theorem u_222_82 (d : Nat) (σ : ax_S) (x1 : Int32) (x2 : Int32) : ev sO (d + 5) 222 0 [.ref 82, .int x1, .int x2, .null, .null, .null] [] σ = (cV sO (d + 4) 213 [.ref 82, .int (1 : Int32)] σ).bind fun u0 => if (u0.1 82 17) = 0 then (if (u0.1 82 14) = (3 : Int32) then ((cI sO (d + 4) 215 [.ref 82] u0).bind fun u1 => (cI sO (d + 4) 198 [.long u1.1.toInt64, .long (0 : Int64), .long (7 : Int64)] u1.2).bind fun u2 => if u2.1 = 0 then ((cI sO (d + 4) 214 [.ref 82, .int (0 : Int32), .int (7 : Int32)] u2.2).bind fun u3 => (cI sO (d + 4) 223 [.ref 82, .int (1 : Int32), .int (99 : Int32)] u3.2).bind fun u4 => (cI sO (d + 4) 214 [.ref 82, .int (0 : Int32), .int (3 : Int32)] u4.2).bind fun u5 => (cV sO (d + 4) 216 [.ref 82] u5.2).bind fun u6 => if (u6.1 82 17) = 0 then (if u4.1 < 0 then ((cV sO (d + 4) 225 [.ref 82, .int u3.1, .int (-1 : Int32)] (sI u6 82 20 ((u6.1 82 20) ||| ((1 : Int32) <<< (u3.1 &&& 31))))).bind fun u7 => some (none, u7)) else ((cI sO (d + 4) 224 [.ref 82, .int u5.1, .int x1, .int x2] (sI u6 82 20 ((u6.1 82 20) ||| ((1 : Int32) <<< (u3.1 &&& 31))))).bind fun u8 => (cV sO (d + 4) 225 [.ref 82, .int u3.1, .int (u4.1 * u8.1)] u8.2).bind fun u9 => some (none, u9))) else (some (none, u6))) else ((cI sO (d + 4) 215 [.ref 82] u2.2).bind fun u10 => if (((u2.2.1 82 20) >>> (u10.1 &&& 31)) &&& (1 : Int32)) = (1 : Int32) then ((cV sO (d + 4) 212 [.ref 82, .int (4 : Int32)] u10.2).bind fun u11 => (cI sO (d + 4) 214 [.ref 82, .int (0 : Int32), .int (7 : Int32)] u11).bind fun u12 => (cI sO (d + 4) 223 [.ref 82, .int (1 : Int32), .int (99 : Int32)] u12.2).bind fun u13 => (cI sO (d + 4) 214 [.ref 82, .int (0 : Int32), .int (3 : Int32)] u13.2).bind fun u14 => (cV sO (d + 4) 216 [.ref 82] u14.2).bind fun u15 => if (u15.1 82 17) = 0 then (if u13.1 < 0 then ((cV sO (d + 4) 225 [.ref 82, .int u12.1, .int (-1 : Int32)] (sI u15 82 20 ((u15.1 82 20) ||| ((1 : Int32) <<< (u12.1 &&& 31))))).bind fun u16 => some (none, u16)) else ((cI sO (d + 4) 224 [.ref 82, .int u14.1, .int x1, .int x2] (sI u15 82 20 ((u15.1 82 20) ||| ((1 : Int32) <<< (u12.1 &&& 31))))).bind fun u17 => (cV sO (d + 4) 225 [.ref 82, .int u12.1, .int (u13.1 * u17.1)] u17.2).bind fun u18 => some (none, u18))) else (some (none, u15))) else ((cI sO (d + 4) 214 [.ref 82, .int (0 : Int32), .int (7 : Int32)] u10.2).bind fun u19 => (cI sO (d + 4) 223 [.ref 82, .int (1 : Int32), .int (99 : Int32)] u19.2).bind fun u20 => (cI sO (d + 4) 214 [.ref 82, .int (0 : Int32), .int (3 : Int32)] u20.2).bind fun u21 => (cV sO (d + 4) 216 [.ref 82] u21.2).bind fun u22 => if (u22.1 82 17) = 0 then (if u20.1 < 0 then ((cV sO (d + 4) 225 [.ref 82, .int u19.1, .int (-1 : Int32)] (sI u22 82 20 ((u22.1 82 20) ||| ((1 : Int32) <<< (u19.1 &&& 31))))).bind fun u23 => some (none, u23)) else ((cI sO (d + 4) 224 [.ref 82, .int u21.1, .int x1, .int x2] (sI u22 82 20 ((u22.1 82 20) ||| ((1 : Int32) <<< (u19.1 &&& 31))))).bind fun u24 => (cV sO (d + 4) 225 [.ref 82, .int u19.1, .int (u20.1 * u24.1)] u24.2).bind fun u25 => some (none, u25))) else (some (none, u22))))) else ((cI sO (d + 4) 214 [.ref 82, .int (0 : Int32), .int (7 : Int32)] u0).bind fun u26 => (cI sO (d + 4) 223 [.ref 82, .int (1 : Int32), .int (99 : Int32)] u26.2).bind fun u27 => (cI sO (d + 4) 214 [.ref 82, .int (0 : Int32), .int (3 : Int32)] u27.2).bind fun u28 => (cV sO (d + 4) 216 [.ref 82] u28.2).bind fun u29 => if (u29.1 82 17) = 0 then (if u27.1 < 0 then ((cV sO (d + 4) 225 [.ref 82, .int u26.1, .int (-1 : Int32)] (sI u29 82 20 ((u29.1 82 20) ||| ((1 : Int32) <<< (u26.1 &&& 31))))).bind fun u30 => some (none, u30)) else ((cI sO (d + 4) 224 [.ref 82, .int u28.1, .int x1, .int x2] (sI u29 82 20 ((u29.1 82 20) ||| ((1 : Int32) <<< (u26.1 &&& 31))))).bind fun u31 => (cV sO (d + 4) 225 [.ref 82, .int u26.1, .int (u27.1 * u31.1)] u31.2).bind fun u32 => some (none, u32))) else (some (none, u29)))) else ((cI sO (d + 4) 214 [.ref 82, .int (0 : Int32), .int (7 : Int32)] u0).bind fun u33 => (cI sO (d + 4) 223 [.ref 82, .int (1 : Int32), .int (99 : Int32)] u33.2).bind fun u34 => (cI sO (d + 4) 214 [.ref 82, .int (0 : Int32), .int (3 : Int32)] u34.2).bind fun u35 => (cV sO (d + 4) 216 [.ref 82] u35.2).bind fun u36 => if (u36.1 82 17) = 0 then (if u34.1 < 0 then ((cV sO (d + 4) 225 [.ref 82, .int u33.1, .int (-1 : Int32)] (sI u36 82 20 ((u36.1 82 20) ||| ((1 : Int32) <<< (u33.1 &&& 31))))).bind fun u37 => some (none, u37)) else ((cI sO (d + 4) 224 [.ref 82, .int u35.1, .int x1, .int x2] (sI u36 82 20 ((u36.1 82 20) ||| ((1 : Int32) <<< (u33.1 &&& 31))))).bind fun u38 => (cV sO (d + 4) 225 [.ref 82, .int u33.1, .int (u34.1 * u38.1)] u38.2).bind fun u39 => some (none, u39))) else (some (none, u36))) := by
  refine (E_al c_222_0 rfl (by decide)).trans ?_
  refine (E_ic (v := (1 : Int32)) c_222_1 (by decide)).trans ?_
  refine (E_cVV c_222_2 mi_213 rfl (sO_kl sh_82) (Nat.le_of_ble_eq_true rfl) (Nat.le_of_ble_eq_true rfl)).trans (ax_bnd fun u0 => ?_)
  refine (E_al c_222_5 rfl (by decide)).trans ?_
  refine (E_gfi (k := 17) c_222_6 sh_82 rfl rfl rfl (by decide)).trans ?_
  refine (E_b0_ne (q := 55) c_222_9 rfl).trans (ax_ite ?_ ?_)
  · refine (E_al c_222_12 rfl (by decide)).trans ?_
    refine (E_gfi (k := 14) c_222_13 sh_82 rfl rfl rfl (by decide)).trans ?_
    refine (E_ic (v := (3 : Int32)) c_222_16 (by decide)).trans ?_
    refine (E_br_ne (q := 55) c_222_17 rfl).trans (ax_ite ?_ ?_)
    · refine (E_al c_222_20 rfl (by decide)).trans ?_
      refine (E_cIV c_222_21 mi_215 rfl rfl (sO_kl sh_82) (Nat.le_of_ble_eq_true rfl) (Nat.le_of_ble_eq_true rfl)).trans (ax_bnd fun u1 => ?_)
      refine (E_i2l c_222_24).trans ?_
      refine (E_lc (v := (0 : Int64)) c_222_25 (by decide)).trans ?_
      refine (E_l2 (v := (7 : Int64)) c_222_26 (by decide)).trans ?_
      refine (E_cIS c_222_29 mi_198 rfl rfl (Nat.le_of_ble_eq_true rfl) (Nat.le_of_ble_eq_true rfl)).trans (ax_bnd fun u2 => ?_)
      refine (E_b0_eq (q := 55) c_222_32 rfl).trans (ax_ite ?_ ?_)
      · refine (E_al c_222_55 rfl (by decide)).trans ?_
        refine (E_ic (v := (0 : Int32)) c_222_56 (by decide)).trans ?_
        refine (E_ic (v := (7 : Int32)) c_222_57 (by decide)).trans ?_
        refine (E_cIV c_222_59 mi_214 rfl rfl (sO_kl sh_82) (Nat.le_of_ble_eq_true rfl) (Nat.le_of_ble_eq_true rfl)).trans (ax_bnd fun u3 => ?_)
        refine (E_is (L' := [.ref 82, .int x1, .int x2, .int u3.1, .null, .null]) c_222_62 (Nat.le_of_ble_eq_true rfl) rfl).trans ?_
        refine (E_al c_222_63 rfl (by decide)).trans ?_
        refine (E_ic (v := (1 : Int32)) c_222_64 (by decide)).trans ?_
        refine (E_ic (v := (99 : Int32)) c_222_65 (by decide)).trans ?_
        refine (E_cIV c_222_67 mi_223 rfl rfl (sO_kl sh_82) (Nat.le_of_ble_eq_true rfl) (Nat.le_of_ble_eq_true rfl)).trans (ax_bnd fun u4 => ?_)
        refine (E_is (L' := [.ref 82, .int x1, .int x2, .int u3.1, .int u4.1, .null]) c_222_70 (Nat.le_of_ble_eq_true rfl) rfl).trans ?_
        refine (E_al c_222_72 rfl (by decide)).trans ?_
        refine (E_ic (v := (0 : Int32)) c_222_73 (by decide)).trans ?_
        refine (E_ic (v := (3 : Int32)) c_222_74 (by decide)).trans ?_
        refine (E_cIV c_222_75 mi_214 rfl rfl (sO_kl sh_82) (Nat.le_of_ble_eq_true rfl) (Nat.le_of_ble_eq_true rfl)).trans (ax_bnd fun u5 => ?_)
        refine (E_is (L' := [.ref 82, .int x1, .int x2, .int u3.1, .int u4.1, .int u5.1]) c_222_78 (Nat.le_of_ble_eq_true rfl) rfl).trans ?_
        refine (E_al c_222_80 rfl (by decide)).trans ?_
        refine (E_cVV c_222_81 mi_216 rfl (sO_kl sh_82) (Nat.le_of_ble_eq_true rfl) (Nat.le_of_ble_eq_true rfl)).trans (ax_bnd fun u6 => ?_)
        refine (E_al c_222_84 rfl (by decide)).trans ?_
        refine (E_gfi (k := 17) c_222_85 sh_82 rfl rfl rfl (by decide)).trans ?_
        refine (E_b0_ne (q := 128) c_222_88 rfl).trans (ax_ite ?_ ?_)
        · refine (E_al c_222_91 rfl (by decide)).trans ?_
          refine (E_dup c_222_92 rfl).trans ?_
          refine (E_gfi (k := 20) c_222_93 sh_82 rfl rfl rfl (by decide)).trans ?_
          refine (E_ic (v := (1 : Int32)) c_222_96 (by decide)).trans ?_
          refine (E_il c_222_97 rfl).trans ?_
          refine (E_ishl c_222_98).trans ?_
          refine (E_ior c_222_99).trans ?_
          refine (E_pfi (k := 20) c_222_100 sh_82 rfl rfl rfl).trans ?_
          refine (E_al c_222_103 rfl (by decide)).trans ?_
          refine (E_il c_222_104 rfl).trans ?_
          refine (E_il c_222_105 rfl).trans ?_
          refine (E_b0_ge (q := 114) c_222_107 rfl).trans (ax_ite ?_ ?_)
          · refine (E_ic (v := (-1 : Int32)) c_222_110 (by decide)).trans ?_
            refine (E_goto (q := 125) c_222_111 rfl).trans ?_
            refine (E_cVV c_222_125 mi_225 rfl (sO_kl sh_82) (Nat.le_of_ble_eq_true rfl) (Nat.le_of_ble_eq_true rfl)).trans (ax_bnd fun u7 => ?_)
            exact E_rV c_222_128 mi_222
          · refine (E_il c_222_114 rfl).trans ?_
            refine (E_al c_222_116 rfl (by decide)).trans ?_
            refine (E_il c_222_117 rfl).trans ?_
            refine (E_il c_222_119 rfl).trans ?_
            refine (E_il c_222_120 rfl).trans ?_
            refine (E_cIV c_222_121 mi_224 rfl rfl (sO_kl sh_82) (Nat.le_of_ble_eq_true rfl) (Nat.le_of_ble_eq_true rfl)).trans (ax_bnd fun u8 => ?_)
            refine (E_imul c_222_124).trans ?_
            refine (E_cVV c_222_125 mi_225 rfl (sO_kl sh_82) (Nat.le_of_ble_eq_true rfl) (Nat.le_of_ble_eq_true rfl)).trans (ax_bnd fun u9 => ?_)
            exact E_rV c_222_128 mi_222
        · exact E_rV c_222_128 mi_222
      · refine (E_al c_222_35 rfl (by decide)).trans ?_
        refine (E_gfi (k := 20) c_222_36 sh_82 rfl rfl rfl (by decide)).trans ?_
        refine (E_al c_222_39 rfl (by decide)).trans ?_
        refine (E_cIV c_222_40 mi_215 rfl rfl (sO_kl sh_82) (Nat.le_of_ble_eq_true rfl) (Nat.le_of_ble_eq_true rfl)).trans (ax_bnd fun u10 => ?_)
        refine (E_ishr c_222_43).trans ?_
        refine (E_ic (v := (1 : Int32)) c_222_44 (by decide)).trans ?_
        refine (E_iand c_222_45).trans ?_
        refine (E_ic (v := (1 : Int32)) c_222_46 (by decide)).trans ?_
        refine (E_br_ne (q := 55) c_222_47 rfl).trans (ax_ite ?_ ?_)
        · refine (E_al c_222_50 rfl (by decide)).trans ?_
          refine (E_ic (v := (4 : Int32)) c_222_51 (by decide)).trans ?_
          refine (E_cVV c_222_52 mi_212 rfl (sO_kl sh_82) (Nat.le_of_ble_eq_true rfl) (Nat.le_of_ble_eq_true rfl)).trans (ax_bnd fun u11 => ?_)
          refine (E_al c_222_55 rfl (by decide)).trans ?_
          refine (E_ic (v := (0 : Int32)) c_222_56 (by decide)).trans ?_
          refine (E_ic (v := (7 : Int32)) c_222_57 (by decide)).trans ?_
          refine (E_cIV c_222_59 mi_214 rfl rfl (sO_kl sh_82) (Nat.le_of_ble_eq_true rfl) (Nat.le_of_ble_eq_true rfl)).trans (ax_bnd fun u12 => ?_)
          refine (E_is (L' := [.ref 82, .int x1, .int x2, .int u12.1, .null, .null]) c_222_62 (Nat.le_of_ble_eq_true rfl) rfl).trans ?_
          refine (E_al c_222_63 rfl (by decide)).trans ?_
          refine (E_ic (v := (1 : Int32)) c_222_64 (by decide)).trans ?_
          refine (E_ic (v := (99 : Int32)) c_222_65 (by decide)).trans ?_
          refine (E_cIV c_222_67 mi_223 rfl rfl (sO_kl sh_82) (Nat.le_of_ble_eq_true rfl) (Nat.le_of_ble_eq_true rfl)).trans (ax_bnd fun u13 => ?_)
          refine (E_is (L' := [.ref 82, .int x1, .int x2, .int u12.1, .int u13.1, .null]) c_222_70 (Nat.le_of_ble_eq_true rfl) rfl).trans ?_
          refine (E_al c_222_72 rfl (by decide)).trans ?_
          refine (E_ic (v := (0 : Int32)) c_222_73 (by decide)).trans ?_
          refine (E_ic (v := (3 : Int32)) c_222_74 (by decide)).trans ?_
          refine (E_cIV c_222_75 mi_214 rfl rfl (sO_kl sh_82) (Nat.le_of_ble_eq_true rfl) (Nat.le_of_ble_eq_true rfl)).trans (ax_bnd fun u14 => ?_)
          refine (E_is (L' := [.ref 82, .int x1, .int x2, .int u12.1, .int u13.1, .int u14.1]) c_222_78 (Nat.le_of_ble_eq_true rfl) rfl).trans ?_
          refine (E_al c_222_80 rfl (by decide)).trans ?_
          refine (E_cVV c_222_81 mi_216 rfl (sO_kl sh_82) (Nat.le_of_ble_eq_true rfl) (Nat.le_of_ble_eq_true rfl)).trans (ax_bnd fun u15 => ?_)
          refine (E_al c_222_84 rfl (by decide)).trans ?_
          refine (E_gfi (k := 17) c_222_85 sh_82 rfl rfl rfl (by decide)).trans ?_
          refine (E_b0_ne (q := 128) c_222_88 rfl).trans (ax_ite ?_ ?_)
          · refine (E_al c_222_91 rfl (by decide)).trans ?_
            refine (E_dup c_222_92 rfl).trans ?_
            refine (E_gfi (k := 20) c_222_93 sh_82 rfl rfl rfl (by decide)).trans ?_
            refine (E_ic (v := (1 : Int32)) c_222_96 (by decide)).trans ?_
            refine (E_il c_222_97 rfl).trans ?_
            refine (E_ishl c_222_98).trans ?_
            refine (E_ior c_222_99).trans ?_
            refine (E_pfi (k := 20) c_222_100 sh_82 rfl rfl rfl).trans ?_
            refine (E_al c_222_103 rfl (by decide)).trans ?_
            refine (E_il c_222_104 rfl).trans ?_
            refine (E_il c_222_105 rfl).trans ?_
            refine (E_b0_ge (q := 114) c_222_107 rfl).trans (ax_ite ?_ ?_)
            · refine (E_ic (v := (-1 : Int32)) c_222_110 (by decide)).trans ?_
              refine (E_goto (q := 125) c_222_111 rfl).trans ?_
              refine (E_cVV c_222_125 mi_225 rfl (sO_kl sh_82) (Nat.le_of_ble_eq_true rfl) (Nat.le_of_ble_eq_true rfl)).trans (ax_bnd fun u16 => ?_)
              exact E_rV c_222_128 mi_222
            · refine (E_il c_222_114 rfl).trans ?_
              refine (E_al c_222_116 rfl (by decide)).trans ?_
              refine (E_il c_222_117 rfl).trans ?_
              refine (E_il c_222_119 rfl).trans ?_
              refine (E_il c_222_120 rfl).trans ?_
              refine (E_cIV c_222_121 mi_224 rfl rfl (sO_kl sh_82) (Nat.le_of_ble_eq_true rfl) (Nat.le_of_ble_eq_true rfl)).trans (ax_bnd fun u17 => ?_)
              refine (E_imul c_222_124).trans ?_
              refine (E_cVV c_222_125 mi_225 rfl (sO_kl sh_82) (Nat.le_of_ble_eq_true rfl) (Nat.le_of_ble_eq_true rfl)).trans (ax_bnd fun u18 => ?_)
              exact E_rV c_222_128 mi_222
          · exact E_rV c_222_128 mi_222
        · refine (E_al c_222_55 rfl (by decide)).trans ?_
          refine (E_ic (v := (0 : Int32)) c_222_56 (by decide)).trans ?_
          refine (E_ic (v := (7 : Int32)) c_222_57 (by decide)).trans ?_
          refine (E_cIV c_222_59 mi_214 rfl rfl (sO_kl sh_82) (Nat.le_of_ble_eq_true rfl) (Nat.le_of_ble_eq_true rfl)).trans (ax_bnd fun u19 => ?_)
          refine (E_is (L' := [.ref 82, .int x1, .int x2, .int u19.1, .null, .null]) c_222_62 (Nat.le_of_ble_eq_true rfl) rfl).trans ?_
          refine (E_al c_222_63 rfl (by decide)).trans ?_
          refine (E_ic (v := (1 : Int32)) c_222_64 (by decide)).trans ?_
          refine (E_ic (v := (99 : Int32)) c_222_65 (by decide)).trans ?_
          refine (E_cIV c_222_67 mi_223 rfl rfl (sO_kl sh_82) (Nat.le_of_ble_eq_true rfl) (Nat.le_of_ble_eq_true rfl)).trans (ax_bnd fun u20 => ?_)
          refine (E_is (L' := [.ref 82, .int x1, .int x2, .int u19.1, .int u20.1, .null]) c_222_70 (Nat.le_of_ble_eq_true rfl) rfl).trans ?_
          refine (E_al c_222_72 rfl (by decide)).trans ?_
          refine (E_ic (v := (0 : Int32)) c_222_73 (by decide)).trans ?_
          refine (E_ic (v := (3 : Int32)) c_222_74 (by decide)).trans ?_
          refine (E_cIV c_222_75 mi_214 rfl rfl (sO_kl sh_82) (Nat.le_of_ble_eq_true rfl) (Nat.le_of_ble_eq_true rfl)).trans (ax_bnd fun u21 => ?_)
          refine (E_is (L' := [.ref 82, .int x1, .int x2, .int u19.1, .int u20.1, .int u21.1]) c_222_78 (Nat.le_of_ble_eq_true rfl) rfl).trans ?_
          refine (E_al c_222_80 rfl (by decide)).trans ?_
          refine (E_cVV c_222_81 mi_216 rfl (sO_kl sh_82) (Nat.le_of_ble_eq_true rfl) (Nat.le_of_ble_eq_true rfl)).trans (ax_bnd fun u22 => ?_)
          refine (E_al c_222_84 rfl (by decide)).trans ?_
          refine (E_gfi (k := 17) c_222_85 sh_82 rfl rfl rfl (by decide)).trans ?_
          refine (E_b0_ne (q := 128) c_222_88 rfl).trans (ax_ite ?_ ?_)
          · refine (E_al c_222_91 rfl (by decide)).trans ?_
            refine (E_dup c_222_92 rfl).trans ?_
            refine (E_gfi (k := 20) c_222_93 sh_82 rfl rfl rfl (by decide)).trans ?_
            refine (E_ic (v := (1 : Int32)) c_222_96 (by decide)).trans ?_
            refine (E_il c_222_97 rfl).trans ?_
            refine (E_ishl c_222_98).trans ?_
            refine (E_ior c_222_99).trans ?_
            refine (E_pfi (k := 20) c_222_100 sh_82 rfl rfl rfl).trans ?_
            refine (E_al c_222_103 rfl (by decide)).trans ?_
            refine (E_il c_222_104 rfl).trans ?_
            refine (E_il c_222_105 rfl).trans ?_
            refine (E_b0_ge (q := 114) c_222_107 rfl).trans (ax_ite ?_ ?_)
            · refine (E_ic (v := (-1 : Int32)) c_222_110 (by decide)).trans ?_
              refine (E_goto (q := 125) c_222_111 rfl).trans ?_
              refine (E_cVV c_222_125 mi_225 rfl (sO_kl sh_82) (Nat.le_of_ble_eq_true rfl) (Nat.le_of_ble_eq_true rfl)).trans (ax_bnd fun u23 => ?_)
              exact E_rV c_222_128 mi_222
            · refine (E_il c_222_114 rfl).trans ?_
              refine (E_al c_222_116 rfl (by decide)).trans ?_
              refine (E_il c_222_117 rfl).trans ?_
              refine (E_il c_222_119 rfl).trans ?_
              refine (E_il c_222_120 rfl).trans ?_
              refine (E_cIV c_222_121 mi_224 rfl rfl (sO_kl sh_82) (Nat.le_of_ble_eq_true rfl) (Nat.le_of_ble_eq_true rfl)).trans (ax_bnd fun u24 => ?_)
              refine (E_imul c_222_124).trans ?_
              refine (E_cVV c_222_125 mi_225 rfl (sO_kl sh_82) (Nat.le_of_ble_eq_true rfl) (Nat.le_of_ble_eq_true rfl)).trans (ax_bnd fun u25 => ?_)
              exact E_rV c_222_128 mi_222
          · exact E_rV c_222_128 mi_222
    · refine (E_al c_222_55 rfl (by decide)).trans ?_
      refine (E_ic (v := (0 : Int32)) c_222_56 (by decide)).trans ?_
      refine (E_ic (v := (7 : Int32)) c_222_57 (by decide)).trans ?_
      refine (E_cIV c_222_59 mi_214 rfl rfl (sO_kl sh_82) (Nat.le_of_ble_eq_true rfl) (Nat.le_of_ble_eq_true rfl)).trans (ax_bnd fun u26 => ?_)
      refine (E_is (L' := [.ref 82, .int x1, .int x2, .int u26.1, .null, .null]) c_222_62 (Nat.le_of_ble_eq_true rfl) rfl).trans ?_
      refine (E_al c_222_63 rfl (by decide)).trans ?_
      refine (E_ic (v := (1 : Int32)) c_222_64 (by decide)).trans ?_
      refine (E_ic (v := (99 : Int32)) c_222_65 (by decide)).trans ?_
      refine (E_cIV c_222_67 mi_223 rfl rfl (sO_kl sh_82) (Nat.le_of_ble_eq_true rfl) (Nat.le_of_ble_eq_true rfl)).trans (ax_bnd fun u27 => ?_)
      refine (E_is (L' := [.ref 82, .int x1, .int x2, .int u26.1, .int u27.1, .null]) c_222_70 (Nat.le_of_ble_eq_true rfl) rfl).trans ?_
      refine (E_al c_222_72 rfl (by decide)).trans ?_
      refine (E_ic (v := (0 : Int32)) c_222_73 (by decide)).trans ?_
      refine (E_ic (v := (3 : Int32)) c_222_74 (by decide)).trans ?_
      refine (E_cIV c_222_75 mi_214 rfl rfl (sO_kl sh_82) (Nat.le_of_ble_eq_true rfl) (Nat.le_of_ble_eq_true rfl)).trans (ax_bnd fun u28 => ?_)
      refine (E_is (L' := [.ref 82, .int x1, .int x2, .int u26.1, .int u27.1, .int u28.1]) c_222_78 (Nat.le_of_ble_eq_true rfl) rfl).trans ?_
      refine (E_al c_222_80 rfl (by decide)).trans ?_
      refine (E_cVV c_222_81 mi_216 rfl (sO_kl sh_82) (Nat.le_of_ble_eq_true rfl) (Nat.le_of_ble_eq_true rfl)).trans (ax_bnd fun u29 => ?_)
      refine (E_al c_222_84 rfl (by decide)).trans ?_
      refine (E_gfi (k := 17) c_222_85 sh_82 rfl rfl rfl (by decide)).trans ?_
      refine (E_b0_ne (q := 128) c_222_88 rfl).trans (ax_ite ?_ ?_)
      · refine (E_al c_222_91 rfl (by decide)).trans ?_
        refine (E_dup c_222_92 rfl).trans ?_
        refine (E_gfi (k := 20) c_222_93 sh_82 rfl rfl rfl (by decide)).trans ?_
        refine (E_ic (v := (1 : Int32)) c_222_96 (by decide)).trans ?_
        refine (E_il c_222_97 rfl).trans ?_
        refine (E_ishl c_222_98).trans ?_
        refine (E_ior c_222_99).trans ?_
        refine (E_pfi (k := 20) c_222_100 sh_82 rfl rfl rfl).trans ?_
        refine (E_al c_222_103 rfl (by decide)).trans ?_
        refine (E_il c_222_104 rfl).trans ?_
        refine (E_il c_222_105 rfl).trans ?_
        refine (E_b0_ge (q := 114) c_222_107 rfl).trans (ax_ite ?_ ?_)
        · refine (E_ic (v := (-1 : Int32)) c_222_110 (by decide)).trans ?_
          refine (E_goto (q := 125) c_222_111 rfl).trans ?_
          refine (E_cVV c_222_125 mi_225 rfl (sO_kl sh_82) (Nat.le_of_ble_eq_true rfl) (Nat.le_of_ble_eq_true rfl)).trans (ax_bnd fun u30 => ?_)
          exact E_rV c_222_128 mi_222
        · refine (E_il c_222_114 rfl).trans ?_
          refine (E_al c_222_116 rfl (by decide)).trans ?_
          refine (E_il c_222_117 rfl).trans ?_
          refine (E_il c_222_119 rfl).trans ?_
          refine (E_il c_222_120 rfl).trans ?_
          refine (E_cIV c_222_121 mi_224 rfl rfl (sO_kl sh_82) (Nat.le_of_ble_eq_true rfl) (Nat.le_of_ble_eq_true rfl)).trans (ax_bnd fun u31 => ?_)
          refine (E_imul c_222_124).trans ?_
          refine (E_cVV c_222_125 mi_225 rfl (sO_kl sh_82) (Nat.le_of_ble_eq_true rfl) (Nat.le_of_ble_eq_true rfl)).trans (ax_bnd fun u32 => ?_)
          exact E_rV c_222_128 mi_222
      · exact E_rV c_222_128 mi_222
  · refine (E_al c_222_55 rfl (by decide)).trans ?_
    refine (E_ic (v := (0 : Int32)) c_222_56 (by decide)).trans ?_
    refine (E_ic (v := (7 : Int32)) c_222_57 (by decide)).trans ?_
    refine (E_cIV c_222_59 mi_214 rfl rfl (sO_kl sh_82) (Nat.le_of_ble_eq_true rfl) (Nat.le_of_ble_eq_true rfl)).trans (ax_bnd fun u33 => ?_)
    refine (E_is (L' := [.ref 82, .int x1, .int x2, .int u33.1, .null, .null]) c_222_62 (Nat.le_of_ble_eq_true rfl) rfl).trans ?_
    refine (E_al c_222_63 rfl (by decide)).trans ?_
    refine (E_ic (v := (1 : Int32)) c_222_64 (by decide)).trans ?_
    refine (E_ic (v := (99 : Int32)) c_222_65 (by decide)).trans ?_
    refine (E_cIV c_222_67 mi_223 rfl rfl (sO_kl sh_82) (Nat.le_of_ble_eq_true rfl) (Nat.le_of_ble_eq_true rfl)).trans (ax_bnd fun u34 => ?_)
    refine (E_is (L' := [.ref 82, .int x1, .int x2, .int u33.1, .int u34.1, .null]) c_222_70 (Nat.le_of_ble_eq_true rfl) rfl).trans ?_
    refine (E_al c_222_72 rfl (by decide)).trans ?_
    refine (E_ic (v := (0 : Int32)) c_222_73 (by decide)).trans ?_
    refine (E_ic (v := (3 : Int32)) c_222_74 (by decide)).trans ?_
    refine (E_cIV c_222_75 mi_214 rfl rfl (sO_kl sh_82) (Nat.le_of_ble_eq_true rfl) (Nat.le_of_ble_eq_true rfl)).trans (ax_bnd fun u35 => ?_)
    refine (E_is (L' := [.ref 82, .int x1, .int x2, .int u33.1, .int u34.1, .int u35.1]) c_222_78 (Nat.le_of_ble_eq_true rfl) rfl).trans ?_
    refine (E_al c_222_80 rfl (by decide)).trans ?_
    refine (E_cVV c_222_81 mi_216 rfl (sO_kl sh_82) (Nat.le_of_ble_eq_true rfl) (Nat.le_of_ble_eq_true rfl)).trans (ax_bnd fun u36 => ?_)
    refine (E_al c_222_84 rfl (by decide)).trans ?_
    refine (E_gfi (k := 17) c_222_85 sh_82 rfl rfl rfl (by decide)).trans ?_
    refine (E_b0_ne (q := 128) c_222_88 rfl).trans (ax_ite ?_ ?_)
    · refine (E_al c_222_91 rfl (by decide)).trans ?_
      refine (E_dup c_222_92 rfl).trans ?_
      refine (E_gfi (k := 20) c_222_93 sh_82 rfl rfl rfl (by decide)).trans ?_
      refine (E_ic (v := (1 : Int32)) c_222_96 (by decide)).trans ?_
      refine (E_il c_222_97 rfl).trans ?_
      refine (E_ishl c_222_98).trans ?_
      refine (E_ior c_222_99).trans ?_
      refine (E_pfi (k := 20) c_222_100 sh_82 rfl rfl rfl).trans ?_
      refine (E_al c_222_103 rfl (by decide)).trans ?_
      refine (E_il c_222_104 rfl).trans ?_
      refine (E_il c_222_105 rfl).trans ?_
      refine (E_b0_ge (q := 114) c_222_107 rfl).trans (ax_ite ?_ ?_)
      · refine (E_ic (v := (-1 : Int32)) c_222_110 (by decide)).trans ?_
        refine (E_goto (q := 125) c_222_111 rfl).trans ?_
        refine (E_cVV c_222_125 mi_225 rfl (sO_kl sh_82) (Nat.le_of_ble_eq_true rfl) (Nat.le_of_ble_eq_true rfl)).trans (ax_bnd fun u37 => ?_)
        exact E_rV c_222_128 mi_222
      · refine (E_il c_222_114 rfl).trans ?_
        refine (E_al c_222_116 rfl (by decide)).trans ?_
        refine (E_il c_222_117 rfl).trans ?_
        refine (E_il c_222_119 rfl).trans ?_
        refine (E_il c_222_120 rfl).trans ?_
        refine (E_cIV c_222_121 mi_224 rfl rfl (sO_kl sh_82) (Nat.le_of_ble_eq_true rfl) (Nat.le_of_ble_eq_true rfl)).trans (ax_bnd fun u38 => ?_)
        refine (E_imul c_222_124).trans ?_
        refine (E_cVV c_222_125 mi_225 rfl (sO_kl sh_82) (Nat.le_of_ble_eq_true rfl) (Nat.le_of_ble_eq_true rfl)).trans (ax_bnd fun u39 => ?_)
        exact E_rV c_222_128 mi_222
    · exact E_rV c_222_128 mi_222
set_option maxHeartbeats 4000000 in
theorem u_223_82 (d : Nat) (σ : ax_S) (x1 : Int32) (x2 : Int32) : ev sO (d + 4) 223 0 [.ref 82, .int x1, .int x2] [] σ = if (σ.1 82 17) = 0 then (if (σ.1 82 14) = (5 : Int32) then ((cV sO (d + 3) 206 [.ref 82] σ).bind fun u0 => some (some (.int (-1 : Int32)), u0)) else ((cI sO (d + 3) 214 [.ref 82, .int x1, .int x2] σ).bind fun u1 => some (some (.int u1.1), u1.2))) else ((cI sO (d + 3) 214 [.ref 82, .int x1, .int x2] σ).bind fun u2 => some (some (.int u2.1), u2.2)) := by
  refine (E_al c_223_0 rfl (by decide)).trans ?_
  refine (E_gfi (k := 17) c_223_1 sh_82 rfl rfl rfl (by decide)).trans ?_
  refine (E_b0_ne (q := 21) c_223_4 rfl).trans (ax_ite ?_ ?_)
  · refine (E_al c_223_7 rfl (by decide)).trans ?_
    refine (E_gfi (k := 14) c_223_8 sh_82 rfl rfl rfl (by decide)).trans ?_
    refine (E_ic (v := (5 : Int32)) c_223_11 (by decide)).trans ?_
    refine (E_br_ne (q := 21) c_223_12 rfl).trans (ax_ite ?_ ?_)
    · refine (E_al c_223_15 rfl (by decide)).trans ?_
      refine (E_cVV c_223_16 mi_206 rfl (sO_kl sh_82) (Nat.le_of_ble_eq_true rfl) (Nat.le_of_ble_eq_true rfl)).trans (ax_bnd fun u0 => ?_)
      refine (E_ic (v := (-1 : Int32)) c_223_19 (by decide)).trans ?_
      exact E_rI c_223_20 mi_223
    · refine (E_al c_223_21 rfl (by decide)).trans ?_
      refine (E_il c_223_22 rfl).trans ?_
      refine (E_il c_223_23 rfl).trans ?_
      refine (E_cIV c_223_24 mi_214 rfl rfl (sO_kl sh_82) (Nat.le_of_ble_eq_true rfl) (Nat.le_of_ble_eq_true rfl)).trans (ax_bnd fun u1 => ?_)
      exact E_rI c_223_27 mi_223
  · refine (E_al c_223_21 rfl (by decide)).trans ?_
    refine (E_il c_223_22 rfl).trans ?_
    refine (E_il c_223_23 rfl).trans ?_
    refine (E_cIV c_223_24 mi_214 rfl rfl (sO_kl sh_82) (Nat.le_of_ble_eq_true rfl) (Nat.le_of_ble_eq_true rfl)).trans (ax_bnd fun u2 => ?_)
    exact E_rI c_223_27 mi_223
set_option maxHeartbeats 4000000 in
theorem u_2_62 (d : Nat) (σ : ax_S) (x1 : Int32) : ev sO d 2 0 [.ref 62, .int x1, .null, .null] [] σ = ev sO d 2 5 [.ref 62, .int x1, .int (0 : Int32), .int (11 : Int32)] [] σ := by
  refine (E_ic (v := (0 : Int32)) c_2_0 (by decide)).trans ?_
  refine (E_is (L' := [.ref 62, .int x1, .int (0 : Int32), .null]) c_2_1 (Nat.le_of_ble_eq_true rfl) rfl).trans ?_
  refine (E_al c_2_2 rfl (by decide)).trans ?_
  refine (E_aln (v := (11 : Int32)) c_2_3 sh_62 (by decide) (by decide)).trans ?_
  refine (E_is (L' := [.ref 62, .int x1, .int (0 : Int32), .int (11 : Int32)]) c_2_4 (Nat.le_of_ble_eq_true rfl) rfl).trans ?_
  rfl
set_option maxHeartbeats 4000000 in
theorem u_2_62p5 (d : Nat) (σ : ax_S) (x1 : Int32) (x2 : Int32) (x3 : Int32) : ev sO d 2 5 [.ref 62, .int x1, .int x2, .int x3] [] σ = if x2 < x3 then (gd (0 ≤ x2.toInt ∧ x2.toInt < (11 : Nat)) (ev sO d 2 5 [.ref 62, .int x1, .int (x2 + (1 : Int32)), .int x3] [] (sI σ 62 x2.toNatClampNeg x1))) else (some (none, σ)) := by
  refine (E_il c_2_5 rfl).trans ?_
  refine (E_il c_2_6 rfl).trans ?_
  refine (E_br_ge (q := 20) c_2_7 rfl).trans (ax_ite ?_ ?_)
  · refine (E_al c_2_10 rfl (by decide)).trans ?_
    refine (E_il c_2_11 rfl).trans ?_
    refine (E_il c_2_12 rfl).trans ?_
    refine (E_ias (v := x1) c_2_13 sh_62 rfl).trans (ax_gd ?_)
    refine (E_inc (v := (1 : Int32)) (L' := [.ref 62, .int x1, .int (x2 + (1 : Int32)), .int x3]) c_2_14 rfl (by decide) rfl).trans ?_
    refine (E_goto (q := 5) c_2_17 rfl).trans ?_
    rfl
  · exact E_rV c_2_20 mi_2
set_option maxHeartbeats 4000000 in
theorem u_93_1 (d : Nat) (σ : ax_S) (x1 : Int32) (x2 : Int32) : ev sO (d + 3) 93 0 [.ref 1, .int x1, .int x2] [] σ = (cI sO (d + 2) 20 [.ref 1, .int x1, .int x2, .int (1 : Int32)] σ).bind fun u0 => if u0.1 = 0 then (some (some (.int (0 : Int32)), u0.2)) else (gd (0 ≤ ((x1 * (40 : Int32)) + x2).toInt ∧ ((x1 * (40 : Int32)) + x2).toInt < (320 : Nat)) (some (some (.int (u0.2.1 4 ((x1 * (40 : Int32)) + x2).toNatClampNeg)), u0.2))) := by
  refine (E_al c_93_0 rfl (by decide)).trans ?_
  refine (E_il c_93_1 rfl).trans ?_
  refine (E_il c_93_2 rfl).trans ?_
  refine (E_ic (v := (1 : Int32)) c_93_3 (by decide)).trans ?_
  refine (E_cIV c_93_4 mi_20 rfl rfl (sO_kl sh_1) (Nat.le_of_ble_eq_true rfl) (Nat.le_of_ble_eq_true rfl)).trans (ax_bnd fun u0 => ?_)
  refine (E_b0_eq (q := 24) c_93_7 rfl).trans (ax_ite ?_ ?_)
  · refine (E_ic (v := (0 : Int32)) c_93_24 (by decide)).trans ?_
    exact E_rI c_93_25 mi_93
  · refine (E_al c_93_10 rfl (by decide)).trans ?_
    refine (E_gfr (k := 2) (r := 4) c_93_11 sh_1 rfl rfl rfl).trans ?_
    refine (E_il c_93_14 rfl).trans ?_
    refine (E_ic (v := (40 : Int32)) c_93_15 (by decide)).trans ?_
    refine (E_imul c_93_17).trans ?_
    refine (E_il c_93_18 rfl).trans ?_
    refine (E_iadd c_93_19).trans ?_
    refine (E_ial c_93_20 sh_4).trans (ax_gd ?_)
    refine (E_goto (q := 25) c_93_21 rfl).trans ?_
    exact E_rI c_93_25 mi_93
set_option maxHeartbeats 4000000 in
theorem u_94 (d : Nat) (σ : ax_S) (x0 : Int32) : ev sO d 94 0 [.int x0] [] σ = if x0 < (8 : Int32) then (some (some (.int (9999 : Int32)), σ)) else (if x0 = (8 : Int32) then (some (some (.int (9 : Int32)), σ)) else (some (some (.int (99 : Int32)), σ))) := by
  refine (E_il c_94_0 rfl).trans ?_
  refine (E_ic (v := (8 : Int32)) c_94_1 (by decide)).trans ?_
  refine (E_br_ge (q := 10) c_94_3 rfl).trans (ax_ite ?_ ?_)
  · refine (E_ic (v := (9999 : Int32)) c_94_6 (by decide)).trans ?_
    exact E_rI c_94_9 mi_94
  · refine (E_il c_94_10 rfl).trans ?_
    refine (E_ic (v := (8 : Int32)) c_94_11 (by decide)).trans ?_
    refine (E_br_ne (q := 21) c_94_13 rfl).trans (ax_ite ?_ ?_)
    · refine (E_ic (v := (9 : Int32)) c_94_16 (by decide)).trans ?_
      refine (E_goto (q := 23) c_94_18 rfl).trans ?_
      exact E_rI c_94_23 mi_94
    · refine (E_ic (v := (99 : Int32)) c_94_21 (by decide)).trans ?_
      exact E_rI c_94_23 mi_94
set_option maxHeartbeats 4000000 in
theorem u_109_17 (d : Nat) (σ : ax_S) (x1 : Int32) (x2 : Int32) (x3 : Int32) : ev sO (d + 2) 109 0 [.ref 17, .int x1, .int x2, .int x3, .null, .null] [] σ = (cI sO (d + 1) 97 [.ref 17, .int x1, .int x3] σ).bind fun u0 => (cI sO (d + 1) 97 [.ref 17, .int x2, .int x3] u0.2).bind fun u1 => if u0.1 = (-1000000 : Int32) then (some (some (.int (0 : Int32)), u1.2)) else (if u1.1 = (-1000000 : Int32) then (some (some (.int (0 : Int32)), u1.2)) else (if u0.1 = u1.1 then (some (some (.int (0 : Int32)), u1.2)) else (some (some (.int (1 : Int32)), u1.2)))) := by
  refine (E_al c_109_0 rfl (by decide)).trans ?_
  refine (E_il c_109_1 rfl).trans ?_
  refine (E_il c_109_2 rfl).trans ?_
  refine (E_cIV c_109_3 mi_97 rfl rfl (sO_kl sh_17) (Nat.le_of_ble_eq_true rfl) (Nat.le_of_ble_eq_true rfl)).trans (ax_bnd fun u0 => ?_)
  refine (E_is (L' := [.ref 17, .int x1, .int x2, .int x3, .int u0.1, .null]) c_109_6 (Nat.le_of_ble_eq_true rfl) rfl).trans ?_
  refine (E_al c_109_8 rfl (by decide)).trans ?_
  refine (E_il c_109_9 rfl).trans ?_
  refine (E_il c_109_10 rfl).trans ?_
  refine (E_cIV c_109_11 mi_97 rfl rfl (sO_kl sh_17) (Nat.le_of_ble_eq_true rfl) (Nat.le_of_ble_eq_true rfl)).trans (ax_bnd fun u1 => ?_)
  refine (E_is (L' := [.ref 17, .int x1, .int x2, .int x3, .int u0.1, .int u1.1]) c_109_14 (Nat.le_of_ble_eq_true rfl) rfl).trans ?_
  refine (E_il c_109_16 rfl).trans ?_
  refine (E_ic (v := (-1000000 : Int32)) c_109_18 (by decide)).trans ?_
  refine (E_br_eq (q := 41) c_109_20 rfl).trans (ax_ite ?_ ?_)
  · refine (E_ic (v := (0 : Int32)) c_109_41 (by decide)).trans ?_
    exact E_rZ (v := (0 : Int32)) c_109_42 mi_109 (by decide)
  · refine (E_il c_109_23 rfl).trans ?_
    refine (E_ic (v := (-1000000 : Int32)) c_109_25 (by decide)).trans ?_
    refine (E_br_eq (q := 41) c_109_27 rfl).trans (ax_ite ?_ ?_)
    · refine (E_ic (v := (0 : Int32)) c_109_41 (by decide)).trans ?_
      exact E_rZ (v := (0 : Int32)) c_109_42 mi_109 (by decide)
    · refine (E_il c_109_30 rfl).trans ?_
      refine (E_il c_109_32 rfl).trans ?_
      refine (E_br_eq (q := 41) c_109_34 rfl).trans (ax_ite ?_ ?_)
      · refine (E_ic (v := (0 : Int32)) c_109_41 (by decide)).trans ?_
        exact E_rZ (v := (0 : Int32)) c_109_42 mi_109 (by decide)
      · refine (E_ic (v := (1 : Int32)) c_109_37 (by decide)).trans ?_
        refine (E_goto (q := 42) c_109_38 rfl).trans ?_
        exact E_rZ (v := (1 : Int32)) c_109_42 mi_109 (by decide)
set_option maxHeartbeats 4000000 in
theorem u_112_8 (d : Nat) (σ : ax_S) (x1 : Int32) (x2 : Int32) : ev sO (d + 1) 112 0 [.ref 8, .int x1, .int x2, .null] [] σ = if x2 = (-1000000 : Int32) then (if x1 = (8 : Int32) then (some (some (.int ((-10 : Int32) * (if 0 ≤ ((0 : Int32) - (σ.1 8 11)) then ((0 : Int32) - (σ.1 8 11)) else 0 - ((0 : Int32) - (σ.1 8 11))))), σ)) else (if x1 = (9 : Int32) then (some (some (.int (-(if 0 ≤ ((0 : Int32) - (σ.1 8 12)) then ((0 : Int32) - (σ.1 8 12)) else 0 - ((0 : Int32) - (σ.1 8 12))))), σ)) else (if x1 = (10 : Int32) then (some (some (.int (if (σ.1 8 13) < (0 : Int32) then (σ.1 8 13) else (0 : Int32))), σ)) else ((cI sO d 74 [.int x1] σ).bind fun u0 => if u0.1 = 0 then (some (some (.int (0 : Int32)), u0.2)) else (gd (0 ≤ x1.toInt ∧ x1.toInt < (8 : Nat)) (some (some (.int ((u0.2.1 16 x1.toNatClampNeg) * (0 : Int32))), u0.2))))))) else (if x1 = (8 : Int32) then (some (some (.int ((-10 : Int32) * (if 0 ≤ (x2 - (σ.1 8 11)) then (x2 - (σ.1 8 11)) else 0 - (x2 - (σ.1 8 11))))), σ)) else (if x1 = (9 : Int32) then (some (some (.int (-(if 0 ≤ (x2 - (σ.1 8 12)) then (x2 - (σ.1 8 12)) else 0 - (x2 - (σ.1 8 12))))), σ)) else (if x1 = (10 : Int32) then (some (some (.int (if (σ.1 8 13) < x2 then (σ.1 8 13) else x2)), σ)) else ((cI sO d 74 [.int x1] σ).bind fun u1 => if u1.1 = 0 then (some (some (.int (0 : Int32)), u1.2)) else (gd (0 ≤ x1.toInt ∧ x1.toInt < (8 : Nat)) (some (some (.int ((u1.2.1 16 x1.toNatClampNeg) * x2)), u1.2))))))) := by
  refine (E_il c_112_0 rfl).trans ?_
  refine (E_ic (v := (-1000000 : Int32)) c_112_1 (by decide)).trans ?_
  refine (E_br_ne (q := 10) c_112_3 rfl).trans (ax_ite ?_ ?_)
  · refine (E_ic (v := (0 : Int32)) c_112_6 (by decide)).trans ?_
    refine (E_goto (q := 11) c_112_7 rfl).trans ?_
    refine (E_is (L' := [.ref 8, .int x1, .int x2, .int (0 : Int32)]) c_112_11 (Nat.le_of_ble_eq_true rfl) rfl).trans ?_
    refine (E_il c_112_12 rfl).trans ?_
    refine (E_sw c_112_13 [((8 : Int32), 40), ((9 : Int32), 53), ((10 : Int32), 64)] (q := 73) rfl (by decide) (by decide) (by decide)).trans ?_
    refine ev_sw1.trans (ax_ite ?_ ?_)
    · refine (E_ic (v := (-10 : Int32)) c_112_40 (by decide)).trans ?_
      refine (E_il c_112_42 rfl).trans ?_
      refine (E_al c_112_43 rfl (by decide)).trans ?_
      refine (E_gfi (k := 11) c_112_44 sh_8 rfl rfl rfl (by decide)).trans ?_
      refine (E_isub c_112_47).trans ?_
      refine (E_abs c_112_48 (Nat.le_of_ble_eq_true rfl)).trans ?_
      refine (E_imul c_112_51).trans ?_
      exact E_rI c_112_52 mi_112
    · refine ev_sw1.trans (ax_ite ?_ ?_)
      · refine (E_il c_112_53 rfl).trans ?_
        refine (E_al c_112_54 rfl (by decide)).trans ?_
        refine (E_gfi (k := 12) c_112_55 sh_8 rfl rfl rfl (by decide)).trans ?_
        refine (E_isub c_112_58).trans ?_
        refine (E_abs c_112_59 (Nat.le_of_ble_eq_true rfl)).trans ?_
        refine (E_ineg c_112_62).trans ?_
        exact E_rI c_112_63 mi_112
      · refine ev_sw1.trans (ax_ite ?_ ?_)
        · refine (E_il c_112_64 rfl).trans ?_
          refine (E_al c_112_65 rfl (by decide)).trans ?_
          refine (E_gfi (k := 13) c_112_66 sh_8 rfl rfl rfl (by decide)).trans ?_
          refine (E_min c_112_69 (Nat.le_of_ble_eq_true rfl)).trans ?_
          exact E_rI c_112_72 mi_112
        · refine ev_sw0.trans ?_
          refine (E_il c_112_73 rfl).trans ?_
          refine (E_cIS c_112_74 mi_74 rfl rfl (Nat.le_of_ble_eq_true rfl) (Nat.le_of_ble_eq_true rfl)).trans (ax_bnd fun u0 => ?_)
          refine (E_b0_eq (q := 91) c_112_77 rfl).trans (ax_ite ?_ ?_)
          · refine (E_ic (v := (0 : Int32)) c_112_91 (by decide)).trans ?_
            exact E_rI c_112_92 mi_112
          · refine (E_al c_112_80 rfl (by decide)).trans ?_
            refine (E_gfr (k := 10) (r := 16) c_112_81 sh_8 rfl rfl rfl).trans ?_
            refine (E_il c_112_84 rfl).trans ?_
            refine (E_ial c_112_85 sh_16).trans (ax_gd ?_)
            refine (E_il c_112_86 rfl).trans ?_
            refine (E_imul c_112_87).trans ?_
            refine (E_goto (q := 92) c_112_88 rfl).trans ?_
            exact E_rI c_112_92 mi_112
  · refine (E_il c_112_10 rfl).trans ?_
    refine (E_is (L' := [.ref 8, .int x1, .int x2, .int x2]) c_112_11 (Nat.le_of_ble_eq_true rfl) rfl).trans ?_
    refine (E_il c_112_12 rfl).trans ?_
    refine (E_sw c_112_13 [((8 : Int32), 40), ((9 : Int32), 53), ((10 : Int32), 64)] (q := 73) rfl (by decide) (by decide) (by decide)).trans ?_
    refine ev_sw1.trans (ax_ite ?_ ?_)
    · refine (E_ic (v := (-10 : Int32)) c_112_40 (by decide)).trans ?_
      refine (E_il c_112_42 rfl).trans ?_
      refine (E_al c_112_43 rfl (by decide)).trans ?_
      refine (E_gfi (k := 11) c_112_44 sh_8 rfl rfl rfl (by decide)).trans ?_
      refine (E_isub c_112_47).trans ?_
      refine (E_abs c_112_48 (Nat.le_of_ble_eq_true rfl)).trans ?_
      refine (E_imul c_112_51).trans ?_
      exact E_rI c_112_52 mi_112
    · refine ev_sw1.trans (ax_ite ?_ ?_)
      · refine (E_il c_112_53 rfl).trans ?_
        refine (E_al c_112_54 rfl (by decide)).trans ?_
        refine (E_gfi (k := 12) c_112_55 sh_8 rfl rfl rfl (by decide)).trans ?_
        refine (E_isub c_112_58).trans ?_
        refine (E_abs c_112_59 (Nat.le_of_ble_eq_true rfl)).trans ?_
        refine (E_ineg c_112_62).trans ?_
        exact E_rI c_112_63 mi_112
      · refine ev_sw1.trans (ax_ite ?_ ?_)
        · refine (E_il c_112_64 rfl).trans ?_
          refine (E_al c_112_65 rfl (by decide)).trans ?_
          refine (E_gfi (k := 13) c_112_66 sh_8 rfl rfl rfl (by decide)).trans ?_
          refine (E_min c_112_69 (Nat.le_of_ble_eq_true rfl)).trans ?_
          exact E_rI c_112_72 mi_112
        · refine ev_sw0.trans ?_
          refine (E_il c_112_73 rfl).trans ?_
          refine (E_cIS c_112_74 mi_74 rfl rfl (Nat.le_of_ble_eq_true rfl) (Nat.le_of_ble_eq_true rfl)).trans (ax_bnd fun u1 => ?_)
          refine (E_b0_eq (q := 91) c_112_77 rfl).trans (ax_ite ?_ ?_)
          · refine (E_ic (v := (0 : Int32)) c_112_91 (by decide)).trans ?_
            exact E_rI c_112_92 mi_112
          · refine (E_al c_112_80 rfl (by decide)).trans ?_
            refine (E_gfr (k := 10) (r := 16) c_112_81 sh_8 rfl rfl rfl).trans ?_
            refine (E_il c_112_84 rfl).trans ?_
            refine (E_ial c_112_85 sh_16).trans (ax_gd ?_)
            refine (E_il c_112_86 rfl).trans ?_
            refine (E_imul c_112_87).trans ?_
            refine (E_goto (q := 92) c_112_88 rfl).trans ?_
            exact E_rI c_112_92 mi_112
set_option maxHeartbeats 4000000 in
theorem u_114_8 (d : Nat) (σ : ax_S) : ev sO d 114 0 [.ref 8] [] σ = some (some (.int (σ.1 8 14)), σ) := by
  refine (E_al c_114_0 rfl (by decide)).trans ?_
  refine (E_gfi (k := 14) c_114_1 sh_8 rfl rfl rfl (by decide)).trans ?_
  exact E_rI c_114_4 mi_114
set_option maxHeartbeats 4000000 in
theorem u_248 (d : Nat) (σ : ax_S) (x0 : Int32) : ev sO d 248 0 [.int x0] [] σ = if x0 < 0 then (some (some (.int (-x0)), σ)) else (some (some (.int x0), σ)) := by
  refine (E_il c_248_0 rfl).trans ?_
  refine (E_b0_ge (q := 9) c_248_1 rfl).trans (ax_ite ?_ ?_)
  · refine (E_il c_248_4 rfl).trans ?_
    refine (E_ineg c_248_5).trans ?_
    refine (E_goto (q := 10) c_248_6 rfl).trans ?_
    exact E_rI c_248_10 mi_248
  · refine (E_il c_248_9 rfl).trans ?_
    exact E_rI c_248_10 mi_248
set_option maxHeartbeats 4000000 in
theorem u_117_63 (d : Nat) (σ : ax_S) : ev sO d 117 0 [.ref 63] [] σ = some (none, (sI (sI (sI (sI σ 63 2 (-1000000 : Int32)) 63 3 (13 : Int32)) 63 4 (0 : Int32)) 65 0 (0 : Int32))) := by
  refine (E_al c_117_0 rfl (by decide)).trans ?_
  refine (E_ic (v := (-1000000 : Int32)) c_117_1 (by decide)).trans ?_
  refine (E_pfi (k := 2) c_117_3 sh_63 rfl rfl rfl).trans ?_
  refine (E_al c_117_6 rfl (by decide)).trans ?_
  refine (E_ic (v := (13 : Int32)) c_117_7 (by decide)).trans ?_
  refine (E_pfi (k := 3) c_117_9 sh_63 rfl rfl rfl).trans ?_
  refine (E_al c_117_12 rfl (by decide)).trans ?_
  refine (E_ic (v := (0 : Int32)) c_117_13 (by decide)).trans ?_
  refine (E_pfi (k := 4) c_117_14 sh_63 rfl rfl rfl).trans ?_
  refine (E_al c_117_17 rfl (by decide)).trans ?_
  refine (E_gfr (k := 1) (r := 65) c_117_18 sh_63 rfl rfl rfl).trans ?_
  refine (E_ic (v := (0 : Int32)) c_117_21 (by decide)).trans ?_
  refine (E_ic (v := (0 : Int32)) c_117_22 (by decide)).trans ?_
  refine (E_iask (k := 0) (v := (0 : Int32)) c_117_23 sh_65 rfl (by decide) (by decide)).trans ?_
  exact E_rV c_117_24 mi_117
set_option maxHeartbeats 4000000 in
theorem u_118 (d : Nat) (σ : ax_S) (x0 : Int32) : ev sO d 118 0 [.int x0, .null] [] σ = if 0 < ((x0 ^^^ (-1 : Int32)) &&& (x0 - (1 : Int32))) then (if (65536 : Int32) < ((x0 ^^^ (-1 : Int32)) &&& (x0 - (1 : Int32))) then (if (256 : Int32) < ((((x0 ^^^ (-1 : Int32)) &&& (x0 - (1 : Int32))).toUInt32 >>> ((16 : Int32).toUInt32 &&& Int32.toUInt32 31)).toInt32) then (if (16 : Int32) < ((((((x0 ^^^ (-1 : Int32)) &&& (x0 - (1 : Int32))).toUInt32 >>> ((16 : Int32).toUInt32 &&& Int32.toUInt32 31)).toInt32).toUInt32 >>> ((8 : Int32).toUInt32 &&& Int32.toUInt32 31)).toInt32) then (if (4 : Int32) < ((((((((x0 ^^^ (-1 : Int32)) &&& (x0 - (1 : Int32))).toUInt32 >>> ((16 : Int32).toUInt32 &&& Int32.toUInt32 31)).toInt32).toUInt32 >>> ((8 : Int32).toUInt32 &&& Int32.toUInt32 31)).toInt32).toUInt32 >>> ((4 : Int32).toUInt32 &&& Int32.toUInt32 31)).toInt32) then (some (some (.int ((((((1 : Int32) + (16 : Int32)) + (8 : Int32)) + (4 : Int32)) + (2 : Int32)) + ((((((((((((x0 ^^^ (-1 : Int32)) &&& (x0 - (1 : Int32))).toUInt32 >>> ((16 : Int32).toUInt32 &&& Int32.toUInt32 31)).toInt32).toUInt32 >>> ((8 : Int32).toUInt32 &&& Int32.toUInt32 31)).toInt32).toUInt32 >>> ((4 : Int32).toUInt32 &&& Int32.toUInt32 31)).toInt32).toUInt32 >>> ((2 : Int32).toUInt32 &&& Int32.toUInt32 31)).toInt32).toUInt32 >>> ((1 : Int32).toUInt32 &&& Int32.toUInt32 31)).toInt32))), σ)) else (some (some (.int (((((1 : Int32) + (16 : Int32)) + (8 : Int32)) + (4 : Int32)) + ((((((((((x0 ^^^ (-1 : Int32)) &&& (x0 - (1 : Int32))).toUInt32 >>> ((16 : Int32).toUInt32 &&& Int32.toUInt32 31)).toInt32).toUInt32 >>> ((8 : Int32).toUInt32 &&& Int32.toUInt32 31)).toInt32).toUInt32 >>> ((4 : Int32).toUInt32 &&& Int32.toUInt32 31)).toInt32).toUInt32 >>> ((1 : Int32).toUInt32 &&& Int32.toUInt32 31)).toInt32))), σ))) else (if (4 : Int32) < ((((((x0 ^^^ (-1 : Int32)) &&& (x0 - (1 : Int32))).toUInt32 >>> ((16 : Int32).toUInt32 &&& Int32.toUInt32 31)).toInt32).toUInt32 >>> ((8 : Int32).toUInt32 &&& Int32.toUInt32 31)).toInt32) then (some (some (.int (((((1 : Int32) + (16 : Int32)) + (8 : Int32)) + (2 : Int32)) + ((((((((((x0 ^^^ (-1 : Int32)) &&& (x0 - (1 : Int32))).toUInt32 >>> ((16 : Int32).toUInt32 &&& Int32.toUInt32 31)).toInt32).toUInt32 >>> ((8 : Int32).toUInt32 &&& Int32.toUInt32 31)).toInt32).toUInt32 >>> ((2 : Int32).toUInt32 &&& Int32.toUInt32 31)).toInt32).toUInt32 >>> ((1 : Int32).toUInt32 &&& Int32.toUInt32 31)).toInt32))), σ)) else (some (some (.int ((((1 : Int32) + (16 : Int32)) + (8 : Int32)) + ((((((((x0 ^^^ (-1 : Int32)) &&& (x0 - (1 : Int32))).toUInt32 >>> ((16 : Int32).toUInt32 &&& Int32.toUInt32 31)).toInt32).toUInt32 >>> ((8 : Int32).toUInt32 &&& Int32.toUInt32 31)).toInt32).toUInt32 >>> ((1 : Int32).toUInt32 &&& Int32.toUInt32 31)).toInt32))), σ)))) else (if (16 : Int32) < ((((x0 ^^^ (-1 : Int32)) &&& (x0 - (1 : Int32))).toUInt32 >>> ((16 : Int32).toUInt32 &&& Int32.toUInt32 31)).toInt32) then (if (4 : Int32) < ((((((x0 ^^^ (-1 : Int32)) &&& (x0 - (1 : Int32))).toUInt32 >>> ((16 : Int32).toUInt32 &&& Int32.toUInt32 31)).toInt32).toUInt32 >>> ((4 : Int32).toUInt32 &&& Int32.toUInt32 31)).toInt32) then (some (some (.int (((((1 : Int32) + (16 : Int32)) + (4 : Int32)) + (2 : Int32)) + ((((((((((x0 ^^^ (-1 : Int32)) &&& (x0 - (1 : Int32))).toUInt32 >>> ((16 : Int32).toUInt32 &&& Int32.toUInt32 31)).toInt32).toUInt32 >>> ((4 : Int32).toUInt32 &&& Int32.toUInt32 31)).toInt32).toUInt32 >>> ((2 : Int32).toUInt32 &&& Int32.toUInt32 31)).toInt32).toUInt32 >>> ((1 : Int32).toUInt32 &&& Int32.toUInt32 31)).toInt32))), σ)) else (some (some (.int ((((1 : Int32) + (16 : Int32)) + (4 : Int32)) + ((((((((x0 ^^^ (-1 : Int32)) &&& (x0 - (1 : Int32))).toUInt32 >>> ((16 : Int32).toUInt32 &&& Int32.toUInt32 31)).toInt32).toUInt32 >>> ((4 : Int32).toUInt32 &&& Int32.toUInt32 31)).toInt32).toUInt32 >>> ((1 : Int32).toUInt32 &&& Int32.toUInt32 31)).toInt32))), σ))) else (if (4 : Int32) < ((((x0 ^^^ (-1 : Int32)) &&& (x0 - (1 : Int32))).toUInt32 >>> ((16 : Int32).toUInt32 &&& Int32.toUInt32 31)).toInt32) then (some (some (.int ((((1 : Int32) + (16 : Int32)) + (2 : Int32)) + ((((((((x0 ^^^ (-1 : Int32)) &&& (x0 - (1 : Int32))).toUInt32 >>> ((16 : Int32).toUInt32 &&& Int32.toUInt32 31)).toInt32).toUInt32 >>> ((2 : Int32).toUInt32 &&& Int32.toUInt32 31)).toInt32).toUInt32 >>> ((1 : Int32).toUInt32 &&& Int32.toUInt32 31)).toInt32))), σ)) else (some (some (.int (((1 : Int32) + (16 : Int32)) + ((((((x0 ^^^ (-1 : Int32)) &&& (x0 - (1 : Int32))).toUInt32 >>> ((16 : Int32).toUInt32 &&& Int32.toUInt32 31)).toInt32).toUInt32 >>> ((1 : Int32).toUInt32 &&& Int32.toUInt32 31)).toInt32))), σ))))) else (if (256 : Int32) < ((x0 ^^^ (-1 : Int32)) &&& (x0 - (1 : Int32))) then (if (16 : Int32) < ((((x0 ^^^ (-1 : Int32)) &&& (x0 - (1 : Int32))).toUInt32 >>> ((8 : Int32).toUInt32 &&& Int32.toUInt32 31)).toInt32) then (if (4 : Int32) < ((((((x0 ^^^ (-1 : Int32)) &&& (x0 - (1 : Int32))).toUInt32 >>> ((8 : Int32).toUInt32 &&& Int32.toUInt32 31)).toInt32).toUInt32 >>> ((4 : Int32).toUInt32 &&& Int32.toUInt32 31)).toInt32) then (some (some (.int (((((1 : Int32) + (8 : Int32)) + (4 : Int32)) + (2 : Int32)) + ((((((((((x0 ^^^ (-1 : Int32)) &&& (x0 - (1 : Int32))).toUInt32 >>> ((8 : Int32).toUInt32 &&& Int32.toUInt32 31)).toInt32).toUInt32 >>> ((4 : Int32).toUInt32 &&& Int32.toUInt32 31)).toInt32).toUInt32 >>> ((2 : Int32).toUInt32 &&& Int32.toUInt32 31)).toInt32).toUInt32 >>> ((1 : Int32).toUInt32 &&& Int32.toUInt32 31)).toInt32))), σ)) else (some (some (.int ((((1 : Int32) + (8 : Int32)) + (4 : Int32)) + ((((((((x0 ^^^ (-1 : Int32)) &&& (x0 - (1 : Int32))).toUInt32 >>> ((8 : Int32).toUInt32 &&& Int32.toUInt32 31)).toInt32).toUInt32 >>> ((4 : Int32).toUInt32 &&& Int32.toUInt32 31)).toInt32).toUInt32 >>> ((1 : Int32).toUInt32 &&& Int32.toUInt32 31)).toInt32))), σ))) else (if (4 : Int32) < ((((x0 ^^^ (-1 : Int32)) &&& (x0 - (1 : Int32))).toUInt32 >>> ((8 : Int32).toUInt32 &&& Int32.toUInt32 31)).toInt32) then (some (some (.int ((((1 : Int32) + (8 : Int32)) + (2 : Int32)) + ((((((((x0 ^^^ (-1 : Int32)) &&& (x0 - (1 : Int32))).toUInt32 >>> ((8 : Int32).toUInt32 &&& Int32.toUInt32 31)).toInt32).toUInt32 >>> ((2 : Int32).toUInt32 &&& Int32.toUInt32 31)).toInt32).toUInt32 >>> ((1 : Int32).toUInt32 &&& Int32.toUInt32 31)).toInt32))), σ)) else (some (some (.int (((1 : Int32) + (8 : Int32)) + ((((((x0 ^^^ (-1 : Int32)) &&& (x0 - (1 : Int32))).toUInt32 >>> ((8 : Int32).toUInt32 &&& Int32.toUInt32 31)).toInt32).toUInt32 >>> ((1 : Int32).toUInt32 &&& Int32.toUInt32 31)).toInt32))), σ)))) else (if (16 : Int32) < ((x0 ^^^ (-1 : Int32)) &&& (x0 - (1 : Int32))) then (if (4 : Int32) < ((((x0 ^^^ (-1 : Int32)) &&& (x0 - (1 : Int32))).toUInt32 >>> ((4 : Int32).toUInt32 &&& Int32.toUInt32 31)).toInt32) then (some (some (.int ((((1 : Int32) + (4 : Int32)) + (2 : Int32)) + ((((((((x0 ^^^ (-1 : Int32)) &&& (x0 - (1 : Int32))).toUInt32 >>> ((4 : Int32).toUInt32 &&& Int32.toUInt32 31)).toInt32).toUInt32 >>> ((2 : Int32).toUInt32 &&& Int32.toUInt32 31)).toInt32).toUInt32 >>> ((1 : Int32).toUInt32 &&& Int32.toUInt32 31)).toInt32))), σ)) else (some (some (.int (((1 : Int32) + (4 : Int32)) + ((((((x0 ^^^ (-1 : Int32)) &&& (x0 - (1 : Int32))).toUInt32 >>> ((4 : Int32).toUInt32 &&& Int32.toUInt32 31)).toInt32).toUInt32 >>> ((1 : Int32).toUInt32 &&& Int32.toUInt32 31)).toInt32))), σ))) else (if (4 : Int32) < ((x0 ^^^ (-1 : Int32)) &&& (x0 - (1 : Int32))) then (some (some (.int (((1 : Int32) + (2 : Int32)) + ((((((x0 ^^^ (-1 : Int32)) &&& (x0 - (1 : Int32))).toUInt32 >>> ((2 : Int32).toUInt32 &&& Int32.toUInt32 31)).toInt32).toUInt32 >>> ((1 : Int32).toUInt32 &&& Int32.toUInt32 31)).toInt32))), σ)) else (some (some (.int ((1 : Int32) + ((((x0 ^^^ (-1 : Int32)) &&& (x0 - (1 : Int32))).toUInt32 >>> ((1 : Int32).toUInt32 &&& Int32.toUInt32 31)).toInt32))), σ)))))) else (some (some (.int (((x0 ^^^ (-1 : Int32)) &&& (x0 - (1 : Int32))) &&& (32 : Int32))), σ)) := by
  refine (E_il c_118_0 rfl).trans ?_
  refine (E_ic (v := (-1 : Int32)) c_118_1 (by decide)).trans ?_
  refine (E_ixor c_118_2).trans ?_
  refine (E_il c_118_3 rfl).trans ?_
  refine (E_ic (v := (1 : Int32)) c_118_4 (by decide)).trans ?_
  refine (E_isub c_118_5).trans ?_
  refine (E_iand c_118_6).trans ?_
  refine (E_is (L' := [.int ((x0 ^^^ (-1 : Int32)) &&& (x0 - (1 : Int32))), .null]) c_118_7 (Nat.le_of_ble_eq_true rfl) rfl).trans ?_
  refine (E_il c_118_8 rfl).trans ?_
  refine (E_b0_gt (q := 17) c_118_9 rfl).trans (ax_ite ?_ ?_)
  · refine (E_ic (v := (1 : Int32)) c_118_17 (by decide)).trans ?_
    refine (E_is (L' := [.int ((x0 ^^^ (-1 : Int32)) &&& (x0 - (1 : Int32))), .int (1 : Int32)]) c_118_18 (Nat.le_of_ble_eq_true rfl) rfl).trans ?_
    refine (E_il c_118_19 rfl).trans ?_
    refine (E_ic (v := (65536 : Int32)) c_118_20 (by decide)).trans ?_
    refine (E_br_le (q := 34) c_118_23 rfl).trans (ax_ite ?_ ?_)
    · refine (E_inc (v := (16 : Int32)) (L' := [.int ((x0 ^^^ (-1 : Int32)) &&& (x0 - (1 : Int32))), .int ((1 : Int32) + (16 : Int32))]) c_118_26 rfl (by decide) rfl).trans ?_
      refine (E_il c_118_29 rfl).trans ?_
      refine (E_ic (v := (16 : Int32)) c_118_30 (by decide)).trans ?_
      refine (E_iushr c_118_32).trans ?_
      refine (E_is (L' := [.int ((((x0 ^^^ (-1 : Int32)) &&& (x0 - (1 : Int32))).toUInt32 >>> ((16 : Int32).toUInt32 &&& Int32.toUInt32 31)).toInt32), .int ((1 : Int32) + (16 : Int32))]) c_118_33 (Nat.le_of_ble_eq_true rfl) rfl).trans ?_
      refine (E_il c_118_34 rfl).trans ?_
      refine (E_ic (v := (256 : Int32)) c_118_35 (by decide)).trans ?_
      refine (E_br_le (q := 49) c_118_38 rfl).trans (ax_ite ?_ ?_)
      · refine (E_inc (v := (8 : Int32)) (L' := [.int ((((x0 ^^^ (-1 : Int32)) &&& (x0 - (1 : Int32))).toUInt32 >>> ((16 : Int32).toUInt32 &&& Int32.toUInt32 31)).toInt32), .int (((1 : Int32) + (16 : Int32)) + (8 : Int32))]) c_118_41 rfl (by decide) rfl).trans ?_
        refine (E_il c_118_44 rfl).trans ?_
        refine (E_ic (v := (8 : Int32)) c_118_45 (by decide)).trans ?_
        refine (E_iushr c_118_47).trans ?_
        refine (E_is (L' := [.int ((((((x0 ^^^ (-1 : Int32)) &&& (x0 - (1 : Int32))).toUInt32 >>> ((16 : Int32).toUInt32 &&& Int32.toUInt32 31)).toInt32).toUInt32 >>> ((8 : Int32).toUInt32 &&& Int32.toUInt32 31)).toInt32), .int (((1 : Int32) + (16 : Int32)) + (8 : Int32))]) c_118_48 (Nat.le_of_ble_eq_true rfl) rfl).trans ?_
        refine (E_il c_118_49 rfl).trans ?_
        refine (E_ic (v := (16 : Int32)) c_118_50 (by decide)).trans ?_
        refine (E_br_le (q := 62) c_118_52 rfl).trans (ax_ite ?_ ?_)
        · refine (E_inc (v := (4 : Int32)) (L' := [.int ((((((x0 ^^^ (-1 : Int32)) &&& (x0 - (1 : Int32))).toUInt32 >>> ((16 : Int32).toUInt32 &&& Int32.toUInt32 31)).toInt32).toUInt32 >>> ((8 : Int32).toUInt32 &&& Int32.toUInt32 31)).toInt32), .int ((((1 : Int32) + (16 : Int32)) + (8 : Int32)) + (4 : Int32))]) c_118_55 rfl (by decide) rfl).trans ?_
          refine (E_il c_118_58 rfl).trans ?_
          refine (E_ic (v := (4 : Int32)) c_118_59 (by decide)).trans ?_
          refine (E_iushr c_118_60).trans ?_
          refine (E_is (L' := [.int ((((((((x0 ^^^ (-1 : Int32)) &&& (x0 - (1 : Int32))).toUInt32 >>> ((16 : Int32).toUInt32 &&& Int32.toUInt32 31)).toInt32).toUInt32 >>> ((8 : Int32).toUInt32 &&& Int32.toUInt32 31)).toInt32).toUInt32 >>> ((4 : Int32).toUInt32 &&& Int32.toUInt32 31)).toInt32), .int ((((1 : Int32) + (16 : Int32)) + (8 : Int32)) + (4 : Int32))]) c_118_61 (Nat.le_of_ble_eq_true rfl) rfl).trans ?_
          refine (E_il c_118_62 rfl).trans ?_
          refine (E_ic (v := (4 : Int32)) c_118_63 (by decide)).trans ?_
          refine (E_br_le (q := 74) c_118_64 rfl).trans (ax_ite ?_ ?_)
          · refine (E_inc (v := (2 : Int32)) (L' := [.int ((((((((x0 ^^^ (-1 : Int32)) &&& (x0 - (1 : Int32))).toUInt32 >>> ((16 : Int32).toUInt32 &&& Int32.toUInt32 31)).toInt32).toUInt32 >>> ((8 : Int32).toUInt32 &&& Int32.toUInt32 31)).toInt32).toUInt32 >>> ((4 : Int32).toUInt32 &&& Int32.toUInt32 31)).toInt32), .int (((((1 : Int32) + (16 : Int32)) + (8 : Int32)) + (4 : Int32)) + (2 : Int32))]) c_118_67 rfl (by decide) rfl).trans ?_
            refine (E_il c_118_70 rfl).trans ?_
            refine (E_ic (v := (2 : Int32)) c_118_71 (by decide)).trans ?_
            refine (E_iushr c_118_72).trans ?_
            refine (E_is (L' := [.int ((((((((((x0 ^^^ (-1 : Int32)) &&& (x0 - (1 : Int32))).toUInt32 >>> ((16 : Int32).toUInt32 &&& Int32.toUInt32 31)).toInt32).toUInt32 >>> ((8 : Int32).toUInt32 &&& Int32.toUInt32 31)).toInt32).toUInt32 >>> ((4 : Int32).toUInt32 &&& Int32.toUInt32 31)).toInt32).toUInt32 >>> ((2 : Int32).toUInt32 &&& Int32.toUInt32 31)).toInt32), .int (((((1 : Int32) + (16 : Int32)) + (8 : Int32)) + (4 : Int32)) + (2 : Int32))]) c_118_73 (Nat.le_of_ble_eq_true rfl) rfl).trans ?_
            refine (E_il c_118_74 rfl).trans ?_
            refine (E_il c_118_75 rfl).trans ?_
            refine (E_ic (v := (1 : Int32)) c_118_76 (by decide)).trans ?_
            refine (E_iushr c_118_77).trans ?_
            refine (E_iadd c_118_78).trans ?_
            exact E_rI c_118_79 mi_118
          · refine (E_il c_118_74 rfl).trans ?_
            refine (E_il c_118_75 rfl).trans ?_
            refine (E_ic (v := (1 : Int32)) c_118_76 (by decide)).trans ?_
            refine (E_iushr c_118_77).trans ?_
            refine (E_iadd c_118_78).trans ?_
            exact E_rI c_118_79 mi_118
        · refine (E_il c_118_62 rfl).trans ?_
          refine (E_ic (v := (4 : Int32)) c_118_63 (by decide)).trans ?_
          refine (E_br_le (q := 74) c_118_64 rfl).trans (ax_ite ?_ ?_)
          · refine (E_inc (v := (2 : Int32)) (L' := [.int ((((((x0 ^^^ (-1 : Int32)) &&& (x0 - (1 : Int32))).toUInt32 >>> ((16 : Int32).toUInt32 &&& Int32.toUInt32 31)).toInt32).toUInt32 >>> ((8 : Int32).toUInt32 &&& Int32.toUInt32 31)).toInt32), .int ((((1 : Int32) + (16 : Int32)) + (8 : Int32)) + (2 : Int32))]) c_118_67 rfl (by decide) rfl).trans ?_
            refine (E_il c_118_70 rfl).trans ?_
            refine (E_ic (v := (2 : Int32)) c_118_71 (by decide)).trans ?_
            refine (E_iushr c_118_72).trans ?_
            refine (E_is (L' := [.int ((((((((x0 ^^^ (-1 : Int32)) &&& (x0 - (1 : Int32))).toUInt32 >>> ((16 : Int32).toUInt32 &&& Int32.toUInt32 31)).toInt32).toUInt32 >>> ((8 : Int32).toUInt32 &&& Int32.toUInt32 31)).toInt32).toUInt32 >>> ((2 : Int32).toUInt32 &&& Int32.toUInt32 31)).toInt32), .int ((((1 : Int32) + (16 : Int32)) + (8 : Int32)) + (2 : Int32))]) c_118_73 (Nat.le_of_ble_eq_true rfl) rfl).trans ?_
            refine (E_il c_118_74 rfl).trans ?_
            refine (E_il c_118_75 rfl).trans ?_
            refine (E_ic (v := (1 : Int32)) c_118_76 (by decide)).trans ?_
            refine (E_iushr c_118_77).trans ?_
            refine (E_iadd c_118_78).trans ?_
            exact E_rI c_118_79 mi_118
          · refine (E_il c_118_74 rfl).trans ?_
            refine (E_il c_118_75 rfl).trans ?_
            refine (E_ic (v := (1 : Int32)) c_118_76 (by decide)).trans ?_
            refine (E_iushr c_118_77).trans ?_
            refine (E_iadd c_118_78).trans ?_
            exact E_rI c_118_79 mi_118
      · refine (E_il c_118_49 rfl).trans ?_
        refine (E_ic (v := (16 : Int32)) c_118_50 (by decide)).trans ?_
        refine (E_br_le (q := 62) c_118_52 rfl).trans (ax_ite ?_ ?_)
        · refine (E_inc (v := (4 : Int32)) (L' := [.int ((((x0 ^^^ (-1 : Int32)) &&& (x0 - (1 : Int32))).toUInt32 >>> ((16 : Int32).toUInt32 &&& Int32.toUInt32 31)).toInt32), .int (((1 : Int32) + (16 : Int32)) + (4 : Int32))]) c_118_55 rfl (by decide) rfl).trans ?_
          refine (E_il c_118_58 rfl).trans ?_
          refine (E_ic (v := (4 : Int32)) c_118_59 (by decide)).trans ?_
          refine (E_iushr c_118_60).trans ?_
          refine (E_is (L' := [.int ((((((x0 ^^^ (-1 : Int32)) &&& (x0 - (1 : Int32))).toUInt32 >>> ((16 : Int32).toUInt32 &&& Int32.toUInt32 31)).toInt32).toUInt32 >>> ((4 : Int32).toUInt32 &&& Int32.toUInt32 31)).toInt32), .int (((1 : Int32) + (16 : Int32)) + (4 : Int32))]) c_118_61 (Nat.le_of_ble_eq_true rfl) rfl).trans ?_
          refine (E_il c_118_62 rfl).trans ?_
          refine (E_ic (v := (4 : Int32)) c_118_63 (by decide)).trans ?_
          refine (E_br_le (q := 74) c_118_64 rfl).trans (ax_ite ?_ ?_)
          · refine (E_inc (v := (2 : Int32)) (L' := [.int ((((((x0 ^^^ (-1 : Int32)) &&& (x0 - (1 : Int32))).toUInt32 >>> ((16 : Int32).toUInt32 &&& Int32.toUInt32 31)).toInt32).toUInt32 >>> ((4 : Int32).toUInt32 &&& Int32.toUInt32 31)).toInt32), .int ((((1 : Int32) + (16 : Int32)) + (4 : Int32)) + (2 : Int32))]) c_118_67 rfl (by decide) rfl).trans ?_
            refine (E_il c_118_70 rfl).trans ?_
            refine (E_ic (v := (2 : Int32)) c_118_71 (by decide)).trans ?_
            refine (E_iushr c_118_72).trans ?_
            refine (E_is (L' := [.int ((((((((x0 ^^^ (-1 : Int32)) &&& (x0 - (1 : Int32))).toUInt32 >>> ((16 : Int32).toUInt32 &&& Int32.toUInt32 31)).toInt32).toUInt32 >>> ((4 : Int32).toUInt32 &&& Int32.toUInt32 31)).toInt32).toUInt32 >>> ((2 : Int32).toUInt32 &&& Int32.toUInt32 31)).toInt32), .int ((((1 : Int32) + (16 : Int32)) + (4 : Int32)) + (2 : Int32))]) c_118_73 (Nat.le_of_ble_eq_true rfl) rfl).trans ?_
            refine (E_il c_118_74 rfl).trans ?_
            refine (E_il c_118_75 rfl).trans ?_
            refine (E_ic (v := (1 : Int32)) c_118_76 (by decide)).trans ?_
            refine (E_iushr c_118_77).trans ?_
            refine (E_iadd c_118_78).trans ?_
            exact E_rI c_118_79 mi_118
          · refine (E_il c_118_74 rfl).trans ?_
            refine (E_il c_118_75 rfl).trans ?_
            refine (E_ic (v := (1 : Int32)) c_118_76 (by decide)).trans ?_
            refine (E_iushr c_118_77).trans ?_
            refine (E_iadd c_118_78).trans ?_
            exact E_rI c_118_79 mi_118
        · refine (E_il c_118_62 rfl).trans ?_
          refine (E_ic (v := (4 : Int32)) c_118_63 (by decide)).trans ?_
          refine (E_br_le (q := 74) c_118_64 rfl).trans (ax_ite ?_ ?_)
          · refine (E_inc (v := (2 : Int32)) (L' := [.int ((((x0 ^^^ (-1 : Int32)) &&& (x0 - (1 : Int32))).toUInt32 >>> ((16 : Int32).toUInt32 &&& Int32.toUInt32 31)).toInt32), .int (((1 : Int32) + (16 : Int32)) + (2 : Int32))]) c_118_67 rfl (by decide) rfl).trans ?_
            refine (E_il c_118_70 rfl).trans ?_
            refine (E_ic (v := (2 : Int32)) c_118_71 (by decide)).trans ?_
            refine (E_iushr c_118_72).trans ?_
            refine (E_is (L' := [.int ((((((x0 ^^^ (-1 : Int32)) &&& (x0 - (1 : Int32))).toUInt32 >>> ((16 : Int32).toUInt32 &&& Int32.toUInt32 31)).toInt32).toUInt32 >>> ((2 : Int32).toUInt32 &&& Int32.toUInt32 31)).toInt32), .int (((1 : Int32) + (16 : Int32)) + (2 : Int32))]) c_118_73 (Nat.le_of_ble_eq_true rfl) rfl).trans ?_
            refine (E_il c_118_74 rfl).trans ?_
            refine (E_il c_118_75 rfl).trans ?_
            refine (E_ic (v := (1 : Int32)) c_118_76 (by decide)).trans ?_
            refine (E_iushr c_118_77).trans ?_
            refine (E_iadd c_118_78).trans ?_
            exact E_rI c_118_79 mi_118
          · refine (E_il c_118_74 rfl).trans ?_
            refine (E_il c_118_75 rfl).trans ?_
            refine (E_ic (v := (1 : Int32)) c_118_76 (by decide)).trans ?_
            refine (E_iushr c_118_77).trans ?_
            refine (E_iadd c_118_78).trans ?_
            exact E_rI c_118_79 mi_118
    · refine (E_il c_118_34 rfl).trans ?_
      refine (E_ic (v := (256 : Int32)) c_118_35 (by decide)).trans ?_
      refine (E_br_le (q := 49) c_118_38 rfl).trans (ax_ite ?_ ?_)
      · refine (E_inc (v := (8 : Int32)) (L' := [.int ((x0 ^^^ (-1 : Int32)) &&& (x0 - (1 : Int32))), .int ((1 : Int32) + (8 : Int32))]) c_118_41 rfl (by decide) rfl).trans ?_
        refine (E_il c_118_44 rfl).trans ?_
        refine (E_ic (v := (8 : Int32)) c_118_45 (by decide)).trans ?_
        refine (E_iushr c_118_47).trans ?_
        refine (E_is (L' := [.int ((((x0 ^^^ (-1 : Int32)) &&& (x0 - (1 : Int32))).toUInt32 >>> ((8 : Int32).toUInt32 &&& Int32.toUInt32 31)).toInt32), .int ((1 : Int32) + (8 : Int32))]) c_118_48 (Nat.le_of_ble_eq_true rfl) rfl).trans ?_
        refine (E_il c_118_49 rfl).trans ?_
        refine (E_ic (v := (16 : Int32)) c_118_50 (by decide)).trans ?_
        refine (E_br_le (q := 62) c_118_52 rfl).trans (ax_ite ?_ ?_)
        · refine (E_inc (v := (4 : Int32)) (L' := [.int ((((x0 ^^^ (-1 : Int32)) &&& (x0 - (1 : Int32))).toUInt32 >>> ((8 : Int32).toUInt32 &&& Int32.toUInt32 31)).toInt32), .int (((1 : Int32) + (8 : Int32)) + (4 : Int32))]) c_118_55 rfl (by decide) rfl).trans ?_
          refine (E_il c_118_58 rfl).trans ?_
          refine (E_ic (v := (4 : Int32)) c_118_59 (by decide)).trans ?_
          refine (E_iushr c_118_60).trans ?_
          refine (E_is (L' := [.int ((((((x0 ^^^ (-1 : Int32)) &&& (x0 - (1 : Int32))).toUInt32 >>> ((8 : Int32).toUInt32 &&& Int32.toUInt32 31)).toInt32).toUInt32 >>> ((4 : Int32).toUInt32 &&& Int32.toUInt32 31)).toInt32), .int (((1 : Int32) + (8 : Int32)) + (4 : Int32))]) c_118_61 (Nat.le_of_ble_eq_true rfl) rfl).trans ?_
          refine (E_il c_118_62 rfl).trans ?_
          refine (E_ic (v := (4 : Int32)) c_118_63 (by decide)).trans ?_
          refine (E_br_le (q := 74) c_118_64 rfl).trans (ax_ite ?_ ?_)
          · refine (E_inc (v := (2 : Int32)) (L' := [.int ((((((x0 ^^^ (-1 : Int32)) &&& (x0 - (1 : Int32))).toUInt32 >>> ((8 : Int32).toUInt32 &&& Int32.toUInt32 31)).toInt32).toUInt32 >>> ((4 : Int32).toUInt32 &&& Int32.toUInt32 31)).toInt32), .int ((((1 : Int32) + (8 : Int32)) + (4 : Int32)) + (2 : Int32))]) c_118_67 rfl (by decide) rfl).trans ?_
            refine (E_il c_118_70 rfl).trans ?_
            refine (E_ic (v := (2 : Int32)) c_118_71 (by decide)).trans ?_
            refine (E_iushr c_118_72).trans ?_
            refine (E_is (L' := [.int ((((((((x0 ^^^ (-1 : Int32)) &&& (x0 - (1 : Int32))).toUInt32 >>> ((8 : Int32).toUInt32 &&& Int32.toUInt32 31)).toInt32).toUInt32 >>> ((4 : Int32).toUInt32 &&& Int32.toUInt32 31)).toInt32).toUInt32 >>> ((2 : Int32).toUInt32 &&& Int32.toUInt32 31)).toInt32), .int ((((1 : Int32) + (8 : Int32)) + (4 : Int32)) + (2 : Int32))]) c_118_73 (Nat.le_of_ble_eq_true rfl) rfl).trans ?_
            refine (E_il c_118_74 rfl).trans ?_
            refine (E_il c_118_75 rfl).trans ?_
            refine (E_ic (v := (1 : Int32)) c_118_76 (by decide)).trans ?_
            refine (E_iushr c_118_77).trans ?_
            refine (E_iadd c_118_78).trans ?_
            exact E_rI c_118_79 mi_118
          · refine (E_il c_118_74 rfl).trans ?_
            refine (E_il c_118_75 rfl).trans ?_
            refine (E_ic (v := (1 : Int32)) c_118_76 (by decide)).trans ?_
            refine (E_iushr c_118_77).trans ?_
            refine (E_iadd c_118_78).trans ?_
            exact E_rI c_118_79 mi_118
        · refine (E_il c_118_62 rfl).trans ?_
          refine (E_ic (v := (4 : Int32)) c_118_63 (by decide)).trans ?_
          refine (E_br_le (q := 74) c_118_64 rfl).trans (ax_ite ?_ ?_)
          · refine (E_inc (v := (2 : Int32)) (L' := [.int ((((x0 ^^^ (-1 : Int32)) &&& (x0 - (1 : Int32))).toUInt32 >>> ((8 : Int32).toUInt32 &&& Int32.toUInt32 31)).toInt32), .int (((1 : Int32) + (8 : Int32)) + (2 : Int32))]) c_118_67 rfl (by decide) rfl).trans ?_
            refine (E_il c_118_70 rfl).trans ?_
            refine (E_ic (v := (2 : Int32)) c_118_71 (by decide)).trans ?_
            refine (E_iushr c_118_72).trans ?_
            refine (E_is (L' := [.int ((((((x0 ^^^ (-1 : Int32)) &&& (x0 - (1 : Int32))).toUInt32 >>> ((8 : Int32).toUInt32 &&& Int32.toUInt32 31)).toInt32).toUInt32 >>> ((2 : Int32).toUInt32 &&& Int32.toUInt32 31)).toInt32), .int (((1 : Int32) + (8 : Int32)) + (2 : Int32))]) c_118_73 (Nat.le_of_ble_eq_true rfl) rfl).trans ?_
            refine (E_il c_118_74 rfl).trans ?_
            refine (E_il c_118_75 rfl).trans ?_
            refine (E_ic (v := (1 : Int32)) c_118_76 (by decide)).trans ?_
            refine (E_iushr c_118_77).trans ?_
            refine (E_iadd c_118_78).trans ?_
            exact E_rI c_118_79 mi_118
          · refine (E_il c_118_74 rfl).trans ?_
            refine (E_il c_118_75 rfl).trans ?_
            refine (E_ic (v := (1 : Int32)) c_118_76 (by decide)).trans ?_
            refine (E_iushr c_118_77).trans ?_
            refine (E_iadd c_118_78).trans ?_
            exact E_rI c_118_79 mi_118
      · refine (E_il c_118_49 rfl).trans ?_
        refine (E_ic (v := (16 : Int32)) c_118_50 (by decide)).trans ?_
        refine (E_br_le (q := 62) c_118_52 rfl).trans (ax_ite ?_ ?_)
        · refine (E_inc (v := (4 : Int32)) (L' := [.int ((x0 ^^^ (-1 : Int32)) &&& (x0 - (1 : Int32))), .int ((1 : Int32) + (4 : Int32))]) c_118_55 rfl (by decide) rfl).trans ?_
          refine (E_il c_118_58 rfl).trans ?_
          refine (E_ic (v := (4 : Int32)) c_118_59 (by decide)).trans ?_
          refine (E_iushr c_118_60).trans ?_
          refine (E_is (L' := [.int ((((x0 ^^^ (-1 : Int32)) &&& (x0 - (1 : Int32))).toUInt32 >>> ((4 : Int32).toUInt32 &&& Int32.toUInt32 31)).toInt32), .int ((1 : Int32) + (4 : Int32))]) c_118_61 (Nat.le_of_ble_eq_true rfl) rfl).trans ?_
          refine (E_il c_118_62 rfl).trans ?_
          refine (E_ic (v := (4 : Int32)) c_118_63 (by decide)).trans ?_
          refine (E_br_le (q := 74) c_118_64 rfl).trans (ax_ite ?_ ?_)
          · refine (E_inc (v := (2 : Int32)) (L' := [.int ((((x0 ^^^ (-1 : Int32)) &&& (x0 - (1 : Int32))).toUInt32 >>> ((4 : Int32).toUInt32 &&& Int32.toUInt32 31)).toInt32), .int (((1 : Int32) + (4 : Int32)) + (2 : Int32))]) c_118_67 rfl (by decide) rfl).trans ?_
            refine (E_il c_118_70 rfl).trans ?_
            refine (E_ic (v := (2 : Int32)) c_118_71 (by decide)).trans ?_
            refine (E_iushr c_118_72).trans ?_
            refine (E_is (L' := [.int ((((((x0 ^^^ (-1 : Int32)) &&& (x0 - (1 : Int32))).toUInt32 >>> ((4 : Int32).toUInt32 &&& Int32.toUInt32 31)).toInt32).toUInt32 >>> ((2 : Int32).toUInt32 &&& Int32.toUInt32 31)).toInt32), .int (((1 : Int32) + (4 : Int32)) + (2 : Int32))]) c_118_73 (Nat.le_of_ble_eq_true rfl) rfl).trans ?_
            refine (E_il c_118_74 rfl).trans ?_
            refine (E_il c_118_75 rfl).trans ?_
            refine (E_ic (v := (1 : Int32)) c_118_76 (by decide)).trans ?_
            refine (E_iushr c_118_77).trans ?_
            refine (E_iadd c_118_78).trans ?_
            exact E_rI c_118_79 mi_118
          · refine (E_il c_118_74 rfl).trans ?_
            refine (E_il c_118_75 rfl).trans ?_
            refine (E_ic (v := (1 : Int32)) c_118_76 (by decide)).trans ?_
            refine (E_iushr c_118_77).trans ?_
            refine (E_iadd c_118_78).trans ?_
            exact E_rI c_118_79 mi_118
        · refine (E_il c_118_62 rfl).trans ?_
          refine (E_ic (v := (4 : Int32)) c_118_63 (by decide)).trans ?_
          refine (E_br_le (q := 74) c_118_64 rfl).trans (ax_ite ?_ ?_)
          · refine (E_inc (v := (2 : Int32)) (L' := [.int ((x0 ^^^ (-1 : Int32)) &&& (x0 - (1 : Int32))), .int ((1 : Int32) + (2 : Int32))]) c_118_67 rfl (by decide) rfl).trans ?_
            refine (E_il c_118_70 rfl).trans ?_
            refine (E_ic (v := (2 : Int32)) c_118_71 (by decide)).trans ?_
            refine (E_iushr c_118_72).trans ?_
            refine (E_is (L' := [.int ((((x0 ^^^ (-1 : Int32)) &&& (x0 - (1 : Int32))).toUInt32 >>> ((2 : Int32).toUInt32 &&& Int32.toUInt32 31)).toInt32), .int ((1 : Int32) + (2 : Int32))]) c_118_73 (Nat.le_of_ble_eq_true rfl) rfl).trans ?_
            refine (E_il c_118_74 rfl).trans ?_
            refine (E_il c_118_75 rfl).trans ?_
            refine (E_ic (v := (1 : Int32)) c_118_76 (by decide)).trans ?_
            refine (E_iushr c_118_77).trans ?_
            refine (E_iadd c_118_78).trans ?_
            exact E_rI c_118_79 mi_118
          · refine (E_il c_118_74 rfl).trans ?_
            refine (E_il c_118_75 rfl).trans ?_
            refine (E_ic (v := (1 : Int32)) c_118_76 (by decide)).trans ?_
            refine (E_iushr c_118_77).trans ?_
            refine (E_iadd c_118_78).trans ?_
            exact E_rI c_118_79 mi_118
  · refine (E_il c_118_12 rfl).trans ?_
    refine (E_ic (v := (32 : Int32)) c_118_13 (by decide)).trans ?_
    refine (E_iand c_118_15).trans ?_
    exact E_rI c_118_16 mi_118
