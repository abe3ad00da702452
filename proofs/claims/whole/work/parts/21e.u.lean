set_option maxHeartbeats 4000000 in
theorem u_98_61 (d : Nat) (σ : ax_S) (x1 : Int32) (x2 : Int32) (x3 : Int32) : ev sO (d + 1) 98 0 [.ref 61, .int x1, .int x2, .int x3] [] σ = (cI sO d 74 [.int x2] σ).bind fun u0 => if u0.1 = 0 then (some (some (.int (0 : Int32)), u0.2)) else ((cI sO d 74 [.int x3] u0.2).bind fun u1 => if u1.1 = 0 then (some (some (.int (0 : Int32)), u1.2)) else (if x1 = (1 : Int32) then (gd (0 ≤ x2.toInt ∧ x2.toInt < (11 : Nat)) (gd (0 ≤ x2.toInt ∧ x2.toInt < (11 : Nat)) (if (9999 : Int32) < ((sI u1.2 62 x2.toNatClampNeg (0 : Int32)).1 62 x2.toNatClampNeg) then (some (some (.int (0 : Int32)), (sI u1.2 62 x2.toNatClampNeg (0 : Int32)))) else (gd (0 ≤ x3.toInt ∧ x3.toInt < (11 : Nat)) (if (9999 : Int32) < ((sI u1.2 62 x2.toNatClampNeg (0 : Int32)).1 62 x3.toNatClampNeg) then (some (some (.int (0 : Int32)), (sI u1.2 62 x2.toNatClampNeg (0 : Int32)))) else (some (some (.int (1 : Int32)), (sI u1.2 62 x2.toNatClampNeg (0 : Int32))))))))) else (if x1 = (2 : Int32) then (gd (0 ≤ x2.toInt ∧ x2.toInt < (11 : Nat)) (if (u1.2.1 62 x2.toNatClampNeg) = (-1000000 : Int32) then (gd (0 ≤ x2.toInt ∧ x2.toInt < (11 : Nat)) (gd (0 ≤ x2.toInt ∧ x2.toInt < (11 : Nat)) (if (9999 : Int32) < ((sI u1.2 62 x2.toNatClampNeg (-1000000 : Int32)).1 62 x2.toNatClampNeg) then (some (some (.int (0 : Int32)), (sI u1.2 62 x2.toNatClampNeg (-1000000 : Int32)))) else (gd (0 ≤ x3.toInt ∧ x3.toInt < (11 : Nat)) (if (9999 : Int32) < ((sI u1.2 62 x2.toNatClampNeg (-1000000 : Int32)).1 62 x3.toNatClampNeg) then (some (some (.int (0 : Int32)), (sI u1.2 62 x2.toNatClampNeg (-1000000 : Int32)))) else (some (some (.int (1 : Int32)), (sI u1.2 62 x2.toNatClampNeg (-1000000 : Int32))))))))) else (gd (0 ≤ x2.toInt ∧ x2.toInt < (11 : Nat)) (gd (0 ≤ x2.toInt ∧ x2.toInt < (11 : Nat)) (gd (0 ≤ x2.toInt ∧ x2.toInt < (11 : Nat)) (if (9999 : Int32) < ((sI u1.2 62 x2.toNatClampNeg ((u1.2.1 62 x2.toNatClampNeg) * (2 : Int32))).1 62 x2.toNatClampNeg) then (some (some (.int (0 : Int32)), (sI u1.2 62 x2.toNatClampNeg ((u1.2.1 62 x2.toNatClampNeg) * (2 : Int32))))) else (gd (0 ≤ x3.toInt ∧ x3.toInt < (11 : Nat)) (if (9999 : Int32) < ((sI u1.2 62 x2.toNatClampNeg ((u1.2.1 62 x2.toNatClampNeg) * (2 : Int32))).1 62 x3.toNatClampNeg) then (some (some (.int (0 : Int32)), (sI u1.2 62 x2.toNatClampNeg ((u1.2.1 62 x2.toNatClampNeg) * (2 : Int32))))) else (some (some (.int (1 : Int32)), (sI u1.2 62 x2.toNatClampNeg ((u1.2.1 62 x2.toNatClampNeg) * (2 : Int32))))))))))))) else (if x1 = (3 : Int32) then (gd (0 ≤ x2.toInt ∧ x2.toInt < (11 : Nat)) (if (u1.2.1 62 x2.toNatClampNeg) = (-1000000 : Int32) then (gd (0 ≤ x2.toInt ∧ x2.toInt < (11 : Nat)) (gd (0 ≤ x2.toInt ∧ x2.toInt < (11 : Nat)) (if (9999 : Int32) < ((sI u1.2 62 x2.toNatClampNeg (-1000000 : Int32)).1 62 x2.toNatClampNeg) then (some (some (.int (0 : Int32)), (sI u1.2 62 x2.toNatClampNeg (-1000000 : Int32)))) else (gd (0 ≤ x3.toInt ∧ x3.toInt < (11 : Nat)) (if (9999 : Int32) < ((sI u1.2 62 x2.toNatClampNeg (-1000000 : Int32)).1 62 x3.toNatClampNeg) then (some (some (.int (0 : Int32)), (sI u1.2 62 x2.toNatClampNeg (-1000000 : Int32)))) else (some (some (.int (1 : Int32)), (sI u1.2 62 x2.toNatClampNeg (-1000000 : Int32))))))))) else (gd (0 ≤ x2.toInt ∧ x2.toInt < (11 : Nat)) (gd (0 ≤ x2.toInt ∧ x2.toInt < (11 : Nat)) (gd (0 ≤ x2.toInt ∧ x2.toInt < (11 : Nat)) (if (9999 : Int32) < ((sI u1.2 62 x2.toNatClampNeg ((u1.2.1 62 x2.toNatClampNeg) / (2 : Int32))).1 62 x2.toNatClampNeg) then (some (some (.int (0 : Int32)), (sI u1.2 62 x2.toNatClampNeg ((u1.2.1 62 x2.toNatClampNeg) / (2 : Int32))))) else (gd (0 ≤ x3.toInt ∧ x3.toInt < (11 : Nat)) (if (9999 : Int32) < ((sI u1.2 62 x2.toNatClampNeg ((u1.2.1 62 x2.toNatClampNeg) / (2 : Int32))).1 62 x3.toNatClampNeg) then (some (some (.int (0 : Int32)), (sI u1.2 62 x2.toNatClampNeg ((u1.2.1 62 x2.toNatClampNeg) / (2 : Int32))))) else (some (some (.int (1 : Int32)), (sI u1.2 62 x2.toNatClampNeg ((u1.2.1 62 x2.toNatClampNeg) / (2 : Int32))))))))))))) else (if x1 = (4 : Int32) then (gd (0 ≤ x2.toInt ∧ x2.toInt < (11 : Nat)) (if (u1.2.1 62 x2.toNatClampNeg) = (-1000000 : Int32) then (gd (0 ≤ x3.toInt ∧ x3.toInt < (11 : Nat)) (gd (0 ≤ x2.toInt ∧ x2.toInt < (11 : Nat)) (gd (0 ≤ x2.toInt ∧ x2.toInt < (11 : Nat)) (if (9999 : Int32) < ((sI (sI u1.2 62 x3.toNatClampNeg (-1000000 : Int32)) 62 x2.toNatClampNeg (0 : Int32)).1 62 x2.toNatClampNeg) then (some (some (.int (0 : Int32)), (sI (sI u1.2 62 x3.toNatClampNeg (-1000000 : Int32)) 62 x2.toNatClampNeg (0 : Int32)))) else (gd (0 ≤ x3.toInt ∧ x3.toInt < (11 : Nat)) (if (9999 : Int32) < ((sI (sI u1.2 62 x3.toNatClampNeg (-1000000 : Int32)) 62 x2.toNatClampNeg (0 : Int32)).1 62 x3.toNatClampNeg) then (some (some (.int (0 : Int32)), (sI (sI u1.2 62 x3.toNatClampNeg (-1000000 : Int32)) 62 x2.toNatClampNeg (0 : Int32)))) else (some (some (.int (1 : Int32)), (sI (sI u1.2 62 x3.toNatClampNeg (-1000000 : Int32)) 62 x2.toNatClampNeg (0 : Int32)))))))))) else (gd (0 ≤ x3.toInt ∧ x3.toInt < (11 : Nat)) (if (u1.2.1 62 x3.toNatClampNeg) = (-1000000 : Int32) then (gd (0 ≤ x3.toInt ∧ x3.toInt < (11 : Nat)) (gd (0 ≤ x2.toInt ∧ x2.toInt < (11 : Nat)) (gd (0 ≤ x2.toInt ∧ x2.toInt < (11 : Nat)) (if (9999 : Int32) < ((sI (sI u1.2 62 x3.toNatClampNeg (-1000000 : Int32)) 62 x2.toNatClampNeg (0 : Int32)).1 62 x2.toNatClampNeg) then (some (some (.int (0 : Int32)), (sI (sI u1.2 62 x3.toNatClampNeg (-1000000 : Int32)) 62 x2.toNatClampNeg (0 : Int32)))) else (gd (0 ≤ x3.toInt ∧ x3.toInt < (11 : Nat)) (if (9999 : Int32) < ((sI (sI u1.2 62 x3.toNatClampNeg (-1000000 : Int32)) 62 x2.toNatClampNeg (0 : Int32)).1 62 x3.toNatClampNeg) then (some (some (.int (0 : Int32)), (sI (sI u1.2 62 x3.toNatClampNeg (-1000000 : Int32)) 62 x2.toNatClampNeg (0 : Int32)))) else (some (some (.int (1 : Int32)), (sI (sI u1.2 62 x3.toNatClampNeg (-1000000 : Int32)) 62 x2.toNatClampNeg (0 : Int32)))))))))) else (gd (0 ≤ x2.toInt ∧ x2.toInt < (11 : Nat)) (gd (0 ≤ x3.toInt ∧ x3.toInt < (11 : Nat)) (gd (0 ≤ x3.toInt ∧ x3.toInt < (11 : Nat)) (gd (0 ≤ x2.toInt ∧ x2.toInt < (11 : Nat)) (gd (0 ≤ x2.toInt ∧ x2.toInt < (11 : Nat)) (if (9999 : Int32) < ((sI (sI u1.2 62 x3.toNatClampNeg ((u1.2.1 62 x2.toNatClampNeg) + (u1.2.1 62 x3.toNatClampNeg))) 62 x2.toNatClampNeg (0 : Int32)).1 62 x2.toNatClampNeg) then (some (some (.int (0 : Int32)), (sI (sI u1.2 62 x3.toNatClampNeg ((u1.2.1 62 x2.toNatClampNeg) + (u1.2.1 62 x3.toNatClampNeg))) 62 x2.toNatClampNeg (0 : Int32)))) else (gd (0 ≤ x3.toInt ∧ x3.toInt < (11 : Nat)) (if (9999 : Int32) < ((sI (sI u1.2 62 x3.toNatClampNeg ((u1.2.1 62 x2.toNatClampNeg) + (u1.2.1 62 x3.toNatClampNeg))) 62 x2.toNatClampNeg (0 : Int32)).1 62 x3.toNatClampNeg) then (some (some (.int (0 : Int32)), (sI (sI u1.2 62 x3.toNatClampNeg ((u1.2.1 62 x2.toNatClampNeg) + (u1.2.1 62 x3.toNatClampNeg))) 62 x2.toNatClampNeg (0 : Int32)))) else (some (some (.int (1 : Int32)), (sI (sI u1.2 62 x3.toNatClampNeg ((u1.2.1 62 x2.toNatClampNeg) + (u1.2.1 62 x3.toNatClampNeg))) 62 x2.toNatClampNeg (0 : Int32)))))))))))))))) else (if x1 = (5 : Int32) then (if (u1.2.1 62 8) = (-1000000 : Int32) then (gd (0 ≤ x2.toInt ∧ x2.toInt < (11 : Nat)) (if (9999 : Int32) < ((sI u1.2 62 8 (-1000000 : Int32)).1 62 x2.toNatClampNeg) then (some (some (.int (0 : Int32)), (sI u1.2 62 8 (-1000000 : Int32)))) else (gd (0 ≤ x3.toInt ∧ x3.toInt < (11 : Nat)) (if (9999 : Int32) < ((sI u1.2 62 8 (-1000000 : Int32)).1 62 x3.toNatClampNeg) then (some (some (.int (0 : Int32)), (sI u1.2 62 8 (-1000000 : Int32)))) else (some (some (.int (1 : Int32)), (sI u1.2 62 8 (-1000000 : Int32)))))))) else (gd (0 ≤ x2.toInt ∧ x2.toInt < (11 : Nat)) (if (9999 : Int32) < ((sI u1.2 62 8 (if (9 : Int32) < ((u1.2.1 62 8) + (1 : Int32)) then (9 : Int32) else ((u1.2.1 62 8) + (1 : Int32)))).1 62 x2.toNatClampNeg) then (some (some (.int (0 : Int32)), (sI u1.2 62 8 (if (9 : Int32) < ((u1.2.1 62 8) + (1 : Int32)) then (9 : Int32) else ((u1.2.1 62 8) + (1 : Int32)))))) else (gd (0 ≤ x3.toInt ∧ x3.toInt < (11 : Nat)) (if (9999 : Int32) < ((sI u1.2 62 8 (if (9 : Int32) < ((u1.2.1 62 8) + (1 : Int32)) then (9 : Int32) else ((u1.2.1 62 8) + (1 : Int32)))).1 62 x3.toNatClampNeg) then (some (some (.int (0 : Int32)), (sI u1.2 62 8 (if (9 : Int32) < ((u1.2.1 62 8) + (1 : Int32)) then (9 : Int32) else ((u1.2.1 62 8) + (1 : Int32)))))) else (some (some (.int (1 : Int32)), (sI u1.2 62 8 (if (9 : Int32) < ((u1.2.1 62 8) + (1 : Int32)) then (9 : Int32) else ((u1.2.1 62 8) + (1 : Int32))))))))))) else (if x1 = (6 : Int32) then (if (u1.2.1 62 9) = (-1000000 : Int32) then (gd (0 ≤ x2.toInt ∧ x2.toInt < (11 : Nat)) (if (9999 : Int32) < ((sI u1.2 62 9 (-1000000 : Int32)).1 62 x2.toNatClampNeg) then (some (some (.int (0 : Int32)), (sI u1.2 62 9 (-1000000 : Int32)))) else (gd (0 ≤ x3.toInt ∧ x3.toInt < (11 : Nat)) (if (9999 : Int32) < ((sI u1.2 62 9 (-1000000 : Int32)).1 62 x3.toNatClampNeg) then (some (some (.int (0 : Int32)), (sI u1.2 62 9 (-1000000 : Int32)))) else (some (some (.int (1 : Int32)), (sI u1.2 62 9 (-1000000 : Int32)))))))) else (gd (0 ≤ x2.toInt ∧ x2.toInt < (11 : Nat)) (if (9999 : Int32) < ((sI u1.2 62 9 (if ((u1.2.1 62 9) - (5 : Int32)) < (0 : Int32) then (0 : Int32) else ((u1.2.1 62 9) - (5 : Int32)))).1 62 x2.toNatClampNeg) then (some (some (.int (0 : Int32)), (sI u1.2 62 9 (if ((u1.2.1 62 9) - (5 : Int32)) < (0 : Int32) then (0 : Int32) else ((u1.2.1 62 9) - (5 : Int32)))))) else (gd (0 ≤ x3.toInt ∧ x3.toInt < (11 : Nat)) (if (9999 : Int32) < ((sI u1.2 62 9 (if ((u1.2.1 62 9) - (5 : Int32)) < (0 : Int32) then (0 : Int32) else ((u1.2.1 62 9) - (5 : Int32)))).1 62 x3.toNatClampNeg) then (some (some (.int (0 : Int32)), (sI u1.2 62 9 (if ((u1.2.1 62 9) - (5 : Int32)) < (0 : Int32) then (0 : Int32) else ((u1.2.1 62 9) - (5 : Int32)))))) else (some (some (.int (1 : Int32)), (sI u1.2 62 9 (if ((u1.2.1 62 9) - (5 : Int32)) < (0 : Int32) then (0 : Int32) else ((u1.2.1 62 9) - (5 : Int32))))))))))) else (gd (0 ≤ x2.toInt ∧ x2.toInt < (11 : Nat)) (if (9999 : Int32) < (u1.2.1 62 x2.toNatClampNeg) then (some (some (.int (0 : Int32)), u1.2)) else (gd (0 ≤ x3.toInt ∧ x3.toInt < (11 : Nat)) (if (9999 : Int32) < (u1.2.1 62 x3.toNatClampNeg) then (some (some (.int (0 : Int32)), u1.2)) else (some (some (.int (1 : Int32)), u1.2))))))))))))) := by
  refine (E_il c_98_0 rfl).trans ?_
  refine (E_cIS c_98_1 mi_74 rfl rfl (Nat.le_of_ble_eq_true rfl) (Nat.le_of_ble_eq_true rfl)).trans (ax_bnd fun u0 => ?_)
  refine (E_b0_eq (q := 14) c_98_4 rfl).trans (ax_ite ?_ ?_)
  · refine (E_ic (v := (0 : Int32)) c_98_14 (by decide)).trans ?_
    exact E_rZ (v := (0 : Int32)) c_98_15 mi_98 (by decide)
  · refine (E_il c_98_7 rfl).trans ?_
    refine (E_cIS c_98_8 mi_74 rfl rfl (Nat.le_of_ble_eq_true rfl) (Nat.le_of_ble_eq_true rfl)).trans (ax_bnd fun u1 => ?_)
    refine (E_b0_ne (q := 16) c_98_11 rfl).trans (ax_ite ?_ ?_)
    · refine (E_ic (v := (0 : Int32)) c_98_14 (by decide)).trans ?_
      exact E_rZ (v := (0 : Int32)) c_98_15 mi_98 (by decide)
    · refine (E_il c_98_16 rfl).trans ?_
      refine (E_sw c_98_17 [((1 : Int32), 56), ((2 : Int32), 66), ((3 : Int32), 99), ((4 : Int32), 132), ((5 : Int32), 188), ((6 : Int32), 229)] (q := 269) rfl (by decide) (by decide) (by decide)).trans ?_
      refine ev_sw1.trans (ax_ite ?_ ?_)
      · refine (E_al c_98_56 rfl (by decide)).trans ?_
        refine (E_gfr (k := 2) (r := 62) c_98_57 sh_61 rfl rfl rfl).trans ?_
        refine (E_il c_98_60 rfl).trans ?_
        refine (E_ic (v := (0 : Int32)) c_98_61 (by decide)).trans ?_
        refine (E_ias (v := (0 : Int32)) c_98_62 sh_62 rfl).trans (ax_gd ?_)
        refine (E_goto (q := 269) c_98_63 rfl).trans ?_
        refine (E_al c_98_269 rfl (by decide)).trans ?_
        refine (E_gfr (k := 2) (r := 62) c_98_270 sh_61 rfl rfl rfl).trans ?_
        refine (E_il c_98_273 rfl).trans ?_
        refine (E_ial c_98_274 sh_62).trans (ax_gd ?_)
        refine (E_ic (v := (9999 : Int32)) c_98_275 (by decide)).trans ?_
        refine (E_br_gt (q := 297) c_98_278 rfl).trans (ax_ite ?_ ?_)
        · refine (E_ic (v := (0 : Int32)) c_98_297 (by decide)).trans ?_
          exact E_rZ (v := (0 : Int32)) c_98_298 mi_98 (by decide)
        · refine (E_al c_98_281 rfl (by decide)).trans ?_
          refine (E_gfr (k := 2) (r := 62) c_98_282 sh_61 rfl rfl rfl).trans ?_
          refine (E_il c_98_285 rfl).trans ?_
          refine (E_ial c_98_286 sh_62).trans (ax_gd ?_)
          refine (E_ic (v := (9999 : Int32)) c_98_287 (by decide)).trans ?_
          refine (E_br_gt (q := 297) c_98_290 rfl).trans (ax_ite ?_ ?_)
          · refine (E_ic (v := (0 : Int32)) c_98_297 (by decide)).trans ?_
            exact E_rZ (v := (0 : Int32)) c_98_298 mi_98 (by decide)
          · refine (E_ic (v := (1 : Int32)) c_98_293 (by decide)).trans ?_
            refine (E_goto (q := 298) c_98_294 rfl).trans ?_
            exact E_rZ (v := (1 : Int32)) c_98_298 mi_98 (by decide)
      · refine ev_sw1.trans (ax_ite ?_ ?_)
        · refine (E_al c_98_66 rfl (by decide)).trans ?_
          refine (E_gfr (k := 2) (r := 62) c_98_67 sh_61 rfl rfl rfl).trans ?_
          refine (E_il c_98_70 rfl).trans ?_
          refine (E_al c_98_71 rfl (by decide)).trans ?_
          refine (E_gfr (k := 2) (r := 62) c_98_72 sh_61 rfl rfl rfl).trans ?_
          refine (E_il c_98_75 rfl).trans ?_
          refine (E_ial c_98_76 sh_62).trans (ax_gd ?_)
          refine (E_ic (v := (-1000000 : Int32)) c_98_77 (by decide)).trans ?_
          refine (E_br_ne (q := 87) c_98_79 rfl).trans (ax_ite ?_ ?_)
          · refine (E_ic (v := (-1000000 : Int32)) c_98_82 (by decide)).trans ?_
            refine (E_goto (q := 95) c_98_84 rfl).trans ?_
            refine (E_ias (v := (-1000000 : Int32)) c_98_95 sh_62 rfl).trans (ax_gd ?_)
            refine (E_goto (q := 269) c_98_96 rfl).trans ?_
            refine (E_al c_98_269 rfl (by decide)).trans ?_
            refine (E_gfr (k := 2) (r := 62) c_98_270 sh_61 rfl rfl rfl).trans ?_
            refine (E_il c_98_273 rfl).trans ?_
            refine (E_ial c_98_274 sh_62).trans (ax_gd ?_)
            refine (E_ic (v := (9999 : Int32)) c_98_275 (by decide)).trans ?_
            refine (E_br_gt (q := 297) c_98_278 rfl).trans (ax_ite ?_ ?_)
            · refine (E_ic (v := (0 : Int32)) c_98_297 (by decide)).trans ?_
              exact E_rZ (v := (0 : Int32)) c_98_298 mi_98 (by decide)
            · refine (E_al c_98_281 rfl (by decide)).trans ?_
              refine (E_gfr (k := 2) (r := 62) c_98_282 sh_61 rfl rfl rfl).trans ?_
              refine (E_il c_98_285 rfl).trans ?_
              refine (E_ial c_98_286 sh_62).trans (ax_gd ?_)
              refine (E_ic (v := (9999 : Int32)) c_98_287 (by decide)).trans ?_
              refine (E_br_gt (q := 297) c_98_290 rfl).trans (ax_ite ?_ ?_)
              · refine (E_ic (v := (0 : Int32)) c_98_297 (by decide)).trans ?_
                exact E_rZ (v := (0 : Int32)) c_98_298 mi_98 (by decide)
              · refine (E_ic (v := (1 : Int32)) c_98_293 (by decide)).trans ?_
                refine (E_goto (q := 298) c_98_294 rfl).trans ?_
                exact E_rZ (v := (1 : Int32)) c_98_298 mi_98 (by decide)
          · refine (E_al c_98_87 rfl (by decide)).trans ?_
            refine (E_gfr (k := 2) (r := 62) c_98_88 sh_61 rfl rfl rfl).trans ?_
            refine (E_il c_98_91 rfl).trans ?_
            refine (E_ial c_98_92 sh_62).trans (ax_gd ?_)
            refine (E_ic (v := (2 : Int32)) c_98_93 (by decide)).trans ?_
            refine (E_imul c_98_94).trans ?_
            refine (E_ias (v := ((u1.2.1 62 x2.toNatClampNeg) * (2 : Int32))) c_98_95 sh_62 rfl).trans (ax_gd ?_)
            refine (E_goto (q := 269) c_98_96 rfl).trans ?_
            refine (E_al c_98_269 rfl (by decide)).trans ?_
            refine (E_gfr (k := 2) (r := 62) c_98_270 sh_61 rfl rfl rfl).trans ?_
            refine (E_il c_98_273 rfl).trans ?_
            refine (E_ial c_98_274 sh_62).trans (ax_gd ?_)
            refine (E_ic (v := (9999 : Int32)) c_98_275 (by decide)).trans ?_
            refine (E_br_gt (q := 297) c_98_278 rfl).trans (ax_ite ?_ ?_)
            · refine (E_ic (v := (0 : Int32)) c_98_297 (by decide)).trans ?_
              exact E_rZ (v := (0 : Int32)) c_98_298 mi_98 (by decide)
            · refine (E_al c_98_281 rfl (by decide)).trans ?_
              refine (E_gfr (k := 2) (r := 62) c_98_282 sh_61 rfl rfl rfl).trans ?_
              refine (E_il c_98_285 rfl).trans ?_
              refine (E_ial c_98_286 sh_62).trans (ax_gd ?_)
              refine (E_ic (v := (9999 : Int32)) c_98_287 (by decide)).trans ?_
              refine (E_br_gt (q := 297) c_98_290 rfl).trans (ax_ite ?_ ?_)
              · refine (E_ic (v := (0 : Int32)) c_98_297 (by decide)).trans ?_
                exact E_rZ (v := (0 : Int32)) c_98_298 mi_98 (by decide)
              · refine (E_ic (v := (1 : Int32)) c_98_293 (by decide)).trans ?_
                refine (E_goto (q := 298) c_98_294 rfl).trans ?_
                exact E_rZ (v := (1 : Int32)) c_98_298 mi_98 (by decide)
        · refine ev_sw1.trans (ax_ite ?_ ?_)
          · refine (E_al c_98_99 rfl (by decide)).trans ?_
            refine (E_gfr (k := 2) (r := 62) c_98_100 sh_61 rfl rfl rfl).trans ?_
            refine (E_il c_98_103 rfl).trans ?_
            refine (E_al c_98_104 rfl (by decide)).trans ?_
            refine (E_gfr (k := 2) (r := 62) c_98_105 sh_61 rfl rfl rfl).trans ?_
            refine (E_il c_98_108 rfl).trans ?_
            refine (E_ial c_98_109 sh_62).trans (ax_gd ?_)
            refine (E_ic (v := (-1000000 : Int32)) c_98_110 (by decide)).trans ?_
            refine (E_br_ne (q := 120) c_98_112 rfl).trans (ax_ite ?_ ?_)
            · refine (E_ic (v := (-1000000 : Int32)) c_98_115 (by decide)).trans ?_
              refine (E_goto (q := 128) c_98_117 rfl).trans ?_
              refine (E_ias (v := (-1000000 : Int32)) c_98_128 sh_62 rfl).trans (ax_gd ?_)
              refine (E_goto (q := 269) c_98_129 rfl).trans ?_
              refine (E_al c_98_269 rfl (by decide)).trans ?_
              refine (E_gfr (k := 2) (r := 62) c_98_270 sh_61 rfl rfl rfl).trans ?_
              refine (E_il c_98_273 rfl).trans ?_
              refine (E_ial c_98_274 sh_62).trans (ax_gd ?_)
              refine (E_ic (v := (9999 : Int32)) c_98_275 (by decide)).trans ?_
              refine (E_br_gt (q := 297) c_98_278 rfl).trans (ax_ite ?_ ?_)
              · refine (E_ic (v := (0 : Int32)) c_98_297 (by decide)).trans ?_
                exact E_rZ (v := (0 : Int32)) c_98_298 mi_98 (by decide)
              · refine (E_al c_98_281 rfl (by decide)).trans ?_
                refine (E_gfr (k := 2) (r := 62) c_98_282 sh_61 rfl rfl rfl).trans ?_
                refine (E_il c_98_285 rfl).trans ?_
                refine (E_ial c_98_286 sh_62).trans (ax_gd ?_)
                refine (E_ic (v := (9999 : Int32)) c_98_287 (by decide)).trans ?_
                refine (E_br_gt (q := 297) c_98_290 rfl).trans (ax_ite ?_ ?_)
                · refine (E_ic (v := (0 : Int32)) c_98_297 (by decide)).trans ?_
                  exact E_rZ (v := (0 : Int32)) c_98_298 mi_98 (by decide)
                · refine (E_ic (v := (1 : Int32)) c_98_293 (by decide)).trans ?_
                  refine (E_goto (q := 298) c_98_294 rfl).trans ?_
                  exact E_rZ (v := (1 : Int32)) c_98_298 mi_98 (by decide)
            · refine (E_al c_98_120 rfl (by decide)).trans ?_
              refine (E_gfr (k := 2) (r := 62) c_98_121 sh_61 rfl rfl rfl).trans ?_
              refine (E_il c_98_124 rfl).trans ?_
              refine (E_ial c_98_125 sh_62).trans (ax_gd ?_)
              refine (E_ic (v := (2 : Int32)) c_98_126 (by decide)).trans ?_
              refine (E_idiv c_98_127 (by decide)).trans ?_
              refine (E_ias (v := ((u1.2.1 62 x2.toNatClampNeg) / (2 : Int32))) c_98_128 sh_62 rfl).trans (ax_gd ?_)
              refine (E_goto (q := 269) c_98_129 rfl).trans ?_
              refine (E_al c_98_269 rfl (by decide)).trans ?_
              refine (E_gfr (k := 2) (r := 62) c_98_270 sh_61 rfl rfl rfl).trans ?_
              refine (E_il c_98_273 rfl).trans ?_
              refine (E_ial c_98_274 sh_62).trans (ax_gd ?_)
              refine (E_ic (v := (9999 : Int32)) c_98_275 (by decide)).trans ?_
              refine (E_br_gt (q := 297) c_98_278 rfl).trans (ax_ite ?_ ?_)
              · refine (E_ic (v := (0 : Int32)) c_98_297 (by decide)).trans ?_
                exact E_rZ (v := (0 : Int32)) c_98_298 mi_98 (by decide)
              · refine (E_al c_98_281 rfl (by decide)).trans ?_
                refine (E_gfr (k := 2) (r := 62) c_98_282 sh_61 rfl rfl rfl).trans ?_
                refine (E_il c_98_285 rfl).trans ?_
                refine (E_ial c_98_286 sh_62).trans (ax_gd ?_)
                refine (E_ic (v := (9999 : Int32)) c_98_287 (by decide)).trans ?_
                refine (E_br_gt (q := 297) c_98_290 rfl).trans (ax_ite ?_ ?_)
                · refine (E_ic (v := (0 : Int32)) c_98_297 (by decide)).trans ?_
                  exact E_rZ (v := (0 : Int32)) c_98_298 mi_98 (by decide)
                · refine (E_ic (v := (1 : Int32)) c_98_293 (by decide)).trans ?_
                  refine (E_goto (q := 298) c_98_294 rfl).trans ?_
                  exact E_rZ (v := (1 : Int32)) c_98_298 mi_98 (by decide)
          · refine ev_sw1.trans (ax_ite ?_ ?_)
            · refine (E_al c_98_132 rfl (by decide)).trans ?_
              refine (E_gfr (k := 2) (r := 62) c_98_133 sh_61 rfl rfl rfl).trans ?_
              refine (E_il c_98_136 rfl).trans ?_
              refine (E_al c_98_137 rfl (by decide)).trans ?_
              refine (E_gfr (k := 2) (r := 62) c_98_138 sh_61 rfl rfl rfl).trans ?_
              refine (E_il c_98_141 rfl).trans ?_
              refine (E_ial c_98_142 sh_62).trans (ax_gd ?_)
              refine (E_ic (v := (-1000000 : Int32)) c_98_143 (by decide)).trans ?_
              refine (E_br_eq (q := 159) c_98_145 rfl).trans (ax_ite ?_ ?_)
              · refine (E_ic (v := (-1000000 : Int32)) c_98_159 (by decide)).trans ?_
                refine (E_goto (q := 177) c_98_161 rfl).trans ?_
                refine (E_ias (v := (-1000000 : Int32)) c_98_177 sh_62 rfl).trans (ax_gd ?_)
                refine (E_al c_98_178 rfl (by decide)).trans ?_
                refine (E_gfr (k := 2) (r := 62) c_98_179 sh_61 rfl rfl rfl).trans ?_
                refine (E_il c_98_182 rfl).trans ?_
                refine (E_ic (v := (0 : Int32)) c_98_183 (by decide)).trans ?_
                refine (E_ias (v := (0 : Int32)) c_98_184 sh_62 rfl).trans (ax_gd ?_)
                refine (E_goto (q := 269) c_98_185 rfl).trans ?_
                refine (E_al c_98_269 rfl (by decide)).trans ?_
                refine (E_gfr (k := 2) (r := 62) c_98_270 sh_61 rfl rfl rfl).trans ?_
                refine (E_il c_98_273 rfl).trans ?_
                refine (E_ial c_98_274 sh_62).trans (ax_gd ?_)
                refine (E_ic (v := (9999 : Int32)) c_98_275 (by decide)).trans ?_
                refine (E_br_gt (q := 297) c_98_278 rfl).trans (ax_ite ?_ ?_)
                · refine (E_ic (v := (0 : Int32)) c_98_297 (by decide)).trans ?_
                  exact E_rZ (v := (0 : Int32)) c_98_298 mi_98 (by decide)
                · refine (E_al c_98_281 rfl (by decide)).trans ?_
                  refine (E_gfr (k := 2) (r := 62) c_98_282 sh_61 rfl rfl rfl).trans ?_
                  refine (E_il c_98_285 rfl).trans ?_
                  refine (E_ial c_98_286 sh_62).trans (ax_gd ?_)
                  refine (E_ic (v := (9999 : Int32)) c_98_287 (by decide)).trans ?_
                  refine (E_br_gt (q := 297) c_98_290 rfl).trans (ax_ite ?_ ?_)
                  · refine (E_ic (v := (0 : Int32)) c_98_297 (by decide)).trans ?_
                    exact E_rZ (v := (0 : Int32)) c_98_298 mi_98 (by decide)
                  · refine (E_ic (v := (1 : Int32)) c_98_293 (by decide)).trans ?_
                    refine (E_goto (q := 298) c_98_294 rfl).trans ?_
                    exact E_rZ (v := (1 : Int32)) c_98_298 mi_98 (by decide)
              · refine (E_al c_98_148 rfl (by decide)).trans ?_
                refine (E_gfr (k := 2) (r := 62) c_98_149 sh_61 rfl rfl rfl).trans ?_
                refine (E_il c_98_152 rfl).trans ?_
                refine (E_ial c_98_153 sh_62).trans (ax_gd ?_)
                refine (E_ic (v := (-1000000 : Int32)) c_98_154 (by decide)).trans ?_
                refine (E_br_ne (q := 164) c_98_156 rfl).trans (ax_ite ?_ ?_)
                · refine (E_ic (v := (-1000000 : Int32)) c_98_159 (by decide)).trans ?_
                  refine (E_goto (q := 177) c_98_161 rfl).trans ?_
                  refine (E_ias (v := (-1000000 : Int32)) c_98_177 sh_62 rfl).trans (ax_gd ?_)
                  refine (E_al c_98_178 rfl (by decide)).trans ?_
                  refine (E_gfr (k := 2) (r := 62) c_98_179 sh_61 rfl rfl rfl).trans ?_
                  refine (E_il c_98_182 rfl).trans ?_
                  refine (E_ic (v := (0 : Int32)) c_98_183 (by decide)).trans ?_
                  refine (E_ias (v := (0 : Int32)) c_98_184 sh_62 rfl).trans (ax_gd ?_)
                  refine (E_goto (q := 269) c_98_185 rfl).trans ?_
                  refine (E_al c_98_269 rfl (by decide)).trans ?_
                  refine (E_gfr (k := 2) (r := 62) c_98_270 sh_61 rfl rfl rfl).trans ?_
                  refine (E_il c_98_273 rfl).trans ?_
                  refine (E_ial c_98_274 sh_62).trans (ax_gd ?_)
                  refine (E_ic (v := (9999 : Int32)) c_98_275 (by decide)).trans ?_
                  refine (E_br_gt (q := 297) c_98_278 rfl).trans (ax_ite ?_ ?_)
                  · refine (E_ic (v := (0 : Int32)) c_98_297 (by decide)).trans ?_
                    exact E_rZ (v := (0 : Int32)) c_98_298 mi_98 (by decide)
                  · refine (E_al c_98_281 rfl (by decide)).trans ?_
                    refine (E_gfr (k := 2) (r := 62) c_98_282 sh_61 rfl rfl rfl).trans ?_
                    refine (E_il c_98_285 rfl).trans ?_
                    refine (E_ial c_98_286 sh_62).trans (ax_gd ?_)
                    refine (E_ic (v := (9999 : Int32)) c_98_287 (by decide)).trans ?_
                    refine (E_br_gt (q := 297) c_98_290 rfl).trans (ax_ite ?_ ?_)
                    · refine (E_ic (v := (0 : Int32)) c_98_297 (by decide)).trans ?_
                      exact E_rZ (v := (0 : Int32)) c_98_298 mi_98 (by decide)
                    · refine (E_ic (v := (1 : Int32)) c_98_293 (by decide)).trans ?_
                      refine (E_goto (q := 298) c_98_294 rfl).trans ?_
                      exact E_rZ (v := (1 : Int32)) c_98_298 mi_98 (by decide)
                · refine (E_al c_98_164 rfl (by decide)).trans ?_
                  refine (E_gfr (k := 2) (r := 62) c_98_165 sh_61 rfl rfl rfl).trans ?_
                  refine (E_il c_98_168 rfl).trans ?_
                  refine (E_ial c_98_169 sh_62).trans (ax_gd ?_)
                  refine (E_al c_98_170 rfl (by decide)).trans ?_
                  refine (E_gfr (k := 2) (r := 62) c_98_171 sh_61 rfl rfl rfl).trans ?_
                  refine (E_il c_98_174 rfl).trans ?_
                  refine (E_ial c_98_175 sh_62).trans (ax_gd ?_)
                  refine (E_iadd c_98_176).trans ?_
                  refine (E_ias (v := ((u1.2.1 62 x2.toNatClampNeg) + (u1.2.1 62 x3.toNatClampNeg))) c_98_177 sh_62 rfl).trans (ax_gd ?_)
                  refine (E_al c_98_178 rfl (by decide)).trans ?_
                  refine (E_gfr (k := 2) (r := 62) c_98_179 sh_61 rfl rfl rfl).trans ?_
                  refine (E_il c_98_182 rfl).trans ?_
                  refine (E_ic (v := (0 : Int32)) c_98_183 (by decide)).trans ?_
                  refine (E_ias (v := (0 : Int32)) c_98_184 sh_62 rfl).trans (ax_gd ?_)
                  refine (E_goto (q := 269) c_98_185 rfl).trans ?_
                  refine (E_al c_98_269 rfl (by decide)).trans ?_
                  refine (E_gfr (k := 2) (r := 62) c_98_270 sh_61 rfl rfl rfl).trans ?_
                  refine (E_il c_98_273 rfl).trans ?_
                  refine (E_ial c_98_274 sh_62).trans (ax_gd ?_)
                  refine (E_ic (v := (9999 : Int32)) c_98_275 (by decide)).trans ?_
                  refine (E_br_gt (q := 297) c_98_278 rfl).trans (ax_ite ?_ ?_)
                  · refine (E_ic (v := (0 : Int32)) c_98_297 (by decide)).trans ?_
                    exact E_rZ (v := (0 : Int32)) c_98_298 mi_98 (by decide)
                  · refine (E_al c_98_281 rfl (by decide)).trans ?_
                    refine (E_gfr (k := 2) (r := 62) c_98_282 sh_61 rfl rfl rfl).trans ?_
                    refine (E_il c_98_285 rfl).trans ?_
                    refine (E_ial c_98_286 sh_62).trans (ax_gd ?_)
                    refine (E_ic (v := (9999 : Int32)) c_98_287 (by decide)).trans ?_
                    refine (E_br_gt (q := 297) c_98_290 rfl).trans (ax_ite ?_ ?_)
                    · refine (E_ic (v := (0 : Int32)) c_98_297 (by decide)).trans ?_
                      exact E_rZ (v := (0 : Int32)) c_98_298 mi_98 (by decide)
                    · refine (E_ic (v := (1 : Int32)) c_98_293 (by decide)).trans ?_
                      refine (E_goto (q := 298) c_98_294 rfl).trans ?_
                      exact E_rZ (v := (1 : Int32)) c_98_298 mi_98 (by decide)
            · refine ev_sw1.trans (ax_ite ?_ ?_)
              · refine (E_al c_98_188 rfl (by decide)).trans ?_
                refine (E_gfr (k := 2) (r := 62) c_98_189 sh_61 rfl rfl rfl).trans ?_
                refine (E_ic (v := (8 : Int32)) c_98_192 (by decide)).trans ?_
                refine (E_al c_98_194 rfl (by decide)).trans ?_
                refine (E_gfr (k := 2) (r := 62) c_98_195 sh_61 rfl rfl rfl).trans ?_
                refine (E_ic (v := (8 : Int32)) c_98_198 (by decide)).trans ?_
                refine (E_ialk (k := 8) c_98_200 sh_62 (by decide) (by decide)).trans ?_
                refine (E_ic (v := (-1000000 : Int32)) c_98_201 (by decide)).trans ?_
                refine (E_br_ne (q := 211) c_98_203 rfl).trans (ax_ite ?_ ?_)
                · refine (E_ic (v := (-1000000 : Int32)) c_98_206 (by decide)).trans ?_
                  refine (E_goto (q := 225) c_98_208 rfl).trans ?_
                  refine (E_iask (k := 8) (v := (-1000000 : Int32)) c_98_225 sh_62 rfl (by decide) (by decide)).trans ?_
                  refine (E_goto (q := 269) c_98_226 rfl).trans ?_
                  refine (E_al c_98_269 rfl (by decide)).trans ?_
                  refine (E_gfr (k := 2) (r := 62) c_98_270 sh_61 rfl rfl rfl).trans ?_
                  refine (E_il c_98_273 rfl).trans ?_
                  refine (E_ial c_98_274 sh_62).trans (ax_gd ?_)
                  refine (E_ic (v := (9999 : Int32)) c_98_275 (by decide)).trans ?_
                  refine (E_br_gt (q := 297) c_98_278 rfl).trans (ax_ite ?_ ?_)
                  · refine (E_ic (v := (0 : Int32)) c_98_297 (by decide)).trans ?_
                    exact E_rZ (v := (0 : Int32)) c_98_298 mi_98 (by decide)
                  · refine (E_al c_98_281 rfl (by decide)).trans ?_
                    refine (E_gfr (k := 2) (r := 62) c_98_282 sh_61 rfl rfl rfl).trans ?_
                    refine (E_il c_98_285 rfl).trans ?_
                    refine (E_ial c_98_286 sh_62).trans (ax_gd ?_)
                    refine (E_ic (v := (9999 : Int32)) c_98_287 (by decide)).trans ?_
                    refine (E_br_gt (q := 297) c_98_290 rfl).trans (ax_ite ?_ ?_)
                    · refine (E_ic (v := (0 : Int32)) c_98_297 (by decide)).trans ?_
                      exact E_rZ (v := (0 : Int32)) c_98_298 mi_98 (by decide)
                    · refine (E_ic (v := (1 : Int32)) c_98_293 (by decide)).trans ?_
                      refine (E_goto (q := 298) c_98_294 rfl).trans ?_
                      exact E_rZ (v := (1 : Int32)) c_98_298 mi_98 (by decide)
                · refine (E_al c_98_211 rfl (by decide)).trans ?_
                  refine (E_gfr (k := 2) (r := 62) c_98_212 sh_61 rfl rfl rfl).trans ?_
                  refine (E_ic (v := (8 : Int32)) c_98_215 (by decide)).trans ?_
                  refine (E_ialk (k := 8) c_98_217 sh_62 (by decide) (by decide)).trans ?_
                  refine (E_ic (v := (1 : Int32)) c_98_218 (by decide)).trans ?_
                  refine (E_iadd c_98_219).trans ?_
                  refine (E_ic (v := (9 : Int32)) c_98_220 (by decide)).trans ?_
                  refine (E_min c_98_222 (Nat.le_of_ble_eq_true rfl)).trans ?_
                  refine (E_iask (k := 8) (v := (if (9 : Int32) < ((u1.2.1 62 8) + (1 : Int32)) then (9 : Int32) else ((u1.2.1 62 8) + (1 : Int32)))) c_98_225 sh_62 rfl (by decide) (by decide)).trans ?_
                  refine (E_goto (q := 269) c_98_226 rfl).trans ?_
                  refine (E_al c_98_269 rfl (by decide)).trans ?_
                  refine (E_gfr (k := 2) (r := 62) c_98_270 sh_61 rfl rfl rfl).trans ?_
                  refine (E_il c_98_273 rfl).trans ?_
                  refine (E_ial c_98_274 sh_62).trans (ax_gd ?_)
                  refine (E_ic (v := (9999 : Int32)) c_98_275 (by decide)).trans ?_
                  refine (E_br_gt (q := 297) c_98_278 rfl).trans (ax_ite ?_ ?_)
                  · refine (E_ic (v := (0 : Int32)) c_98_297 (by decide)).trans ?_
                    exact E_rZ (v := (0 : Int32)) c_98_298 mi_98 (by decide)
                  · refine (E_al c_98_281 rfl (by decide)).trans ?_
                    refine (E_gfr (k := 2) (r := 62) c_98_282 sh_61 rfl rfl rfl).trans ?_
                    refine (E_il c_98_285 rfl).trans ?_
                    refine (E_ial c_98_286 sh_62).trans (ax_gd ?_)
                    refine (E_ic (v := (9999 : Int32)) c_98_287 (by decide)).trans ?_
                    refine (E_br_gt (q := 297) c_98_290 rfl).trans (ax_ite ?_ ?_)
                    · refine (E_ic (v := (0 : Int32)) c_98_297 (by decide)).trans ?_
                      exact E_rZ (v := (0 : Int32)) c_98_298 mi_98 (by decide)
                    · refine (E_ic (v := (1 : Int32)) c_98_293 (by decide)).trans ?_
                      refine (E_goto (q := 298) c_98_294 rfl).trans ?_
                      exact E_rZ (v := (1 : Int32)) c_98_298 mi_98 (by decide)
              · refine ev_sw1.trans (ax_ite ?_ ?_)
                · refine (E_al c_98_229 rfl (by decide)).trans ?_
                  refine (E_gfr (k := 2) (r := 62) c_98_230 sh_61 rfl rfl rfl).trans ?_
                  refine (E_ic (v := (9 : Int32)) c_98_233 (by decide)).trans ?_
                  refine (E_al c_98_235 rfl (by decide)).trans ?_
                  refine (E_gfr (k := 2) (r := 62) c_98_236 sh_61 rfl rfl rfl).trans ?_
                  refine (E_ic (v := (9 : Int32)) c_98_239 (by decide)).trans ?_
                  refine (E_ialk (k := 9) c_98_241 sh_62 (by decide) (by decide)).trans ?_
                  refine (E_ic (v := (-1000000 : Int32)) c_98_242 (by decide)).trans ?_
                  refine (E_br_ne (q := 252) c_98_244 rfl).trans (ax_ite ?_ ?_)
                  · refine (E_ic (v := (-1000000 : Int32)) c_98_247 (by decide)).trans ?_
                    refine (E_goto (q := 265) c_98_249 rfl).trans ?_
                    refine (E_iask (k := 9) (v := (-1000000 : Int32)) c_98_265 sh_62 rfl (by decide) (by decide)).trans ?_
                    refine (E_goto (q := 269) c_98_266 rfl).trans ?_
                    refine (E_al c_98_269 rfl (by decide)).trans ?_
                    refine (E_gfr (k := 2) (r := 62) c_98_270 sh_61 rfl rfl rfl).trans ?_
                    refine (E_il c_98_273 rfl).trans ?_
                    refine (E_ial c_98_274 sh_62).trans (ax_gd ?_)
                    refine (E_ic (v := (9999 : Int32)) c_98_275 (by decide)).trans ?_
                    refine (E_br_gt (q := 297) c_98_278 rfl).trans (ax_ite ?_ ?_)
                    · refine (E_ic (v := (0 : Int32)) c_98_297 (by decide)).trans ?_
                      exact E_rZ (v := (0 : Int32)) c_98_298 mi_98 (by decide)
                    · refine (E_al c_98_281 rfl (by decide)).trans ?_
                      refine (E_gfr (k := 2) (r := 62) c_98_282 sh_61 rfl rfl rfl).trans ?_
                      refine (E_il c_98_285 rfl).trans ?_
                      refine (E_ial c_98_286 sh_62).trans (ax_gd ?_)
                      refine (E_ic (v := (9999 : Int32)) c_98_287 (by decide)).trans ?_
                      refine (E_br_gt (q := 297) c_98_290 rfl).trans (ax_ite ?_ ?_)
                      · refine (E_ic (v := (0 : Int32)) c_98_297 (by decide)).trans ?_
                        exact E_rZ (v := (0 : Int32)) c_98_298 mi_98 (by decide)
                      · refine (E_ic (v := (1 : Int32)) c_98_293 (by decide)).trans ?_
                        refine (E_goto (q := 298) c_98_294 rfl).trans ?_
                        exact E_rZ (v := (1 : Int32)) c_98_298 mi_98 (by decide)
                  · refine (E_al c_98_252 rfl (by decide)).trans ?_
                    refine (E_gfr (k := 2) (r := 62) c_98_253 sh_61 rfl rfl rfl).trans ?_
                    refine (E_ic (v := (9 : Int32)) c_98_256 (by decide)).trans ?_
                    refine (E_ialk (k := 9) c_98_258 sh_62 (by decide) (by decide)).trans ?_
                    refine (E_ic (v := (5 : Int32)) c_98_259 (by decide)).trans ?_
                    refine (E_isub c_98_260).trans ?_
                    refine (E_ic (v := (0 : Int32)) c_98_261 (by decide)).trans ?_
                    refine (E_max c_98_262 (Nat.le_of_ble_eq_true rfl)).trans ?_
                    refine (E_iask (k := 9) (v := (if ((u1.2.1 62 9) - (5 : Int32)) < (0 : Int32) then (0 : Int32) else ((u1.2.1 62 9) - (5 : Int32)))) c_98_265 sh_62 rfl (by decide) (by decide)).trans ?_
                    refine (E_goto (q := 269) c_98_266 rfl).trans ?_
                    refine (E_al c_98_269 rfl (by decide)).trans ?_
                    refine (E_gfr (k := 2) (r := 62) c_98_270 sh_61 rfl rfl rfl).trans ?_
                    refine (E_il c_98_273 rfl).trans ?_
                    refine (E_ial c_98_274 sh_62).trans (ax_gd ?_)
                    refine (E_ic (v := (9999 : Int32)) c_98_275 (by decide)).trans ?_
                    refine (E_br_gt (q := 297) c_98_278 rfl).trans (ax_ite ?_ ?_)
                    · refine (E_ic (v := (0 : Int32)) c_98_297 (by decide)).trans ?_
                      exact E_rZ (v := (0 : Int32)) c_98_298 mi_98 (by decide)
                    · refine (E_al c_98_281 rfl (by decide)).trans ?_
                      refine (E_gfr (k := 2) (r := 62) c_98_282 sh_61 rfl rfl rfl).trans ?_
                      refine (E_il c_98_285 rfl).trans ?_
                      refine (E_ial c_98_286 sh_62).trans (ax_gd ?_)
                      refine (E_ic (v := (9999 : Int32)) c_98_287 (by decide)).trans ?_
                      refine (E_br_gt (q := 297) c_98_290 rfl).trans (ax_ite ?_ ?_)
                      · refine (E_ic (v := (0 : Int32)) c_98_297 (by decide)).trans ?_
                        exact E_rZ (v := (0 : Int32)) c_98_298 mi_98 (by decide)
                      · refine (E_ic (v := (1 : Int32)) c_98_293 (by decide)).trans ?_
                        refine (E_goto (q := 298) c_98_294 rfl).trans ?_
                        exact E_rZ (v := (1 : Int32)) c_98_298 mi_98 (by decide)
                · refine ev_sw0.trans ?_
                  refine (E_al c_98_269 rfl (by decide)).trans ?_
                  refine (E_gfr (k := 2) (r := 62) c_98_270 sh_61 rfl rfl rfl).trans ?_
                  refine (E_il c_98_273 rfl).trans ?_
                  refine (E_ial c_98_274 sh_62).trans (ax_gd ?_)
                  refine (E_ic (v := (9999 : Int32)) c_98_275 (by decide)).trans ?_
                  refine (E_br_gt (q := 297) c_98_278 rfl).trans (ax_ite ?_ ?_)
                  · refine (E_ic (v := (0 : Int32)) c_98_297 (by decide)).trans ?_
                    exact E_rZ (v := (0 : Int32)) c_98_298 mi_98 (by decide)
                  · refine (E_al c_98_281 rfl (by decide)).trans ?_
                    refine (E_gfr (k := 2) (r := 62) c_98_282 sh_61 rfl rfl rfl).trans ?_
                    refine (E_il c_98_285 rfl).trans ?_
                    refine (E_ial c_98_286 sh_62).trans (ax_gd ?_)
                    refine (E_ic (v := (9999 : Int32)) c_98_287 (by decide)).trans ?_
                    refine (E_br_gt (q := 297) c_98_290 rfl).trans (ax_ite ?_ ?_)
                    · refine (E_ic (v := (0 : Int32)) c_98_297 (by decide)).trans ?_
                      exact E_rZ (v := (0 : Int32)) c_98_298 mi_98 (by decide)
                    · refine (E_ic (v := (1 : Int32)) c_98_293 (by decide)).trans ?_
                      refine (E_goto (q := 298) c_98_294 rfl).trans ?_
                      exact E_rZ (v := (1 : Int32)) c_98_298 mi_98 (by decide)
set_option maxHeartbeats 4000000 in
theorem u_234_82 (d : Nat) (σ : ax_S) (x1 : Int32) (x2 : Int32) : ev sO (d + 1) 234 0 [.ref 82, .int x1, .int x2] [] σ = (cI sO d 232 [.ref 82, .int x1, .int (4 : Int32)] σ).bind fun u0 => if ((u0.1 >>> (x2 &&& 31)) &&& (1 : Int32)) = 0 then (some (some (.int (1 : Int32)), u0.2)) else (some (some (.int (0 : Int32)), u0.2)) := by
  refine (E_al c_234_0 rfl (by decide)).trans ?_
  refine (E_il c_234_1 rfl).trans ?_
  refine (E_ic (v := (4 : Int32)) c_234_2 (by decide)).trans ?_
  refine (E_cIV c_234_3 mi_232 rfl rfl (sO_kl sh_82) (Nat.le_of_ble_eq_true rfl) (Nat.le_of_ble_eq_true rfl)).trans (ax_bnd fun u0 => ?_)
  refine (E_il c_234_6 rfl).trans ?_
  refine (E_ishr c_234_7).trans ?_
  refine (E_ic (v := (1 : Int32)) c_234_8 (by decide)).trans ?_
  refine (E_iand c_234_9).trans ?_
  refine (E_b0_ne (q := 17) c_234_10 rfl).trans (ax_ite ?_ ?_)
  · refine (E_ic (v := (1 : Int32)) c_234_13 (by decide)).trans ?_
    refine (E_goto (q := 18) c_234_14 rfl).trans ?_
    exact E_rZ (v := (1 : Int32)) c_234_18 mi_234 (by decide)
  · refine (E_ic (v := (0 : Int32)) c_234_17 (by decide)).trans ?_
    exact E_rZ (v := (0 : Int32)) c_234_18 mi_234 (by decide)
set_option maxHeartbeats 4000000 in
theorem u_235_82 (d : Nat) (σ : ax_S) (x1 : Int32) (x2 : Int32) : ev sO d 235 0 [.ref 82, .int x1, .int x2] [] σ = gd (0 ≤ ((((15 : Int32) * x1) + (5 : Int32)) + x2).toInt ∧ ((((15 : Int32) * x1) + (5 : Int32)) + x2).toInt < (181 : Nat)) (some (some (.int (σ.1 88 ((((15 : Int32) * x1) + (5 : Int32)) + x2).toNatClampNeg)), σ)) := by
  refine (E_al c_235_0 rfl (by decide)).trans ?_
  refine (E_gfr (k := 8) (r := 88) c_235_1 sh_82 rfl rfl rfl).trans ?_
  refine (E_ic (v := (15 : Int32)) c_235_4 (by decide)).trans ?_
  refine (E_il c_235_6 rfl).trans ?_
  refine (E_imul c_235_7).trans ?_
  refine (E_ic (v := (5 : Int32)) c_235_8 (by decide)).trans ?_
  refine (E_iadd c_235_9).trans ?_
  refine (E_il c_235_10 rfl).trans ?_
  refine (E_iadd c_235_11).trans ?_
  refine (E_ial c_235_12 sh_88).trans (ax_gd ?_)
  exact E_rI c_235_13 mi_235
set_option maxHeartbeats 4000000 in
theorem u_82 (d : Nat) (σ : ax_S) (x0 : Int32) : ev sO d 82 0 [.int x0] [] σ = if x0 < 0 then (some (some (.int (0 : Int32)), σ)) else (if x0 < (11 : Int32) then (some (some (.int (1 : Int32)), σ)) else (some (some (.int (0 : Int32)), σ))) := by
  refine (E_il c_82_0 rfl).trans ?_
  refine (E_b0_lt (q := 14) c_82_1 rfl).trans (ax_ite ?_ ?_)
  · refine (E_ic (v := (0 : Int32)) c_82_14 (by decide)).trans ?_
    exact E_rZ (v := (0 : Int32)) c_82_15 mi_82 (by decide)
  · refine (E_il c_82_4 rfl).trans ?_
    refine (E_ic (v := (11 : Int32)) c_82_5 (by decide)).trans ?_
    refine (E_br_ge (q := 14) c_82_7 rfl).trans (ax_ite ?_ ?_)
    · refine (E_ic (v := (1 : Int32)) c_82_10 (by decide)).trans ?_
      refine (E_goto (q := 15) c_82_11 rfl).trans ?_
      exact E_rZ (v := (1 : Int32)) c_82_15 mi_82 (by decide)
    · refine (E_ic (v := (0 : Int32)) c_82_14 (by decide)).trans ?_
      exact E_rZ (v := (0 : Int32)) c_82_15 mi_82 (by decide)
set_option maxHeartbeats 4000000 in
theorem u_97_17 (d : Nat) (σ : ax_S) (x1 : Int32) (x2 : Int32) : ev sO (d + 1) 97 0 [.ref 17, .int x1, .int x2] [] σ = (cI sO d 84 [.ref 17, .int x1] σ).bind fun u0 => if u0.1 = 0 then (some (some (.int (-1000000 : Int32)), u0.2)) else ((cI sO d 82 [.int x2] u0.2).bind fun u1 => if u1.1 = 0 then (some (some (.int (-1000000 : Int32)), u1.2)) else (gd (0 ≤ ((x1 * (11 : Int32)) + x2).toInt ∧ ((x1 * (11 : Int32)) + x2).toInt < (132 : Nat)) (some (some (.int (u1.2.1 21 ((x1 * (11 : Int32)) + x2).toNatClampNeg)), u1.2)))) := by
  refine (E_al c_97_0 rfl (by decide)).trans ?_
  refine (E_il c_97_1 rfl).trans ?_
  refine (E_cIV c_97_2 mi_84 rfl rfl (sO_kl sh_17) (Nat.le_of_ble_eq_true rfl) (Nat.le_of_ble_eq_true rfl)).trans (ax_bnd fun u0 => ?_)
  refine (E_b0_eq (q := 29) c_97_5 rfl).trans (ax_ite ?_ ?_)
  · refine (E_ic (v := (-1000000 : Int32)) c_97_29 (by decide)).trans ?_
    exact E_rI c_97_31 mi_97
  · refine (E_il c_97_8 rfl).trans ?_
    refine (E_cIS c_97_9 mi_82 rfl rfl (Nat.le_of_ble_eq_true rfl) (Nat.le_of_ble_eq_true rfl)).trans (ax_bnd fun u1 => ?_)
    refine (E_b0_eq (q := 29) c_97_12 rfl).trans (ax_ite ?_ ?_)
    · refine (E_ic (v := (-1000000 : Int32)) c_97_29 (by decide)).trans ?_
      exact E_rI c_97_31 mi_97
    · refine (E_al c_97_15 rfl (by decide)).trans ?_
      refine (E_gfr (k := 4) (r := 21) c_97_16 sh_17 rfl rfl rfl).trans ?_
      refine (E_il c_97_19 rfl).trans ?_
      refine (E_ic (v := (11 : Int32)) c_97_20 (by decide)).trans ?_
      refine (E_imul c_97_22).trans ?_
      refine (E_il c_97_23 rfl).trans ?_
      refine (E_iadd c_97_24).trans ?_
      refine (E_ial c_97_25 sh_21).trans (ax_gd ?_)
      refine (E_goto (q := 31) c_97_26 rfl).trans ?_
      exact E_rI c_97_31 mi_97
set_option maxHeartbeats 4000000 in
theorem u_237 (d : Nat) (σ : ax_S) (x0 : Int32) : ev sO (d + 1) 237 0 [.int x0] [] σ = (cI sO d 198 [.long x0.toInt64, .long (0 : Int64), .long (10 : Int64)] σ).bind fun u0 => some (some (.int (u0.1 &&& 1)), u0.2) := by
  refine (E_il c_237_0 rfl).trans ?_
  refine (E_i2l c_237_1).trans ?_
  refine (E_lc (v := (0 : Int64)) c_237_2 (by decide)).trans ?_
  refine (E_l2 (v := (10 : Int64)) c_237_3 (by decide)).trans ?_
  refine (E_cIS c_237_6 mi_198 rfl rfl (Nat.le_of_ble_eq_true rfl) (Nat.le_of_ble_eq_true rfl)).trans (ax_bnd fun u0 => ?_)
  exact E_rZ (v := (u0.1 &&& 1)) c_237_9 mi_237 rfl
set_option maxHeartbeats 4000000 in
theorem u_101_17 (d : Nat) (σ : ax_S) (x1 : Int32) : ev sO (d + 1) 101 0 [.ref 17, .int x1] [] σ = (cI sO d 84 [.ref 17, .int x1] σ).bind fun u0 => if u0.1 = 0 then (some (some (.int (-1000000 : Int32)), u0.2)) else (gd (0 ≤ x1.toInt ∧ x1.toInt < (12 : Nat)) (some (some (.int (u0.2.1 18 x1.toNatClampNeg)), u0.2))) := by
  refine (E_al c_101_0 rfl (by decide)).trans ?_
  refine (E_il c_101_1 rfl).trans ?_
  refine (E_cIV c_101_2 mi_84 rfl rfl (sO_kl sh_17) (Nat.le_of_ble_eq_true rfl) (Nat.le_of_ble_eq_true rfl)).trans (ax_bnd fun u0 => ?_)
  refine (E_b0_eq (q := 17) c_101_5 rfl).trans (ax_ite ?_ ?_)
  · refine (E_ic (v := (-1000000 : Int32)) c_101_17 (by decide)).trans ?_
    exact E_rI c_101_19 mi_101
  · refine (E_al c_101_8 rfl (by decide)).trans ?_
    refine (E_gfr (k := 1) (r := 18) c_101_9 sh_17 rfl rfl rfl).trans ?_
    refine (E_il c_101_12 rfl).trans ?_
    refine (E_ial c_101_13 sh_18).trans (ax_gd ?_)
    refine (E_goto (q := 19) c_101_14 rfl).trans ?_
    exact E_rI c_101_19 mi_101
set_option maxHeartbeats 4000000 in
theorem u_102_17 (d : Nat) (σ : ax_S) (x1 : Int32) : ev sO (d + 1) 102 0 [.ref 17, .int x1] [] σ = (cI sO d 84 [.ref 17, .int x1] σ).bind fun u0 => if u0.1 = 0 then (some (some (.int (-1000000 : Int32)), u0.2)) else (gd (0 ≤ x1.toInt ∧ x1.toInt < (12 : Nat)) (some (some (.int (u0.2.1 20 x1.toNatClampNeg)), u0.2))) := by
  refine (E_al c_102_0 rfl (by decide)).trans ?_
  refine (E_il c_102_1 rfl).trans ?_
  refine (E_cIV c_102_2 mi_84 rfl rfl (sO_kl sh_17) (Nat.le_of_ble_eq_true rfl) (Nat.le_of_ble_eq_true rfl)).trans (ax_bnd fun u0 => ?_)
  refine (E_b0_eq (q := 17) c_102_5 rfl).trans (ax_ite ?_ ?_)
  · refine (E_ic (v := (-1000000 : Int32)) c_102_17 (by decide)).trans ?_
    exact E_rI c_102_19 mi_102
  · refine (E_al c_102_8 rfl (by decide)).trans ?_
    refine (E_gfr (k := 3) (r := 20) c_102_9 sh_17 rfl rfl rfl).trans ?_
    refine (E_il c_102_12 rfl).trans ?_
    refine (E_ial c_102_13 sh_20).trans (ax_gd ?_)
    refine (E_goto (q := 19) c_102_14 rfl).trans ?_
    exact E_rI c_102_19 mi_102
set_option maxHeartbeats 4000000 in
theorem u_103_17 (d : Nat) (σ : ax_S) (x1 : Int32) : ev sO (d + 2) 103 0 [.ref 17, .int x1, .null, .null] [] σ = ev sO (d + 2) 103 4 [.ref 17, .int x1, .int (0 : Int32), .int (0 : Int32)] [] σ := by
  refine (E_ic (v := (0 : Int32)) c_103_0 (by decide)).trans ?_
  refine (E_is (L' := [.ref 17, .int x1, .int (0 : Int32), .null]) c_103_1 (Nat.le_of_ble_eq_true rfl) rfl).trans ?_
  refine (E_ic (v := (0 : Int32)) c_103_2 (by decide)).trans ?_
  refine (E_is (L' := [.ref 17, .int x1, .int (0 : Int32), .int (0 : Int32)]) c_103_3 (Nat.le_of_ble_eq_true rfl) rfl).trans ?_
  rfl
set_option maxHeartbeats 4000000 in
theorem u_103_17p4 (d : Nat) (σ : ax_S) (x1 : Int32) (x2 : Int32) (x3 : Int32) : ev sO (d + 2) 103 4 [.ref 17, .int x1, .int x2, .int x3] [] σ = if x3 < (11 : Int32) then ((cI sO (d + 1) 97 [.ref 17, .int x1, .int x3] σ).bind fun u0 => if u0.1 = (-1000000 : Int32) then (ev sO (d + 2) 103 4 [.ref 17, .int x1, .int (x2 + (1 : Int32)), .int (x3 + (1 : Int32))] [] u0.2) else (ev sO (d + 2) 103 4 [.ref 17, .int x1, .int x2, .int (x3 + (1 : Int32))] [] u0.2)) else (some (some (.int x2), σ)) := by
  refine (E_il c_103_4 rfl).trans ?_
  refine (E_ic (v := (11 : Int32)) c_103_5 (by decide)).trans ?_
  refine (E_br_ge (q := 30) c_103_7 rfl).trans (ax_ite ?_ ?_)
  · refine (E_al c_103_10 rfl (by decide)).trans ?_
    refine (E_il c_103_11 rfl).trans ?_
    refine (E_il c_103_12 rfl).trans ?_
    refine (E_cIV c_103_13 mi_97 rfl rfl (sO_kl sh_17) (Nat.le_of_ble_eq_true rfl) (Nat.le_of_ble_eq_true rfl)).trans (ax_bnd fun u0 => ?_)
    refine (E_ic (v := (-1000000 : Int32)) c_103_16 (by decide)).trans ?_
    refine (E_br_ne (q := 24) c_103_18 rfl).trans (ax_ite ?_ ?_)
    · refine (E_inc (v := (1 : Int32)) (L' := [.ref 17, .int x1, .int (x2 + (1 : Int32)), .int x3]) c_103_21 rfl (by decide) rfl).trans ?_
      refine (E_inc (v := (1 : Int32)) (L' := [.ref 17, .int x1, .int (x2 + (1 : Int32)), .int (x3 + (1 : Int32))]) c_103_24 rfl (by decide) rfl).trans ?_
      refine (E_goto (q := 4) c_103_27 rfl).trans ?_
      rfl
    · refine (E_inc (v := (1 : Int32)) (L' := [.ref 17, .int x1, .int x2, .int (x3 + (1 : Int32))]) c_103_24 rfl (by decide) rfl).trans ?_
      refine (E_goto (q := 4) c_103_27 rfl).trans ?_
      rfl
  · refine (E_il c_103_30 rfl).trans ?_
    exact E_rI c_103_31 mi_103
set_option maxHeartbeats 4000000 in
theorem u_104_17 (d : Nat) (σ : ax_S) (x1 : Int32) : ev sO (d + 2) 104 0 [.ref 17, .int x1, .null, .null] [] σ = ev sO (d + 2) 104 4 [.ref 17, .int x1, .int (0 : Int32), .int (0 : Int32)] [] σ := by
  refine (E_ic (v := (0 : Int32)) c_104_0 (by decide)).trans ?_
  refine (E_is (L' := [.ref 17, .int x1, .int (0 : Int32), .null]) c_104_1 (Nat.le_of_ble_eq_true rfl) rfl).trans ?_
  refine (E_ic (v := (0 : Int32)) c_104_2 (by decide)).trans ?_
  refine (E_is (L' := [.ref 17, .int x1, .int (0 : Int32), .int (0 : Int32)]) c_104_3 (Nat.le_of_ble_eq_true rfl) rfl).trans ?_
  rfl
set_option maxHeartbeats 4000000 in
theorem u_104_17p4 (d : Nat) (σ : ax_S) (x1 : Int32) (x2 : Int32) (x3 : Int32) : ev sO (d + 2) 104 4 [.ref 17, .int x1, .int x2, .int x3] [] σ = if x3 < (σ.1 17 0) then ((cI sO (d + 1) 102 [.ref 17, .int x3] σ).bind fun u0 => if u0.1 = x1 then (ev sO (d + 2) 104 4 [.ref 17, .int x1, .int (x2 + (1 : Int32)), .int (x3 + (1 : Int32))] [] u0.2) else (ev sO (d + 2) 104 4 [.ref 17, .int x1, .int x2, .int (x3 + (1 : Int32))] [] u0.2)) else (some (some (.int x2), σ)) := by
  refine (E_il c_104_4 rfl).trans ?_
  refine (E_al c_104_5 rfl (by decide)).trans ?_
  refine (E_gfi (k := 0) c_104_6 sh_17 rfl rfl rfl (by decide)).trans ?_
  refine (E_br_ge (q := 30) c_104_9 rfl).trans (ax_ite ?_ ?_)
  · refine (E_al c_104_12 rfl (by decide)).trans ?_
    refine (E_il c_104_13 rfl).trans ?_
    refine (E_cIV c_104_14 mi_102 rfl rfl (sO_kl sh_17) (Nat.le_of_ble_eq_true rfl) (Nat.le_of_ble_eq_true rfl)).trans (ax_bnd fun u0 => ?_)
    refine (E_il c_104_17 rfl).trans ?_
    refine (E_br_ne (q := 24) c_104_18 rfl).trans (ax_ite ?_ ?_)
    · refine (E_inc (v := (1 : Int32)) (L' := [.ref 17, .int x1, .int (x2 + (1 : Int32)), .int x3]) c_104_21 rfl (by decide) rfl).trans ?_
      refine (E_inc (v := (1 : Int32)) (L' := [.ref 17, .int x1, .int (x2 + (1 : Int32)), .int (x3 + (1 : Int32))]) c_104_24 rfl (by decide) rfl).trans ?_
      refine (E_goto (q := 4) c_104_27 rfl).trans ?_
      rfl
    · refine (E_inc (v := (1 : Int32)) (L' := [.ref 17, .int x1, .int x2, .int (x3 + (1 : Int32))]) c_104_24 rfl (by decide) rfl).trans ?_
      refine (E_goto (q := 4) c_104_27 rfl).trans ?_
      rfl
  · refine (E_il c_104_30 rfl).trans ?_
    exact E_rI c_104_31 mi_104
set_option maxHeartbeats 4000000 in
theorem u_239_82 (d : Nat) (σ : ax_S) (x1 : Int32) (x2 : Int32) : ev sO (d + 1) 239 0 [.ref 82, .int x1, .int x2, .null] [] σ = (cI sO d 232 [.ref 82, .int x1, .int (3 : Int32)] σ).bind fun u0 => if u0.1 < 0 then (some (some (.int x2), u0.2)) else (some (some (.int u0.1), u0.2)) := by
  refine (E_al c_239_0 rfl (by decide)).trans ?_
  refine (E_il c_239_1 rfl).trans ?_
  refine (E_ic (v := (3 : Int32)) c_239_2 (by decide)).trans ?_
  refine (E_cIV c_239_3 mi_232 rfl rfl (sO_kl sh_82) (Nat.le_of_ble_eq_true rfl) (Nat.le_of_ble_eq_true rfl)).trans (ax_bnd fun u0 => ?_)
  refine (E_is (L' := [.ref 82, .int x1, .int x2, .int u0.1]) c_239_6 (Nat.le_of_ble_eq_true rfl) rfl).trans ?_
  refine (E_il c_239_7 rfl).trans ?_
  refine (E_b0_ge (q := 15) c_239_8 rfl).trans (ax_ite ?_ ?_)
  · refine (E_il c_239_11 rfl).trans ?_
    refine (E_goto (q := 16) c_239_12 rfl).trans ?_
    exact E_rI c_239_16 mi_239
  · refine (E_il c_239_15 rfl).trans ?_
    exact E_rI c_239_16 mi_239
set_option maxHeartbeats 4000000 in
theorem u_240 (d : Nat) (σ : ax_S) (x0 : Int32) : ev sO d 240 0 [.int x0, .null, .null] [] σ = ev sO d 240 4 [.int x0, .int (0 : Int32), .int x0] [] σ := by
  refine (E_ic (v := (0 : Int32)) c_240_0 (by decide)).trans ?_
  refine (E_is (L' := [.int x0, .int (0 : Int32), .null]) c_240_1 (Nat.le_of_ble_eq_true rfl) rfl).trans ?_
  refine (E_il c_240_2 rfl).trans ?_
  refine (E_is (L' := [.int x0, .int (0 : Int32), .int x0]) c_240_3 (Nat.le_of_ble_eq_true rfl) rfl).trans ?_
  rfl
set_option maxHeartbeats 4000000 in
theorem u_240p4 (d : Nat) (σ : ax_S) (w0 : Value) (hw0 : w0.category = 1) (x1 : Int32) (x2 : Int32) : ev sO d 240 4 [w0, .int x1, .int x2] [] σ = if x2 = 0 then (some (some (.int x1), σ)) else (ev sO d 240 4 [w0, .int (x1 + (1 : Int32)), .int (x2 &&& (x2 - (1 : Int32)))] [] σ) := by
  refine (E_il c_240_4 rfl).trans ?_
  refine (E_b0_eq (q := 20) c_240_5 rfl).trans (ax_ite ?_ ?_)
  · refine (E_il c_240_20 rfl).trans ?_
    exact E_rI c_240_21 mi_240
  · refine (E_inc (v := (1 : Int32)) (L' := [w0, .int (x1 + (1 : Int32)), .int x2]) c_240_8 rfl (by decide) (by simp [ax_st1, ax_drp, hw0])).trans ?_
    refine (E_il c_240_11 rfl).trans ?_
    refine (E_il c_240_12 rfl).trans ?_
    refine (E_ic (v := (1 : Int32)) c_240_13 (by decide)).trans ?_
    refine (E_isub c_240_14).trans ?_
    refine (E_iand c_240_15).trans ?_
    refine (E_is (L' := [w0, .int (x1 + (1 : Int32)), .int (x2 &&& (x2 - (1 : Int32)))]) c_240_16 (Nat.le_of_ble_eq_true rfl) rfl).trans ?_
    refine (E_goto (q := 4) c_240_17 rfl).trans ?_
    rfl
set_option maxHeartbeats 4000000 in
theorem u_83_17 (d : Nat) (σ : ax_S) (x1 : Int32) (x2 : Int32) (x3 : Int32) : ev sO (d + 1) 83 0 [.ref 17, .int x1, .int x2, .int x3] [] σ = (cI sO d 84 [.ref 17, .int x1] σ).bind fun u0 => if u0.1 = 0 then (some (none, u0.2)) else ((cI sO d 82 [.int x2] u0.2).bind fun u1 => if u1.1 = 0 then (some (none, u1.2)) else (gd (0 ≤ ((x1 * (11 : Int32)) + x2).toInt ∧ ((x1 * (11 : Int32)) + x2).toInt < (132 : Nat)) (some (none, (sI u1.2 21 ((x1 * (11 : Int32)) + x2).toNatClampNeg x3))))) := by
  refine (E_al c_83_0 rfl (by decide)).trans ?_
  refine (E_il c_83_1 rfl).trans ?_
  refine (E_cIV c_83_2 mi_84 rfl rfl (sO_kl sh_17) (Nat.le_of_ble_eq_true rfl) (Nat.le_of_ble_eq_true rfl)).trans (ax_bnd fun u0 => ?_)
  refine (E_b0_eq (q := 27) c_83_5 rfl).trans (ax_ite ?_ ?_)
  · exact E_rV c_83_27 mi_83
  · refine (E_il c_83_8 rfl).trans ?_
    refine (E_cIS c_83_9 mi_82 rfl rfl (Nat.le_of_ble_eq_true rfl) (Nat.le_of_ble_eq_true rfl)).trans (ax_bnd fun u1 => ?_)
    refine (E_b0_eq (q := 27) c_83_12 rfl).trans (ax_ite ?_ ?_)
    · exact E_rV c_83_27 mi_83
    · refine (E_al c_83_15 rfl (by decide)).trans ?_
      refine (E_gfr (k := 4) (r := 21) c_83_16 sh_17 rfl rfl rfl).trans ?_
      refine (E_il c_83_19 rfl).trans ?_
      refine (E_ic (v := (11 : Int32)) c_83_20 (by decide)).trans ?_
      refine (E_imul c_83_22).trans ?_
      refine (E_il c_83_23 rfl).trans ?_
      refine (E_iadd c_83_24).trans ?_
      refine (E_il c_83_25 rfl).trans ?_
      refine (E_ias (v := x3) c_83_26 sh_21 rfl).trans (ax_gd ?_)
      exact E_rV c_83_27 mi_83
set_option maxHeartbeats 4000000 in
theorem u_75_8 (d : Nat) (σ : ax_S) (x1 : Int32) (x2 : Int32) (x3 : Int32) : ev sO d 75 0 [.ref 8, .int x1, .int x2, .int x3, .null, .null, .null, .null] [] σ = ev sO d 75 9 [.ref 8, .int x1, .int x2, .int x3, .int (0 : Int32), .int (1 : Int32), .int (0 : Int32), .null] [] σ := by
  refine (E_ic (v := (0 : Int32)) c_75_0 (by decide)).trans ?_
  refine (E_is (L' := [.ref 8, .int x1, .int x2, .int x3, .int (0 : Int32), .null, .null, .null]) c_75_1 (Nat.le_of_ble_eq_true rfl) rfl).trans ?_
  refine (E_ic (v := (1 : Int32)) c_75_3 (by decide)).trans ?_
  refine (E_is (L' := [.ref 8, .int x1, .int x2, .int x3, .int (0 : Int32), .int (1 : Int32), .null, .null]) c_75_4 (Nat.le_of_ble_eq_true rfl) rfl).trans ?_
  refine (E_ic (v := (0 : Int32)) c_75_6 (by decide)).trans ?_
  refine (E_is (L' := [.ref 8, .int x1, .int x2, .int x3, .int (0 : Int32), .int (1 : Int32), .int (0 : Int32), .null]) c_75_7 (Nat.le_of_ble_eq_true rfl) rfl).trans ?_
  rfl
set_option maxHeartbeats 4000000 in
theorem u_75_8p9 (d : Nat) (σ : ax_S) (x1 : Int32) (x2 : Int32) (x3 : Int32) (x4 : Int32) (x5 : Int32) (x6 : Int32) (w7 : Value) (hw7 : w7.category = 1) : ev sO d 75 9 [.ref 8, .int x1, .int x2, .int x3, .int x4, .int x5, .int x6, w7] [] σ = if x6 < (σ.1 8 1) then (if x6 < (16 : Int32) then (gd (0 ≤ x6.toInt ∧ x6.toInt < (16 : Nat)) (if (σ.1 9 x6.toNatClampNeg) = x1 then (gd (0 ≤ x6.toInt ∧ x6.toInt < (16 : Nat)) (if (σ.1 10 x6.toNatClampNeg) = x2 then (gd (0 ≤ x6.toInt ∧ x6.toInt < (16 : Nat)) (if x3 < (σ.1 11 x6.toNatClampNeg) then (ev sO d 75 9 [.ref 8, .int x1, .int x2, .int x3, .int x4, .int x5, .int (x6 + (1 : Int32)), .int (0 : Int32)] [] σ) else (gd (0 ≤ x6.toInt ∧ x6.toInt < (16 : Nat)) (if (σ.1 11 x6.toNatClampNeg) < x4 then (ev sO d 75 9 [.ref 8, .int x1, .int x2, .int x3, .int x4, .int x5, .int (x6 + (1 : Int32)), .int (1 : Int32)] [] σ) else (gd (0 ≤ x6.toInt ∧ x6.toInt < (16 : Nat)) (gd (0 ≤ x6.toInt ∧ x6.toInt < (16 : Nat)) (ev sO d 75 9 [.ref 8, .int x1, .int x2, .int x3, .int (σ.1 11 x6.toNatClampNeg), .int (σ.1 12 x6.toNatClampNeg), .int (x6 + (1 : Int32)), .int (1 : Int32)] [] σ))))))) else (ev sO d 75 9 [.ref 8, .int x1, .int x2, .int x3, .int x4, .int x5, .int (x6 + (1 : Int32)), .int (0 : Int32)] [] σ))) else (ev sO d 75 9 [.ref 8, .int x1, .int x2, .int x3, .int x4, .int x5, .int (x6 + (1 : Int32)), .int (0 : Int32)] [] σ))) else (some (some (.int x5), σ))) else (some (some (.int x5), σ)) := by
  refine (E_il c_75_9 rfl).trans ?_
  refine (E_al c_75_11 rfl (by decide)).trans ?_
  refine (E_gfi (k := 1) c_75_12 sh_8 rfl rfl rfl (by decide)).trans ?_
  refine (E_br_ge (q := 106) c_75_15 rfl).trans (ax_ite ?_ ?_)
  · refine (E_il c_75_18 rfl).trans ?_
    refine (E_ic (v := (16 : Int32)) c_75_20 (by decide)).trans ?_
    refine (E_br_ge (q := 106) c_75_22 rfl).trans (ax_ite ?_ ?_)
    · refine (E_al c_75_25 rfl (by decide)).trans ?_
      refine (E_gfr (k := 2) (r := 9) c_75_26 sh_8 rfl rfl rfl).trans ?_
      refine (E_il c_75_29 rfl).trans ?_
      refine (E_ial c_75_31 sh_9).trans (ax_gd ?_)
      refine (E_il c_75_32 rfl).trans ?_
      refine (E_br_ne (q := 62) c_75_33 rfl).trans (ax_ite ?_ ?_)
      · refine (E_al c_75_36 rfl (by decide)).trans ?_
        refine (E_gfr (k := 3) (r := 10) c_75_37 sh_8 rfl rfl rfl).trans ?_
        refine (E_il c_75_40 rfl).trans ?_
        refine (E_ial c_75_42 sh_10).trans (ax_gd ?_)
        refine (E_il c_75_43 rfl).trans ?_
        refine (E_br_ne (q := 62) c_75_44 rfl).trans (ax_ite ?_ ?_)
        · refine (E_al c_75_47 rfl (by decide)).trans ?_
          refine (E_gfr (k := 4) (r := 11) c_75_48 sh_8 rfl rfl rfl).trans ?_
          refine (E_il c_75_51 rfl).trans ?_
          refine (E_ial c_75_53 sh_11).trans (ax_gd ?_)
          refine (E_il c_75_54 rfl).trans ?_
          refine (E_br_gt (q := 62) c_75_55 rfl).trans (ax_ite ?_ ?_)
          · refine (E_ic (v := (0 : Int32)) c_75_62 (by decide)).trans ?_
            refine (E_is (L' := [.ref 8, .int x1, .int x2, .int x3, .int x4, .int x5, .int x6, .int (0 : Int32)]) c_75_63 (Nat.le_of_ble_eq_true rfl) rfl).trans ?_
            refine (E_il c_75_65 rfl).trans ?_
            refine (E_b0_eq (q := 100) c_75_67 rfl).trans ?_
            refine (if_pos (by decide)).trans ?_
            refine (E_inc (v := (1 : Int32)) (L' := [.ref 8, .int x1, .int x2, .int x3, .int x4, .int x5, .int (x6 + (1 : Int32)), .int (0 : Int32)]) c_75_100 rfl (by decide) rfl).trans ?_
            refine (E_goto (q := 9) c_75_103 rfl).trans ?_
            rfl
          · refine (E_ic (v := (1 : Int32)) c_75_58 (by decide)).trans ?_
            refine (E_goto (q := 63) c_75_59 rfl).trans ?_
            refine (E_is (L' := [.ref 8, .int x1, .int x2, .int x3, .int x4, .int x5, .int x6, .int (1 : Int32)]) c_75_63 (Nat.le_of_ble_eq_true rfl) rfl).trans ?_
            refine (E_il c_75_65 rfl).trans ?_
            refine (E_b0_eq (q := 100) c_75_67 rfl).trans ?_
            refine (if_neg (by decide)).trans ?_
            refine (E_al c_75_70 rfl (by decide)).trans ?_
            refine (E_gfr (k := 4) (r := 11) c_75_71 sh_8 rfl rfl rfl).trans ?_
            refine (E_il c_75_74 rfl).trans ?_
            refine (E_ial c_75_76 sh_11).trans (ax_gd ?_)
            refine (E_il c_75_77 rfl).trans ?_
            refine (E_br_lt (q := 100) c_75_79 rfl).trans (ax_ite ?_ ?_)
            · refine (E_inc (v := (1 : Int32)) (L' := [.ref 8, .int x1, .int x2, .int x3, .int x4, .int x5, .int (x6 + (1 : Int32)), .int (1 : Int32)]) c_75_100 rfl (by decide) rfl).trans ?_
              refine (E_goto (q := 9) c_75_103 rfl).trans ?_
              rfl
            · refine (E_al c_75_82 rfl (by decide)).trans ?_
              refine (E_gfr (k := 4) (r := 11) c_75_83 sh_8 rfl rfl rfl).trans ?_
              refine (E_il c_75_86 rfl).trans ?_
              refine (E_ial c_75_88 sh_11).trans (ax_gd ?_)
              refine (E_is (L' := [.ref 8, .int x1, .int x2, .int x3, .int (σ.1 11 x6.toNatClampNeg), .int x5, .int x6, .int (1 : Int32)]) c_75_89 (Nat.le_of_ble_eq_true rfl) rfl).trans ?_
              refine (E_al c_75_91 rfl (by decide)).trans ?_
              refine (E_gfr (k := 5) (r := 12) c_75_92 sh_8 rfl rfl rfl).trans ?_
              refine (E_il c_75_95 rfl).trans ?_
              refine (E_ial c_75_97 sh_12).trans (ax_gd ?_)
              refine (E_is (L' := [.ref 8, .int x1, .int x2, .int x3, .int (σ.1 11 x6.toNatClampNeg), .int (σ.1 12 x6.toNatClampNeg), .int x6, .int (1 : Int32)]) c_75_98 (Nat.le_of_ble_eq_true rfl) rfl).trans ?_
              refine (E_inc (v := (1 : Int32)) (L' := [.ref 8, .int x1, .int x2, .int x3, .int (σ.1 11 x6.toNatClampNeg), .int (σ.1 12 x6.toNatClampNeg), .int (x6 + (1 : Int32)), .int (1 : Int32)]) c_75_100 rfl (by decide) rfl).trans ?_
              refine (E_goto (q := 9) c_75_103 rfl).trans ?_
              rfl
        · refine (E_ic (v := (0 : Int32)) c_75_62 (by decide)).trans ?_
          refine (E_is (L' := [.ref 8, .int x1, .int x2, .int x3, .int x4, .int x5, .int x6, .int (0 : Int32)]) c_75_63 (Nat.le_of_ble_eq_true rfl) rfl).trans ?_
          refine (E_il c_75_65 rfl).trans ?_
          refine (E_b0_eq (q := 100) c_75_67 rfl).trans ?_
          refine (if_pos (by decide)).trans ?_
          refine (E_inc (v := (1 : Int32)) (L' := [.ref 8, .int x1, .int x2, .int x3, .int x4, .int x5, .int (x6 + (1 : Int32)), .int (0 : Int32)]) c_75_100 rfl (by decide) rfl).trans ?_
          refine (E_goto (q := 9) c_75_103 rfl).trans ?_
          rfl
      · refine (E_ic (v := (0 : Int32)) c_75_62 (by decide)).trans ?_
        refine (E_is (L' := [.ref 8, .int x1, .int x2, .int x3, .int x4, .int x5, .int x6, .int (0 : Int32)]) c_75_63 (Nat.le_of_ble_eq_true rfl) rfl).trans ?_
        refine (E_il c_75_65 rfl).trans ?_
        refine (E_b0_eq (q := 100) c_75_67 rfl).trans ?_
        refine (if_pos (by decide)).trans ?_
        refine (E_inc (v := (1 : Int32)) (L' := [.ref 8, .int x1, .int x2, .int x3, .int x4, .int x5, .int (x6 + (1 : Int32)), .int (0 : Int32)]) c_75_100 rfl (by decide) rfl).trans ?_
        refine (E_goto (q := 9) c_75_103 rfl).trans ?_
        rfl
    · refine (E_il c_75_106 rfl).trans ?_
      exact E_rI c_75_108 mi_75
  · refine (E_il c_75_106 rfl).trans ?_
    exact E_rI c_75_108 mi_75
set_option maxHeartbeats 4000000 in
theorem u_224_82 (d : Nat) (σ : ax_S) (x1 : Int32) (x2 : Int32) (x3 : Int32) : ev sO d 224 0 [.ref 82, .int x1, .int x2, .int x3, .null, .null, .null, .null] [] σ = ev sO d 224 9 [.ref 82, .int x1, .int x2, .int x3, .int (0 : Int32), .int (1 : Int32), .int (0 : Int32), .null] [] σ := by
  refine (E_ic (v := (0 : Int32)) c_224_0 (by decide)).trans ?_
  refine (E_is (L' := [.ref 82, .int x1, .int x2, .int x3, .int (0 : Int32), .null, .null, .null]) c_224_1 (Nat.le_of_ble_eq_true rfl) rfl).trans ?_
  refine (E_ic (v := (1 : Int32)) c_224_3 (by decide)).trans ?_
  refine (E_is (L' := [.ref 82, .int x1, .int x2, .int x3, .int (0 : Int32), .int (1 : Int32), .null, .null]) c_224_4 (Nat.le_of_ble_eq_true rfl) rfl).trans ?_
  refine (E_ic (v := (0 : Int32)) c_224_6 (by decide)).trans ?_
  refine (E_is (L' := [.ref 82, .int x1, .int x2, .int x3, .int (0 : Int32), .int (1 : Int32), .int (0 : Int32), .null]) c_224_7 (Nat.le_of_ble_eq_true rfl) rfl).trans ?_
  rfl
set_option maxHeartbeats 4000000 in
theorem u_224_82p9 (d : Nat) (σ : ax_S) (x1 : Int32) (x2 : Int32) (x3 : Int32) (x4 : Int32) (x5 : Int32) (x6 : Int32) (w7 : Value) (hw7 : w7.category = 1) : ev sO d 224 9 [.ref 82, .int x1, .int x2, .int x3, .int x4, .int x5, .int x6, w7] [] σ = if x6 < (σ.1 86 0) then (gd (0 ≤ ((2 : Int32) + ((4 : Int32) * x6)).toInt ∧ ((2 : Int32) + ((4 : Int32) * x6)).toInt < (102 : Nat)) (if (σ.1 86 ((2 : Int32) + ((4 : Int32) * x6)).toNatClampNeg) = x1 then (gd (0 ≤ (((2 : Int32) + ((4 : Int32) * x6)) + (1 : Int32)).toInt ∧ (((2 : Int32) + ((4 : Int32) * x6)) + (1 : Int32)).toInt < (102 : Nat)) (if (σ.1 86 (((2 : Int32) + ((4 : Int32) * x6)) + (1 : Int32)).toNatClampNeg) = x2 then (gd (0 ≤ (((2 : Int32) + ((4 : Int32) * x6)) + (2 : Int32)).toInt ∧ (((2 : Int32) + ((4 : Int32) * x6)) + (2 : Int32)).toInt < (102 : Nat)) (if x3 < (σ.1 86 (((2 : Int32) + ((4 : Int32) * x6)) + (2 : Int32)).toNatClampNeg) then (ev sO d 224 9 [.ref 82, .int x1, .int x2, .int x3, .int x4, .int x5, .int (x6 + (1 : Int32)), .int ((2 : Int32) + ((4 : Int32) * x6))] [] σ) else (gd (0 ≤ (((2 : Int32) + ((4 : Int32) * x6)) + (2 : Int32)).toInt ∧ (((2 : Int32) + ((4 : Int32) * x6)) + (2 : Int32)).toInt < (102 : Nat)) (if (σ.1 86 (((2 : Int32) + ((4 : Int32) * x6)) + (2 : Int32)).toNatClampNeg) < x4 then (ev sO d 224 9 [.ref 82, .int x1, .int x2, .int x3, .int x4, .int x5, .int (x6 + (1 : Int32)), .int ((2 : Int32) + ((4 : Int32) * x6))] [] σ) else (gd (0 ≤ (((2 : Int32) + ((4 : Int32) * x6)) + (2 : Int32)).toInt ∧ (((2 : Int32) + ((4 : Int32) * x6)) + (2 : Int32)).toInt < (102 : Nat)) (gd (0 ≤ (((2 : Int32) + ((4 : Int32) * x6)) + (3 : Int32)).toInt ∧ (((2 : Int32) + ((4 : Int32) * x6)) + (3 : Int32)).toInt < (102 : Nat)) (ev sO d 224 9 [.ref 82, .int x1, .int x2, .int x3, .int (σ.1 86 (((2 : Int32) + ((4 : Int32) * x6)) + (2 : Int32)).toNatClampNeg), .int (σ.1 86 (((2 : Int32) + ((4 : Int32) * x6)) + (3 : Int32)).toNatClampNeg), .int (x6 + (1 : Int32)), .int ((2 : Int32) + ((4 : Int32) * x6))] [] σ))))))) else (ev sO d 224 9 [.ref 82, .int x1, .int x2, .int x3, .int x4, .int x5, .int (x6 + (1 : Int32)), .int ((2 : Int32) + ((4 : Int32) * x6))] [] σ))) else (ev sO d 224 9 [.ref 82, .int x1, .int x2, .int x3, .int x4, .int x5, .int (x6 + (1 : Int32)), .int ((2 : Int32) + ((4 : Int32) * x6))] [] σ))) else (some (some (.int x5), σ)) := by
  refine (E_il c_224_9 rfl).trans ?_
  refine (E_al c_224_11 rfl (by decide)).trans ?_
  refine (E_gfr (k := 5) (r := 86) c_224_12 sh_82 rfl rfl rfl).trans ?_
  refine (E_ic (v := (0 : Int32)) c_224_15 (by decide)).trans ?_
  refine (E_ialk (k := 0) c_224_16 sh_86 (by decide) (by decide)).trans ?_
  refine (E_br_ge (q := 107) c_224_17 rfl).trans (ax_ite ?_ ?_)
  · refine (E_ic (v := (2 : Int32)) c_224_20 (by decide)).trans ?_
    refine (E_ic (v := (4 : Int32)) c_224_21 (by decide)).trans ?_
    refine (E_il c_224_22 rfl).trans ?_
    refine (E_imul c_224_24).trans ?_
    refine (E_iadd c_224_25).trans ?_
    refine (E_is (L' := [.ref 82, .int x1, .int x2, .int x3, .int x4, .int x5, .int x6, .int ((2 : Int32) + ((4 : Int32) * x6))]) c_224_26 (Nat.le_of_ble_eq_true rfl) rfl).trans ?_
    refine (E_al c_224_28 rfl (by decide)).trans ?_
    refine (E_gfr (k := 5) (r := 86) c_224_29 sh_82 rfl rfl rfl).trans ?_
    refine (E_il c_224_32 rfl).trans ?_
    refine (E_ial c_224_34 sh_86).trans (ax_gd ?_)
    refine (E_il c_224_35 rfl).trans ?_
    refine (E_br_ne (q := 101) c_224_36 rfl).trans (ax_ite ?_ ?_)
    · refine (E_al c_224_39 rfl (by decide)).trans ?_
      refine (E_gfr (k := 5) (r := 86) c_224_40 sh_82 rfl rfl rfl).trans ?_
      refine (E_il c_224_43 rfl).trans ?_
      refine (E_ic (v := (1 : Int32)) c_224_45 (by decide)).trans ?_
      refine (E_iadd c_224_46).trans ?_
      refine (E_ial c_224_47 sh_86).trans (ax_gd ?_)
      refine (E_il c_224_48 rfl).trans ?_
      refine (E_br_ne (q := 101) c_224_49 rfl).trans (ax_ite ?_ ?_)
      · refine (E_al c_224_52 rfl (by decide)).trans ?_
        refine (E_gfr (k := 5) (r := 86) c_224_53 sh_82 rfl rfl rfl).trans ?_
        refine (E_il c_224_56 rfl).trans ?_
        refine (E_ic (v := (2 : Int32)) c_224_58 (by decide)).trans ?_
        refine (E_iadd c_224_59).trans ?_
        refine (E_ial c_224_60 sh_86).trans (ax_gd ?_)
        refine (E_il c_224_61 rfl).trans ?_
        refine (E_br_gt (q := 101) c_224_62 rfl).trans (ax_ite ?_ ?_)
        · refine (E_inc (v := (1 : Int32)) (L' := [.ref 82, .int x1, .int x2, .int x3, .int x4, .int x5, .int (x6 + (1 : Int32)), .int ((2 : Int32) + ((4 : Int32) * x6))]) c_224_101 rfl (by decide) rfl).trans ?_
          refine (E_goto (q := 9) c_224_104 rfl).trans ?_
          rfl
        · refine (E_al c_224_65 rfl (by decide)).trans ?_
          refine (E_gfr (k := 5) (r := 86) c_224_66 sh_82 rfl rfl rfl).trans ?_
          refine (E_il c_224_69 rfl).trans ?_
          refine (E_ic (v := (2 : Int32)) c_224_71 (by decide)).trans ?_
          refine (E_iadd c_224_72).trans ?_
          refine (E_ial c_224_73 sh_86).trans (ax_gd ?_)
          refine (E_il c_224_74 rfl).trans ?_
          refine (E_br_lt (q := 101) c_224_76 rfl).trans (ax_ite ?_ ?_)
          · refine (E_inc (v := (1 : Int32)) (L' := [.ref 82, .int x1, .int x2, .int x3, .int x4, .int x5, .int (x6 + (1 : Int32)), .int ((2 : Int32) + ((4 : Int32) * x6))]) c_224_101 rfl (by decide) rfl).trans ?_
            refine (E_goto (q := 9) c_224_104 rfl).trans ?_
            rfl
          · refine (E_al c_224_79 rfl (by decide)).trans ?_
            refine (E_gfr (k := 5) (r := 86) c_224_80 sh_82 rfl rfl rfl).trans ?_
            refine (E_il c_224_83 rfl).trans ?_
            refine (E_ic (v := (2 : Int32)) c_224_85 (by decide)).trans ?_
            refine (E_iadd c_224_86).trans ?_
            refine (E_ial c_224_87 sh_86).trans (ax_gd ?_)
            refine (E_is (L' := [.ref 82, .int x1, .int x2, .int x3, .int (σ.1 86 (((2 : Int32) + ((4 : Int32) * x6)) + (2 : Int32)).toNatClampNeg), .int x5, .int x6, .int ((2 : Int32) + ((4 : Int32) * x6))]) c_224_88 (Nat.le_of_ble_eq_true rfl) rfl).trans ?_
            refine (E_al c_224_90 rfl (by decide)).trans ?_
            refine (E_gfr (k := 5) (r := 86) c_224_91 sh_82 rfl rfl rfl).trans ?_
            refine (E_il c_224_94 rfl).trans ?_
            refine (E_ic (v := (3 : Int32)) c_224_96 (by decide)).trans ?_
            refine (E_iadd c_224_97).trans ?_
            refine (E_ial c_224_98 sh_86).trans (ax_gd ?_)
            refine (E_is (L' := [.ref 82, .int x1, .int x2, .int x3, .int (σ.1 86 (((2 : Int32) + ((4 : Int32) * x6)) + (2 : Int32)).toNatClampNeg), .int (σ.1 86 (((2 : Int32) + ((4 : Int32) * x6)) + (3 : Int32)).toNatClampNeg), .int x6, .int ((2 : Int32) + ((4 : Int32) * x6))]) c_224_99 (Nat.le_of_ble_eq_true rfl) rfl).trans ?_
            refine (E_inc (v := (1 : Int32)) (L' := [.ref 82, .int x1, .int x2, .int x3, .int (σ.1 86 (((2 : Int32) + ((4 : Int32) * x6)) + (2 : Int32)).toNatClampNeg), .int (σ.1 86 (((2 : Int32) + ((4 : Int32) * x6)) + (3 : Int32)).toNatClampNeg), .int (x6 + (1 : Int32)), .int ((2 : Int32) + ((4 : Int32) * x6))]) c_224_101 rfl (by decide) rfl).trans ?_
            refine (E_goto (q := 9) c_224_104 rfl).trans ?_
            rfl
      · refine (E_inc (v := (1 : Int32)) (L' := [.ref 82, .int x1, .int x2, .int x3, .int x4, .int x5, .int (x6 + (1 : Int32)), .int ((2 : Int32) + ((4 : Int32) * x6))]) c_224_101 rfl (by decide) rfl).trans ?_
        refine (E_goto (q := 9) c_224_104 rfl).trans ?_
        rfl
    · refine (E_inc (v := (1 : Int32)) (L' := [.ref 82, .int x1, .int x2, .int x3, .int x4, .int x5, .int (x6 + (1 : Int32)), .int ((2 : Int32) + ((4 : Int32) * x6))]) c_224_101 rfl (by decide) rfl).trans ?_
      refine (E_goto (q := 9) c_224_104 rfl).trans ?_
      rfl
  · refine (E_il c_224_107 rfl).trans ?_
    exact E_rI c_224_109 mi_224
set_option maxHeartbeats 4000000 in
theorem u_108_17 (d : Nat) (σ : ax_S) (x1 : Int32) (x2 : Int32) : ev sO (d + 3) 108 0 [.ref 17, .int x1, .int x2, .null, .null] [] σ = ev sO (d + 3) 108 5 [.ref 17, .int x1, .int x2, .int (0 : Int32), .int (0 : Int32)] [] σ := by
  refine (E_ic (v := (0 : Int32)) c_108_0 (by decide)).trans ?_
  refine (E_is (L' := [.ref 17, .int x1, .int x2, .int (0 : Int32), .null]) c_108_1 (Nat.le_of_ble_eq_true rfl) rfl).trans ?_
  refine (E_ic (v := (0 : Int32)) c_108_2 (by decide)).trans ?_
  refine (E_is (L' := [.ref 17, .int x1, .int x2, .int (0 : Int32), .int (0 : Int32)]) c_108_3 (Nat.le_of_ble_eq_true rfl) rfl).trans ?_
  rfl
set_option maxHeartbeats 4000000 in
theorem u_108_17p5 (d : Nat) (σ : ax_S) (x1 : Int32) (x2 : Int32) (x3 : Int32) (x4 : Int32) : ev sO (d + 3) 108 5 [.ref 17, .int x1, .int x2, .int x3, .int x4] [] σ = if x4 < (11 : Int32) then ((cI sO (d + 2) 109 [.ref 17, .int x1, .int x2, .int x4] σ).bind fun u0 => if u0.1 = 0 then (ev sO (d + 3) 108 5 [.ref 17, .int x1, .int x2, .int x3, .int (x4 + (1 : Int32))] [] u0.2) else (ev sO (d + 3) 108 5 [.ref 17, .int x1, .int x2, .int (x3 + (1 : Int32)), .int (x4 + (1 : Int32))] [] u0.2)) else (some (some (.int x3), σ)) := by
  refine (E_il c_108_5 rfl).trans ?_
  refine (E_ic (v := (11 : Int32)) c_108_7 (by decide)).trans ?_
  refine (E_br_ge (q := 32) c_108_9 rfl).trans (ax_ite ?_ ?_)
  · refine (E_al c_108_12 rfl (by decide)).trans ?_
    refine (E_il c_108_13 rfl).trans ?_
    refine (E_il c_108_14 rfl).trans ?_
    refine (E_il c_108_15 rfl).trans ?_
    refine (E_cIV c_108_17 mi_109 rfl rfl (sO_kl sh_17) (Nat.le_of_ble_eq_true rfl) (Nat.le_of_ble_eq_true rfl)).trans (ax_bnd fun u0 => ?_)
    refine (E_b0_eq (q := 26) c_108_20 rfl).trans (ax_ite ?_ ?_)
    · refine (E_inc (v := (1 : Int32)) (L' := [.ref 17, .int x1, .int x2, .int x3, .int (x4 + (1 : Int32))]) c_108_26 rfl (by decide) rfl).trans ?_
      refine (E_goto (q := 5) c_108_29 rfl).trans ?_
      rfl
    · refine (E_inc (v := (1 : Int32)) (L' := [.ref 17, .int x1, .int x2, .int (x3 + (1 : Int32)), .int x4]) c_108_23 rfl (by decide) rfl).trans ?_
      refine (E_inc (v := (1 : Int32)) (L' := [.ref 17, .int x1, .int x2, .int (x3 + (1 : Int32)), .int (x4 + (1 : Int32))]) c_108_26 rfl (by decide) rfl).trans ?_
      refine (E_goto (q := 5) c_108_29 rfl).trans ?_
      rfl
  · refine (E_il c_108_32 rfl).trans ?_
    exact E_rI c_108_33 mi_108
set_option maxHeartbeats 4000000 in
theorem u_244_82 (d : Nat) (σ : ax_S) (x1 : Int32) (x2 : Int32) : ev sO (d + 3) 244 0 [.ref 82, .int x1, .int x2, .null, .null] [] σ = ev sO (d + 3) 244 5 [.ref 82, .int x1, .int x2, .int (0 : Int32), .int (0 : Int32)] [] σ := by
  refine (E_ic (v := (0 : Int32)) c_244_0 (by decide)).trans ?_
  refine (E_is (L' := [.ref 82, .int x1, .int x2, .int (0 : Int32), .null]) c_244_1 (Nat.le_of_ble_eq_true rfl) rfl).trans ?_
  refine (E_ic (v := (0 : Int32)) c_244_2 (by decide)).trans ?_
  refine (E_is (L' := [.ref 82, .int x1, .int x2, .int (0 : Int32), .int (0 : Int32)]) c_244_3 (Nat.le_of_ble_eq_true rfl) rfl).trans ?_
  rfl
set_option maxHeartbeats 4000000 in
theorem u_244_82p5 (d : Nat) (σ : ax_S) (x1 : Int32) (x2 : Int32) (x3 : Int32) (x4 : Int32) : ev sO (d + 3) 244 5 [.ref 82, .int x1, .int x2, .int x3, .int x4] [] σ = if x4 < (11 : Int32) then ((cI sO (d + 2) 245 [.ref 82, .int x1, .int x2, .int x4] σ).bind fun u0 => if u0.1 = 0 then (ev sO (d + 3) 244 5 [.ref 82, .int x1, .int x2, .int (x3 + (0 : Int32)), .int (x4 + (1 : Int32))] [] u0.2) else (ev sO (d + 3) 244 5 [.ref 82, .int x1, .int x2, .int (x3 + (1 : Int32)), .int (x4 + (1 : Int32))] [] u0.2)) else (some (some (.int x3), σ)) := by
  refine (E_il c_244_5 rfl).trans ?_
  refine (E_ic (v := (11 : Int32)) c_244_7 (by decide)).trans ?_
  refine (E_br_ge (q := 37) c_244_9 rfl).trans (ax_ite ?_ ?_)
  · refine (E_il c_244_12 rfl).trans ?_
    refine (E_al c_244_13 rfl (by decide)).trans ?_
    refine (E_il c_244_14 rfl).trans ?_
    refine (E_il c_244_15 rfl).trans ?_
    refine (E_il c_244_16 rfl).trans ?_
    refine (E_cIV c_244_18 mi_245 rfl rfl (sO_kl sh_82) (Nat.le_of_ble_eq_true rfl) (Nat.le_of_ble_eq_true rfl)).trans (ax_bnd fun u0 => ?_)
    refine (E_b0_eq (q := 28) c_244_21 rfl).trans (ax_ite ?_ ?_)
    · refine (E_ic (v := (0 : Int32)) c_244_28 (by decide)).trans ?_
      refine (E_iadd c_244_29).trans ?_
      refine (E_is (L' := [.ref 82, .int x1, .int x2, .int (x3 + (0 : Int32)), .int x4]) c_244_30 (Nat.le_of_ble_eq_true rfl) rfl).trans ?_
      refine (E_inc (v := (1 : Int32)) (L' := [.ref 82, .int x1, .int x2, .int (x3 + (0 : Int32)), .int (x4 + (1 : Int32))]) c_244_31 rfl (by decide) rfl).trans ?_
      refine (E_goto (q := 5) c_244_34 rfl).trans ?_
      rfl
    · refine (E_ic (v := (1 : Int32)) c_244_24 (by decide)).trans ?_
      refine (E_goto (q := 29) c_244_25 rfl).trans ?_
      refine (E_iadd c_244_29).trans ?_
      refine (E_is (L' := [.ref 82, .int x1, .int x2, .int (x3 + (1 : Int32)), .int x4]) c_244_30 (Nat.le_of_ble_eq_true rfl) rfl).trans ?_
      refine (E_inc (v := (1 : Int32)) (L' := [.ref 82, .int x1, .int x2, .int (x3 + (1 : Int32)), .int (x4 + (1 : Int32))]) c_244_31 rfl (by decide) rfl).trans ?_
      refine (E_goto (q := 5) c_244_34 rfl).trans ?_
      rfl
  · refine (E_il c_244_37 rfl).trans ?_
    exact E_rI c_244_38 mi_244
set_option maxHeartbeats 4000000 in
theorem u_111_7 (d : Nat) (σ : ax_S) (x1 : Int32) : ev sO (d + 2) 111 0 [.ref 7, .int x1, .null, .null] [] σ = ev sO (d + 2) 111 4 [.ref 7, .int x1, .int (0 : Int32), .int (0 : Int32)] [] σ := by
  refine (E_ic (v := (0 : Int32)) c_111_0 (by decide)).trans ?_
  refine (E_is (L' := [.ref 7, .int x1, .int (0 : Int32), .null]) c_111_1 (Nat.le_of_ble_eq_true rfl) rfl).trans ?_
  refine (E_ic (v := (0 : Int32)) c_111_2 (by decide)).trans ?_
  refine (E_is (L' := [.ref 7, .int x1, .int (0 : Int32), .int (0 : Int32)]) c_111_3 (Nat.le_of_ble_eq_true rfl) rfl).trans ?_
  rfl
set_option maxHeartbeats 4000000 in
theorem u_111_7p4 (d : Nat) (σ : ax_S) (x1 : Int32) (x2 : Int32) (x3 : Int32) : ev sO (d + 2) 111 4 [.ref 7, .int x1, .int x2, .int x3] [] σ = if x3 < (11 : Int32) then ((cI sO (d + 1) 97 [.ref 17, .int x1, .int x3] σ).bind fun u0 => (cI sO (d + 1) 112 [.ref 8, .int x3, .int u0.1] u0.2).bind fun u1 => ev sO (d + 2) 111 4 [.ref 7, .int x1, .int (x2 + u1.1), .int (x3 + (1 : Int32))] [] u1.2) else (some (some (.int x2), σ)) := by
  refine (E_il c_111_4 rfl).trans ?_
  refine (E_ic (v := (11 : Int32)) c_111_5 (by decide)).trans ?_
  refine (E_br_ge (q := 36) c_111_7 rfl).trans (ax_ite ?_ ?_)
  · refine (E_il c_111_10 rfl).trans ?_
    refine (E_al c_111_11 rfl (by decide)).trans ?_
    refine (E_gfr (k := 0) (r := 8) c_111_12 sh_7 rfl rfl rfl).trans ?_
    refine (E_il c_111_15 rfl).trans ?_
    refine (E_al c_111_16 rfl (by decide)).trans ?_
    refine (E_gfr (k := 1) (r := 17) c_111_17 sh_7 rfl rfl rfl).trans ?_
    refine (E_il c_111_20 rfl).trans ?_
    refine (E_il c_111_21 rfl).trans ?_
    refine (E_cIV c_111_22 mi_97 rfl rfl (sO_kl sh_17) (Nat.le_of_ble_eq_true rfl) (Nat.le_of_ble_eq_true rfl)).trans (ax_bnd fun u0 => ?_)
    refine (E_cIV c_111_25 mi_112 rfl rfl (sO_kl sh_8) (Nat.le_of_ble_eq_true rfl) (Nat.le_of_ble_eq_true rfl)).trans (ax_bnd fun u1 => ?_)
    refine (E_iadd c_111_28).trans ?_
    refine (E_is (L' := [.ref 7, .int x1, .int (x2 + u1.1), .int x3]) c_111_29 (Nat.le_of_ble_eq_true rfl) rfl).trans ?_
    refine (E_inc (v := (1 : Int32)) (L' := [.ref 7, .int x1, .int (x2 + u1.1), .int (x3 + (1 : Int32))]) c_111_30 rfl (by decide) rfl).trans ?_
    refine (E_goto (q := 4) c_111_33 rfl).trans ?_
    rfl
  · refine (E_il c_111_36 rfl).trans ?_
    exact E_rI c_111_37 mi_111
set_option maxHeartbeats 4000000 in
theorem u_113_7 (d : Nat) (σ : ax_S) (x1 : Int32) : ev sO (d + 3) 113 0 [.ref 7, .int x1] [] σ = (cI sO (d + 2) 111 [.ref 7, .int x1] σ).bind fun u0 => (cI sO (d + 2) 114 [.ref 8] u0.2).bind fun u1 => if u0.1 < u1.1 then (some (some (.int (1 : Int32)), u1.2)) else (some (some (.int (0 : Int32)), u1.2)) := by
  refine (E_al c_113_0 rfl (by decide)).trans ?_
  refine (E_il c_113_1 rfl).trans ?_
  refine (E_cIV c_113_2 mi_111 rfl rfl (sO_kl sh_7) (Nat.le_of_ble_eq_true rfl) (Nat.le_of_ble_eq_true rfl)).trans (ax_bnd fun u0 => ?_)
  refine (E_al c_113_5 rfl (by decide)).trans ?_
  refine (E_gfr (k := 0) (r := 8) c_113_6 sh_7 rfl rfl rfl).trans ?_
  refine (E_cIV c_113_9 mi_114 rfl rfl (sO_kl sh_8) (Nat.le_of_ble_eq_true rfl) (Nat.le_of_ble_eq_true rfl)).trans (ax_bnd fun u1 => ?_)
  refine (E_br_ge (q := 19) c_113_12 rfl).trans (ax_ite ?_ ?_)
  · refine (E_ic (v := (1 : Int32)) c_113_15 (by decide)).trans ?_
    refine (E_goto (q := 20) c_113_16 rfl).trans ?_
    exact E_rZ (v := (1 : Int32)) c_113_20 mi_113 (by decide)
  · refine (E_ic (v := (0 : Int32)) c_113_19 (by decide)).trans ?_
    exact E_rZ (v := (0 : Int32)) c_113_20 mi_113 (by decide)
set_option maxHeartbeats 4000000 in
theorem u_247_82 (d : Nat) (σ : ax_S) (x1 : Int32) (x2 : Int32) (x3 : Int32) : ev sO (d + 1) 247 0 [.ref 82, .int x1, .int x2, .int x3, .null, .null, .null] [] σ = ev sO (d + 1) 247 6 [.ref 82, .int x1, .int x2, .int x3, .int (0 : Int32), .int (0 : Int32), .null] [] σ := by
  refine (E_ic (v := (0 : Int32)) c_247_0 (by decide)).trans ?_
  refine (E_is (L' := [.ref 82, .int x1, .int x2, .int x3, .int (0 : Int32), .null, .null]) c_247_1 (Nat.le_of_ble_eq_true rfl) rfl).trans ?_
  refine (E_ic (v := (0 : Int32)) c_247_3 (by decide)).trans ?_
  refine (E_is (L' := [.ref 82, .int x1, .int x2, .int x3, .int (0 : Int32), .int (0 : Int32), .null]) c_247_4 (Nat.le_of_ble_eq_true rfl) rfl).trans ?_
  rfl
set_option maxHeartbeats 4000000 in
theorem u_247_82p6 (d : Nat) (σ : ax_S) (x1 : Int32) (x2 : Int32) (x3 : Int32) (x4 : Int32) (x5 : Int32) (w6 : Value) (hw6 : w6.category = 1) : ev sO (d + 1) 247 6 [.ref 82, .int x1, .int x2, .int x3, .int x4, .int x5, w6] [] σ = if x5 < (11 : Int32) then (if ((x3 >>> (x5 &&& 31)) &&& (1 : Int32)) = (1 : Int32) then ((cI sO d 235 [.ref 82, .int x2, .int x5] σ).bind fun u0 => if x5 < (8 : Int32) then (gd (0 ≤ ((90 : Int32) + x5).toInt ∧ ((90 : Int32) + x5).toInt < (102 : Nat)) (ev sO (d + 1) 247 6 [.ref 82, .int x1, .int x2, .int x3, .int (x4 + ((u0.2.1 86 ((90 : Int32) + x5).toNatClampNeg) * u0.1)), .int (x5 + (1 : Int32)), .int u0.1] [] u0.2)) else (if x5 = (8 : Int32) then ((cI sO d 248 [.int (u0.1 - (u0.2.1 86 98))] u0.2).bind fun u1 => ev sO (d + 1) 247 6 [.ref 82, .int x1, .int x2, .int x3, .int (x4 + ((-10 : Int32) * u1.1)), .int (x5 + (1 : Int32)), .int u0.1] [] u1.2) else (if x5 = (9 : Int32) then ((cI sO d 248 [.int (u0.1 - (u0.2.1 86 99))] u0.2).bind fun u2 => ev sO (d + 1) 247 6 [.ref 82, .int x1, .int x2, .int x3, .int (x4 + (-u2.1)), .int (x5 + (1 : Int32)), .int u0.1] [] u2.2) else (if u0.1 < (u0.2.1 86 100) then (ev sO (d + 1) 247 6 [.ref 82, .int x1, .int x2, .int x3, .int (x4 + u0.1), .int (x5 + (1 : Int32)), .int u0.1] [] u0.2) else (ev sO (d + 1) 247 6 [.ref 82, .int x1, .int x2, .int x3, .int (x4 + (u0.2.1 86 100)), .int (x5 + (1 : Int32)), .int u0.1] [] u0.2))))) else ((cI sO d 235 [.ref 82, .int x1, .int x5] σ).bind fun u3 => if x5 < (8 : Int32) then (gd (0 ≤ ((90 : Int32) + x5).toInt ∧ ((90 : Int32) + x5).toInt < (102 : Nat)) (ev sO (d + 1) 247 6 [.ref 82, .int x1, .int x2, .int x3, .int (x4 + ((u3.2.1 86 ((90 : Int32) + x5).toNatClampNeg) * u3.1)), .int (x5 + (1 : Int32)), .int u3.1] [] u3.2)) else (if x5 = (8 : Int32) then ((cI sO d 248 [.int (u3.1 - (u3.2.1 86 98))] u3.2).bind fun u4 => ev sO (d + 1) 247 6 [.ref 82, .int x1, .int x2, .int x3, .int (x4 + ((-10 : Int32) * u4.1)), .int (x5 + (1 : Int32)), .int u3.1] [] u4.2) else (if x5 = (9 : Int32) then ((cI sO d 248 [.int (u3.1 - (u3.2.1 86 99))] u3.2).bind fun u5 => ev sO (d + 1) 247 6 [.ref 82, .int x1, .int x2, .int x3, .int (x4 + (-u5.1)), .int (x5 + (1 : Int32)), .int u3.1] [] u5.2) else (if u3.1 < (u3.2.1 86 100) then (ev sO (d + 1) 247 6 [.ref 82, .int x1, .int x2, .int x3, .int (x4 + u3.1), .int (x5 + (1 : Int32)), .int u3.1] [] u3.2) else (ev sO (d + 1) 247 6 [.ref 82, .int x1, .int x2, .int x3, .int (x4 + (u3.2.1 86 100)), .int (x5 + (1 : Int32)), .int u3.1] [] u3.2)))))) else (some (some (.int x4), σ)) := by
  refine (E_il c_247_6 rfl).trans ?_
  refine (E_ic (v := (11 : Int32)) c_247_8 (by decide)).trans ?_
  refine (E_br_ge (q := 150) c_247_10 rfl).trans (ax_ite ?_ ?_)
  · refine (E_il c_247_13 rfl).trans ?_
    refine (E_il c_247_14 rfl).trans ?_
    refine (E_ishr c_247_16).trans ?_
    refine (E_ic (v := (1 : Int32)) c_247_17 (by decide)).trans ?_
    refine (E_iand c_247_18).trans ?_
    refine (E_ic (v := (1 : Int32)) c_247_19 (by decide)).trans ?_
    refine (E_br_ne (q := 33) c_247_20 rfl).trans (ax_ite ?_ ?_)
    · refine (E_al c_247_23 rfl (by decide)).trans ?_
      refine (E_il c_247_24 rfl).trans ?_
      refine (E_il c_247_25 rfl).trans ?_
      refine (E_cIV c_247_27 mi_235 rfl rfl (sO_kl sh_82) (Nat.le_of_ble_eq_true rfl) (Nat.le_of_ble_eq_true rfl)).trans (ax_bnd fun u0 => ?_)
      refine (E_goto (q := 40) c_247_30 rfl).trans ?_
      refine (E_is (L' := [.ref 82, .int x1, .int x2, .int x3, .int x4, .int x5, .int u0.1]) c_247_40 (Nat.le_of_ble_eq_true rfl) rfl).trans ?_
      refine (E_il c_247_42 rfl).trans ?_
      refine (E_il c_247_44 rfl).trans ?_
      refine (E_ic (v := (8 : Int32)) c_247_46 (by decide)).trans ?_
      refine (E_br_ge (q := 67) c_247_48 rfl).trans (ax_ite ?_ ?_)
      · refine (E_al c_247_51 rfl (by decide)).trans ?_
        refine (E_gfr (k := 5) (r := 86) c_247_52 sh_82 rfl rfl rfl).trans ?_
        refine (E_ic (v := (90 : Int32)) c_247_55 (by decide)).trans ?_
        refine (E_il c_247_57 rfl).trans ?_
        refine (E_iadd c_247_59).trans ?_
        refine (E_ial c_247_60 sh_86).trans (ax_gd ?_)
        refine (E_il c_247_61 rfl).trans ?_
        refine (E_imul c_247_63).trans ?_
        refine (E_goto (q := 141) c_247_64 rfl).trans ?_
        refine (E_iadd c_247_141).trans ?_
        refine (E_is (L' := [.ref 82, .int x1, .int x2, .int x3, .int (x4 + ((u0.2.1 86 ((90 : Int32) + x5).toNatClampNeg) * u0.1)), .int x5, .int u0.1]) c_247_142 (Nat.le_of_ble_eq_true rfl) rfl).trans ?_
        refine (E_inc (v := (1 : Int32)) (L' := [.ref 82, .int x1, .int x2, .int x3, .int (x4 + ((u0.2.1 86 ((90 : Int32) + x5).toNatClampNeg) * u0.1)), .int (x5 + (1 : Int32)), .int u0.1]) c_247_144 rfl (by decide) rfl).trans ?_
        refine (E_goto (q := 6) c_247_147 rfl).trans ?_
        rfl
      · refine (E_il c_247_67 rfl).trans ?_
        refine (E_ic (v := (8 : Int32)) c_247_69 (by decide)).trans ?_
        refine (E_br_ne (q := 93) c_247_71 rfl).trans (ax_ite ?_ ?_)
        · refine (E_ic (v := (-10 : Int32)) c_247_74 (by decide)).trans ?_
          refine (E_il c_247_76 rfl).trans ?_
          refine (E_al c_247_78 rfl (by decide)).trans ?_
          refine (E_gfr (k := 5) (r := 86) c_247_79 sh_82 rfl rfl rfl).trans ?_
          refine (E_ic (v := (98 : Int32)) c_247_82 (by decide)).trans ?_
          refine (E_ialk (k := 98) c_247_84 sh_86 (by decide) (by decide)).trans ?_
          refine (E_isub c_247_85).trans ?_
          refine (E_cIS c_247_86 mi_248 rfl rfl (Nat.le_of_ble_eq_true rfl) (Nat.le_of_ble_eq_true rfl)).trans (ax_bnd fun u1 => ?_)
          refine (E_imul c_247_89).trans ?_
          refine (E_goto (q := 141) c_247_90 rfl).trans ?_
          refine (E_iadd c_247_141).trans ?_
          refine (E_is (L' := [.ref 82, .int x1, .int x2, .int x3, .int (x4 + ((-10 : Int32) * u1.1)), .int x5, .int u0.1]) c_247_142 (Nat.le_of_ble_eq_true rfl) rfl).trans ?_
          refine (E_inc (v := (1 : Int32)) (L' := [.ref 82, .int x1, .int x2, .int x3, .int (x4 + ((-10 : Int32) * u1.1)), .int (x5 + (1 : Int32)), .int u0.1]) c_247_144 rfl (by decide) rfl).trans ?_
          refine (E_goto (q := 6) c_247_147 rfl).trans ?_
          rfl
        · refine (E_il c_247_93 rfl).trans ?_
          refine (E_ic (v := (9 : Int32)) c_247_95 (by decide)).trans ?_
          refine (E_br_ne (q := 117) c_247_97 rfl).trans (ax_ite ?_ ?_)
          · refine (E_il c_247_100 rfl).trans ?_
            refine (E_al c_247_102 rfl (by decide)).trans ?_
            refine (E_gfr (k := 5) (r := 86) c_247_103 sh_82 rfl rfl rfl).trans ?_
            refine (E_ic (v := (99 : Int32)) c_247_106 (by decide)).trans ?_
            refine (E_ialk (k := 99) c_247_108 sh_86 (by decide) (by decide)).trans ?_
            refine (E_isub c_247_109).trans ?_
            refine (E_cIS c_247_110 mi_248 rfl rfl (Nat.le_of_ble_eq_true rfl) (Nat.le_of_ble_eq_true rfl)).trans (ax_bnd fun u2 => ?_)
            refine (E_ineg c_247_113).trans ?_
            refine (E_goto (q := 141) c_247_114 rfl).trans ?_
            refine (E_iadd c_247_141).trans ?_
            refine (E_is (L' := [.ref 82, .int x1, .int x2, .int x3, .int (x4 + (-u2.1)), .int x5, .int u0.1]) c_247_142 (Nat.le_of_ble_eq_true rfl) rfl).trans ?_
            refine (E_inc (v := (1 : Int32)) (L' := [.ref 82, .int x1, .int x2, .int x3, .int (x4 + (-u2.1)), .int (x5 + (1 : Int32)), .int u0.1]) c_247_144 rfl (by decide) rfl).trans ?_
            refine (E_goto (q := 6) c_247_147 rfl).trans ?_
            rfl
          · refine (E_il c_247_117 rfl).trans ?_
            refine (E_al c_247_119 rfl (by decide)).trans ?_
            refine (E_gfr (k := 5) (r := 86) c_247_120 sh_82 rfl rfl rfl).trans ?_
            refine (E_ic (v := (100 : Int32)) c_247_123 (by decide)).trans ?_
            refine (E_ialk (k := 100) c_247_125 sh_86 (by decide) (by decide)).trans ?_
            refine (E_br_ge (q := 134) c_247_126 rfl).trans (ax_ite ?_ ?_)
            · refine (E_il c_247_129 rfl).trans ?_
              refine (E_goto (q := 141) c_247_131 rfl).trans ?_
              refine (E_iadd c_247_141).trans ?_
              refine (E_is (L' := [.ref 82, .int x1, .int x2, .int x3, .int (x4 + u0.1), .int x5, .int u0.1]) c_247_142 (Nat.le_of_ble_eq_true rfl) rfl).trans ?_
              refine (E_inc (v := (1 : Int32)) (L' := [.ref 82, .int x1, .int x2, .int x3, .int (x4 + u0.1), .int (x5 + (1 : Int32)), .int u0.1]) c_247_144 rfl (by decide) rfl).trans ?_
              refine (E_goto (q := 6) c_247_147 rfl).trans ?_
              rfl
            · refine (E_al c_247_134 rfl (by decide)).trans ?_
              refine (E_gfr (k := 5) (r := 86) c_247_135 sh_82 rfl rfl rfl).trans ?_
              refine (E_ic (v := (100 : Int32)) c_247_138 (by decide)).trans ?_
              refine (E_ialk (k := 100) c_247_140 sh_86 (by decide) (by decide)).trans ?_
              refine (E_iadd c_247_141).trans ?_
              refine (E_is (L' := [.ref 82, .int x1, .int x2, .int x3, .int (x4 + (u0.2.1 86 100)), .int x5, .int u0.1]) c_247_142 (Nat.le_of_ble_eq_true rfl) rfl).trans ?_
              refine (E_inc (v := (1 : Int32)) (L' := [.ref 82, .int x1, .int x2, .int x3, .int (x4 + (u0.2.1 86 100)), .int (x5 + (1 : Int32)), .int u0.1]) c_247_144 rfl (by decide) rfl).trans ?_
              refine (E_goto (q := 6) c_247_147 rfl).trans ?_
              rfl
    · refine (E_al c_247_33 rfl (by decide)).trans ?_
      refine (E_il c_247_34 rfl).trans ?_
      refine (E_il c_247_35 rfl).trans ?_
      refine (E_cIV c_247_37 mi_235 rfl rfl (sO_kl sh_82) (Nat.le_of_ble_eq_true rfl) (Nat.le_of_ble_eq_true rfl)).trans (ax_bnd fun u3 => ?_)
      refine (E_is (L' := [.ref 82, .int x1, .int x2, .int x3, .int x4, .int x5, .int u3.1]) c_247_40 (Nat.le_of_ble_eq_true rfl) rfl).trans ?_
      refine (E_il c_247_42 rfl).trans ?_
      refine (E_il c_247_44 rfl).trans ?_
      refine (E_ic (v := (8 : Int32)) c_247_46 (by decide)).trans ?_
      refine (E_br_ge (q := 67) c_247_48 rfl).trans (ax_ite ?_ ?_)
      · refine (E_al c_247_51 rfl (by decide)).trans ?_
        refine (E_gfr (k := 5) (r := 86) c_247_52 sh_82 rfl rfl rfl).trans ?_
        refine (E_ic (v := (90 : Int32)) c_247_55 (by decide)).trans ?_
        refine (E_il c_247_57 rfl).trans ?_
        refine (E_iadd c_247_59).trans ?_
        refine (E_ial c_247_60 sh_86).trans (ax_gd ?_)
        refine (E_il c_247_61 rfl).trans ?_
        refine (E_imul c_247_63).trans ?_
        refine (E_goto (q := 141) c_247_64 rfl).trans ?_
        refine (E_iadd c_247_141).trans ?_
        refine (E_is (L' := [.ref 82, .int x1, .int x2, .int x3, .int (x4 + ((u3.2.1 86 ((90 : Int32) + x5).toNatClampNeg) * u3.1)), .int x5, .int u3.1]) c_247_142 (Nat.le_of_ble_eq_true rfl) rfl).trans ?_
        refine (E_inc (v := (1 : Int32)) (L' := [.ref 82, .int x1, .int x2, .int x3, .int (x4 + ((u3.2.1 86 ((90 : Int32) + x5).toNatClampNeg) * u3.1)), .int (x5 + (1 : Int32)), .int u3.1]) c_247_144 rfl (by decide) rfl).trans ?_
        refine (E_goto (q := 6) c_247_147 rfl).trans ?_
        rfl
      · refine (E_il c_247_67 rfl).trans ?_
        refine (E_ic (v := (8 : Int32)) c_247_69 (by decide)).trans ?_
        refine (E_br_ne (q := 93) c_247_71 rfl).trans (ax_ite ?_ ?_)
        · refine (E_ic (v := (-10 : Int32)) c_247_74 (by decide)).trans ?_
          refine (E_il c_247_76 rfl).trans ?_
          refine (E_al c_247_78 rfl (by decide)).trans ?_
          refine (E_gfr (k := 5) (r := 86) c_247_79 sh_82 rfl rfl rfl).trans ?_
          refine (E_ic (v := (98 : Int32)) c_247_82 (by decide)).trans ?_
          refine (E_ialk (k := 98) c_247_84 sh_86 (by decide) (by decide)).trans ?_
          refine (E_isub c_247_85).trans ?_
          refine (E_cIS c_247_86 mi_248 rfl rfl (Nat.le_of_ble_eq_true rfl) (Nat.le_of_ble_eq_true rfl)).trans (ax_bnd fun u4 => ?_)
          refine (E_imul c_247_89).trans ?_
          refine (E_goto (q := 141) c_247_90 rfl).trans ?_
          refine (E_iadd c_247_141).trans ?_
          refine (E_is (L' := [.ref 82, .int x1, .int x2, .int x3, .int (x4 + ((-10 : Int32) * u4.1)), .int x5, .int u3.1]) c_247_142 (Nat.le_of_ble_eq_true rfl) rfl).trans ?_
          refine (E_inc (v := (1 : Int32)) (L' := [.ref 82, .int x1, .int x2, .int x3, .int (x4 + ((-10 : Int32) * u4.1)), .int (x5 + (1 : Int32)), .int u3.1]) c_247_144 rfl (by decide) rfl).trans ?_
          refine (E_goto (q := 6) c_247_147 rfl).trans ?_
          rfl
        · refine (E_il c_247_93 rfl).trans ?_
          refine (E_ic (v := (9 : Int32)) c_247_95 (by decide)).trans ?_
          refine (E_br_ne (q := 117) c_247_97 rfl).trans (ax_ite ?_ ?_)
          · refine (E_il c_247_100 rfl).trans ?_
            refine (E_al c_247_102 rfl (by decide)).trans ?_
            refine (E_gfr (k := 5) (r := 86) c_247_103 sh_82 rfl rfl rfl).trans ?_
            refine (E_ic (v := (99 : Int32)) c_247_106 (by decide)).trans ?_
            refine (E_ialk (k := 99) c_247_108 sh_86 (by decide) (by decide)).trans ?_
            refine (E_isub c_247_109).trans ?_
            refine (E_cIS c_247_110 mi_248 rfl rfl (Nat.le_of_ble_eq_true rfl) (Nat.le_of_ble_eq_true rfl)).trans (ax_bnd fun u5 => ?_)
            refine (E_ineg c_247_113).trans ?_
            refine (E_goto (q := 141) c_247_114 rfl).trans ?_
            refine (E_iadd c_247_141).trans ?_
            refine (E_is (L' := [.ref 82, .int x1, .int x2, .int x3, .int (x4 + (-u5.1)), .int x5, .int u3.1]) c_247_142 (Nat.le_of_ble_eq_true rfl) rfl).trans ?_
            refine (E_inc (v := (1 : Int32)) (L' := [.ref 82, .int x1, .int x2, .int x3, .int (x4 + (-u5.1)), .int (x5 + (1 : Int32)), .int u3.1]) c_247_144 rfl (by decide) rfl).trans ?_
            refine (E_goto (q := 6) c_247_147 rfl).trans ?_
            rfl
          · refine (E_il c_247_117 rfl).trans ?_
            refine (E_al c_247_119 rfl (by decide)).trans ?_
            refine (E_gfr (k := 5) (r := 86) c_247_120 sh_82 rfl rfl rfl).trans ?_
            refine (E_ic (v := (100 : Int32)) c_247_123 (by decide)).trans ?_
            refine (E_ialk (k := 100) c_247_125 sh_86 (by decide) (by decide)).trans ?_
            refine (E_br_ge (q := 134) c_247_126 rfl).trans (ax_ite ?_ ?_)
            · refine (E_il c_247_129 rfl).trans ?_
              refine (E_goto (q := 141) c_247_131 rfl).trans ?_
              refine (E_iadd c_247_141).trans ?_
              refine (E_is (L' := [.ref 82, .int x1, .int x2, .int x3, .int (x4 + u3.1), .int x5, .int u3.1]) c_247_142 (Nat.le_of_ble_eq_true rfl) rfl).trans ?_
              refine (E_inc (v := (1 : Int32)) (L' := [.ref 82, .int x1, .int x2, .int x3, .int (x4 + u3.1), .int (x5 + (1 : Int32)), .int u3.1]) c_247_144 rfl (by decide) rfl).trans ?_
              refine (E_goto (q := 6) c_247_147 rfl).trans ?_
              rfl
            · refine (E_al c_247_134 rfl (by decide)).trans ?_
              refine (E_gfr (k := 5) (r := 86) c_247_135 sh_82 rfl rfl rfl).trans ?_
              refine (E_ic (v := (100 : Int32)) c_247_138 (by decide)).trans ?_
              refine (E_ialk (k := 100) c_247_140 sh_86 (by decide) (by decide)).trans ?_
              refine (E_iadd c_247_141).trans ?_
              refine (E_is (L' := [.ref 82, .int x1, .int x2, .int x3, .int (x4 + (u3.2.1 86 100)), .int x5, .int u3.1]) c_247_142 (Nat.le_of_ble_eq_true rfl) rfl).trans ?_
              refine (E_inc (v := (1 : Int32)) (L' := [.ref 82, .int x1, .int x2, .int x3, .int (x4 + (u3.2.1 86 100)), .int (x5 + (1 : Int32)), .int u3.1]) c_247_144 rfl (by decide) rfl).trans ?_
              refine (E_goto (q := 6) c_247_147 rfl).trans ?_
              rfl
  · refine (E_il c_247_150 rfl).trans ?_
    exact E_rI c_247_152 mi_247
set_option maxHeartbeats 4000000 in
theorem u_249_82 (d : Nat) (σ : ax_S) (x1 : Int32) (x2 : Int32) (x3 : Int32) : ev sO (d + 2) 249 0 [.ref 82, .int x1, .int x2, .int x3] [] σ = (cI sO (d + 1) 247 [.ref 82, .int x1, .int x2, .int x3] σ).bind fun u0 => if u0.1 < (u0.2.1 86 101) then (some (some (.int (1 : Int32)), u0.2)) else (some (some (.int (0 : Int32)), u0.2)) := by
  refine (E_al c_249_0 rfl (by decide)).trans ?_
  refine (E_il c_249_1 rfl).trans ?_
  refine (E_il c_249_2 rfl).trans ?_
  refine (E_il c_249_3 rfl).trans ?_
  refine (E_cIV c_249_4 mi_247 rfl rfl (sO_kl sh_82) (Nat.le_of_ble_eq_true rfl) (Nat.le_of_ble_eq_true rfl)).trans (ax_bnd fun u0 => ?_)
  refine (E_al c_249_7 rfl (by decide)).trans ?_
  refine (E_gfr (k := 5) (r := 86) c_249_8 sh_82 rfl rfl rfl).trans ?_
  refine (E_ic (v := (101 : Int32)) c_249_11 (by decide)).trans ?_
  refine (E_ialk (k := 101) c_249_13 sh_86 (by decide) (by decide)).trans ?_
  refine (E_br_ge (q := 21) c_249_14 rfl).trans (ax_ite ?_ ?_)
  · refine (E_ic (v := (1 : Int32)) c_249_17 (by decide)).trans ?_
    refine (E_goto (q := 22) c_249_18 rfl).trans ?_
    exact E_rZ (v := (1 : Int32)) c_249_22 mi_249 (by decide)
  · refine (E_ic (v := (0 : Int32)) c_249_21 (by decide)).trans ?_
    exact E_rZ (v := (0 : Int32)) c_249_22 mi_249 (by decide)
set_option maxHeartbeats 4000000 in
theorem u_116_63_7 (d : Nat) (σ : ax_S) (x2 : Int32) (x3 : Int32) : ev sO (d + 3) 116 0 [.ref 63, .ref 7, .int x2, .int x3, .null, .null, .null, .null] [] σ = (cV sO (d + 2) 117 [.ref 63] σ).bind fun u0 => ev sO (d + 3) 116 10 [.ref 63, .ref 7, .int x2, .int x3, .int (0 : Int32), .int (0 : Int32), .null, .null] [] u0 := by
  refine (E_al c_116_0 rfl (by decide)).trans ?_
  refine (E_cVV c_116_1 mi_117 rfl (sO_kl sh_63) (Nat.le_of_ble_eq_true rfl) (Nat.le_of_ble_eq_true rfl)).trans (ax_bnd fun u0 => ?_)
  refine (E_ic (v := (0 : Int32)) c_116_4 (by decide)).trans ?_
  refine (E_is (L' := [.ref 63, .ref 7, .int x2, .int x3, .int (0 : Int32), .null, .null, .null]) c_116_5 (Nat.le_of_ble_eq_true rfl) rfl).trans ?_
  refine (E_ic (v := (0 : Int32)) c_116_7 (by decide)).trans ?_
  refine (E_is (L' := [.ref 63, .ref 7, .int x2, .int x3, .int (0 : Int32), .int (0 : Int32), .null, .null]) c_116_8 (Nat.le_of_ble_eq_true rfl) rfl).trans ?_
  rfl
set_option maxHeartbeats 4000000 in
theorem u_116_63_7p10 (d : Nat) (σ : ax_S) (x2 : Int32) (x3 : Int32) (x4 : Int32) (x5 : Int32) (w6 : Value) (hw6 : w6.category = 1) (w7 : Value) (hw7 : w7.category = 1) : ev sO (d + 3) 116 10 [.ref 63, .ref 7, .int x2, .int x3, .int x4, .int x5, w6, w7] [] σ = if x5 < (11 : Int32) then ((cI sO (d + 2) 109 [.ref 17, .int x2, .int x3, .int x5] σ).bind fun u0 => if u0.1 = 0 then (ev sO (d + 3) 116 10 [.ref 63, .ref 7, .int x2, .int x3, .int x4, .int (x5 + (1 : Int32)), w6, w7] [] u0.2) else ((cI sO (d + 2) 97 [.ref 17, .int x3, .int x5] u0.2).bind fun u1 => (cI sO (d + 2) 112 [.ref 8, .int x5, .int u1.1] u1.2).bind fun u2 => (cI sO (d + 2) 97 [.ref 17, .int x2, .int x5] u2.2).bind fun u3 => (cI sO (d + 2) 112 [.ref 8, .int x5, .int u3.1] u3.2).bind fun u4 => gd (0 ≤ x5.toInt ∧ x5.toInt < (12 : Nat)) (ev sO (d + 3) 116 10 [.ref 63, .ref 7, .int x2, .int x3, .int (x4 ||| ((1 : Int32) <<< (x5 &&& 31))), .int (x5 + (1 : Int32)), .int u2.1, w7] [] (sI u4.2 64 x5.toNatClampNeg (u2.1 - u4.1))))) else ((cI sO (d + 2) 114 [.ref 8] σ).bind fun u5 => (cI sO (d + 2) 111 [.ref 7, .int x2] u5.2).bind fun u6 => ev sO (d + 3) 116 114 [.ref 63, .ref 7, .int x2, .int x3, .int x4, .int (u5.1 - u6.1), .int (1 : Int32), w7] [] u6.2) := by
  refine (E_il c_116_10 rfl).trans ?_
  refine (E_ic (v := (11 : Int32)) c_116_12 (by decide)).trans ?_
  refine (E_br_ge (q := 96) c_116_14 rfl).trans (ax_ite ?_ ?_)
  · refine (E_al c_116_17 rfl (by decide)).trans ?_
    refine (E_gfr (k := 1) (r := 17) c_116_18 sh_7 rfl rfl rfl).trans ?_
    refine (E_il c_116_21 rfl).trans ?_
    refine (E_il c_116_22 rfl).trans ?_
    refine (E_il c_116_23 rfl).trans ?_
    refine (E_cIV c_116_25 mi_109 rfl rfl (sO_kl sh_17) (Nat.le_of_ble_eq_true rfl) (Nat.le_of_ble_eq_true rfl)).trans (ax_bnd fun u0 => ?_)
    refine (E_b0_eq (q := 90) c_116_28 rfl).trans (ax_ite ?_ ?_)
    · refine (E_inc (v := (1 : Int32)) (L' := [.ref 63, .ref 7, .int x2, .int x3, .int x4, .int (x5 + (1 : Int32)), w6, w7]) c_116_90 rfl (by decide) rfl).trans ?_
      refine (E_goto (q := 10) c_116_93 rfl).trans ?_
      rfl
    · refine (E_il c_116_31 rfl).trans ?_
      refine (E_ic (v := (1 : Int32)) c_116_33 (by decide)).trans ?_
      refine (E_il c_116_34 rfl).trans ?_
      refine (E_ishl c_116_36).trans ?_
      refine (E_ior c_116_37).trans ?_
      refine (E_is (L' := [.ref 63, .ref 7, .int x2, .int x3, .int (x4 ||| ((1 : Int32) <<< (x5 &&& 31))), .int x5, w6, w7]) c_116_38 (Nat.le_of_ble_eq_true rfl) rfl).trans ?_
      refine (E_al c_116_40 rfl (by decide)).trans ?_
      refine (E_gfr (k := 0) (r := 8) c_116_41 sh_7 rfl rfl rfl).trans ?_
      refine (E_il c_116_44 rfl).trans ?_
      refine (E_al c_116_46 rfl (by decide)).trans ?_
      refine (E_gfr (k := 1) (r := 17) c_116_47 sh_7 rfl rfl rfl).trans ?_
      refine (E_il c_116_50 rfl).trans ?_
      refine (E_il c_116_51 rfl).trans ?_
      refine (E_cIV c_116_53 mi_97 rfl rfl (sO_kl sh_17) (Nat.le_of_ble_eq_true rfl) (Nat.le_of_ble_eq_true rfl)).trans (ax_bnd fun u1 => ?_)
      refine (E_cIV c_116_56 mi_112 rfl rfl (sO_kl sh_8) (Nat.le_of_ble_eq_true rfl) (Nat.le_of_ble_eq_true rfl)).trans (ax_bnd fun u2 => ?_)
      refine (E_is (L' := [.ref 63, .ref 7, .int x2, .int x3, .int (x4 ||| ((1 : Int32) <<< (x5 &&& 31))), .int x5, .int u2.1, w7]) c_116_59 (Nat.le_of_ble_eq_true rfl) rfl).trans ?_
      refine (E_al c_116_61 rfl (by decide)).trans ?_
      refine (E_gfr (k := 0) (r := 64) c_116_62 sh_63 rfl rfl rfl).trans ?_
      refine (E_il c_116_65 rfl).trans ?_
      refine (E_il c_116_67 rfl).trans ?_
      refine (E_al c_116_69 rfl (by decide)).trans ?_
      refine (E_gfr (k := 0) (r := 8) c_116_70 sh_7 rfl rfl rfl).trans ?_
      refine (E_il c_116_73 rfl).trans ?_
      refine (E_al c_116_75 rfl (by decide)).trans ?_
      refine (E_gfr (k := 1) (r := 17) c_116_76 sh_7 rfl rfl rfl).trans ?_
      refine (E_il c_116_79 rfl).trans ?_
      refine (E_il c_116_80 rfl).trans ?_
      refine (E_cIV c_116_82 mi_97 rfl rfl (sO_kl sh_17) (Nat.le_of_ble_eq_true rfl) (Nat.le_of_ble_eq_true rfl)).trans (ax_bnd fun u3 => ?_)
      refine (E_cIV c_116_85 mi_112 rfl rfl (sO_kl sh_8) (Nat.le_of_ble_eq_true rfl) (Nat.le_of_ble_eq_true rfl)).trans (ax_bnd fun u4 => ?_)
      refine (E_isub c_116_88).trans ?_
      refine (E_ias (v := (u2.1 - u4.1)) c_116_89 sh_64 rfl).trans (ax_gd ?_)
      refine (E_inc (v := (1 : Int32)) (L' := [.ref 63, .ref 7, .int x2, .int x3, .int (x4 ||| ((1 : Int32) <<< (x5 &&& 31))), .int (x5 + (1 : Int32)), .int u2.1, w7]) c_116_90 rfl (by decide) rfl).trans ?_
      refine (E_goto (q := 10) c_116_93 rfl).trans ?_
      rfl
  · refine (E_al c_116_96 rfl (by decide)).trans ?_
    refine (E_gfr (k := 0) (r := 8) c_116_97 sh_7 rfl rfl rfl).trans ?_
    refine (E_cIV c_116_100 mi_114 rfl rfl (sO_kl sh_8) (Nat.le_of_ble_eq_true rfl) (Nat.le_of_ble_eq_true rfl)).trans (ax_bnd fun u5 => ?_)
    refine (E_al c_116_103 rfl (by decide)).trans ?_
    refine (E_il c_116_104 rfl).trans ?_
    refine (E_cIV c_116_105 mi_111 rfl rfl (sO_kl sh_7) (Nat.le_of_ble_eq_true rfl) (Nat.le_of_ble_eq_true rfl)).trans (ax_bnd fun u6 => ?_)
    refine (E_isub c_116_108).trans ?_
    refine (E_is (L' := [.ref 63, .ref 7, .int x2, .int x3, .int x4, .int (u5.1 - u6.1), w6, w7]) c_116_109 (Nat.le_of_ble_eq_true rfl) rfl).trans ?_
    refine (E_ic (v := (1 : Int32)) c_116_111 (by decide)).trans ?_
    refine (E_is (L' := [.ref 63, .ref 7, .int x2, .int x3, .int x4, .int (u5.1 - u6.1), .int (1 : Int32), w7]) c_116_112 (Nat.le_of_ble_eq_true rfl) rfl).trans ?_
    rfl
set_option maxHeartbeats 4000000 in
theorem u_116_63_7p114 (d : Nat) (σ : ax_S) (w1 : Value) (hw1 : w1.category = 1) (w2 : Value) (hw2 : w2.category = 1) (w3 : Value) (hw3 : w3.category = 1) (x4 : Int32) (x5 : Int32) (x6 : Int32) (w7 : Value) (hw7 : w7.category = 1) : ev sO (d + 3) 116 114 [.ref 63, w1, w2, w3, .int x4, .int x5, .int x6, w7] [] σ = if x6 < (2048 : Int32) then (if (x6 &&& (x4 ^^^ (-1 : Int32))) = 0 then ((cI sO (d + 2) 118 [.int x6] σ).bind fun u0 => gd (0 ≤ (x6 &&& (x6 - (1 : Int32))).toInt ∧ (x6 &&& (x6 - (1 : Int32))).toInt < (4096 : Nat)) (gd (0 ≤ u0.1.toInt ∧ u0.1.toInt < (12 : Nat)) (gd (0 ≤ x6.toInt ∧ x6.toInt < (4096 : Nat)) (gd (0 ≤ x6.toInt ∧ x6.toInt < (4096 : Nat)) (if ((sI u0.2 65 x6.toNatClampNeg ((u0.2.1 65 (x6 &&& (x6 - (1 : Int32))).toNatClampNeg) + (u0.2.1 64 u0.1.toNatClampNeg))).1 65 x6.toNatClampNeg) < x5 then ((cV sO (d + 2) 119 [.ref 63, .int x6] (sI u0.2 65 x6.toNatClampNeg ((u0.2.1 65 (x6 &&& (x6 - (1 : Int32))).toNatClampNeg) + (u0.2.1 64 u0.1.toNatClampNeg)))).bind fun u1 => ev sO (d + 3) 116 114 [.ref 63, w1, w2, w3, .int x4, .int x5, .int (x6 + (1 : Int32)), .int u0.1] [] u1) else (ev sO (d + 3) 116 114 [.ref 63, w1, w2, w3, .int x4, .int x5, .int (x6 + (1 : Int32)), .int u0.1] [] (sI u0.2 65 x6.toNatClampNeg ((u0.2.1 65 (x6 &&& (x6 - (1 : Int32))).toNatClampNeg) + (u0.2.1 64 u0.1.toNatClampNeg))))))))) else (ev sO (d + 3) 116 114 [.ref 63, w1, w2, w3, .int x4, .int x5, .int (x6 + (1 : Int32)), w7] [] σ)) else (some (none, σ)) := by
  refine (E_il c_116_114 rfl).trans ?_
  refine (E_ic (v := (2048 : Int32)) c_116_116 (by decide)).trans ?_
  refine (E_br_ge (q := 190) c_116_119 rfl).trans (ax_ite ?_ ?_)
  · refine (E_il c_116_122 rfl).trans ?_
    refine (E_il c_116_124 rfl).trans ?_
    refine (E_ic (v := (-1 : Int32)) c_116_126 (by decide)).trans ?_
    refine (E_ixor c_116_127).trans ?_
    refine (E_iand c_116_128).trans ?_
    refine (E_b0_ne (q := 184) c_116_129 rfl).trans (ax_ite ?_ ?_)
    · refine (E_il c_116_132 rfl).trans ?_
      refine (E_cIS c_116_134 mi_118 rfl rfl (Nat.le_of_ble_eq_true rfl) (Nat.le_of_ble_eq_true rfl)).trans (ax_bnd fun u0 => ?_)
      refine (E_is (L' := [.ref 63, w1, w2, w3, .int x4, .int x5, .int x6, .int u0.1]) c_116_137 (Nat.le_of_ble_eq_true rfl) rfl).trans ?_
      refine (E_al c_116_139 rfl (by decide)).trans ?_
      refine (E_gfr (k := 1) (r := 65) c_116_140 sh_63 rfl rfl rfl).trans ?_
      refine (E_il c_116_143 rfl).trans ?_
      refine (E_al c_116_145 rfl (by decide)).trans ?_
      refine (E_gfr (k := 1) (r := 65) c_116_146 sh_63 rfl rfl rfl).trans ?_
      refine (E_il c_116_149 rfl).trans ?_
      refine (E_il c_116_151 rfl).trans ?_
      refine (E_ic (v := (1 : Int32)) c_116_153 (by decide)).trans ?_
      refine (E_isub c_116_154).trans ?_
      refine (E_iand c_116_155).trans ?_
      refine (E_ial c_116_156 sh_65).trans (ax_gd ?_)
      refine (E_al c_116_157 rfl (by decide)).trans ?_
      refine (E_gfr (k := 0) (r := 64) c_116_158 sh_63 rfl rfl rfl).trans ?_
      refine (E_il c_116_161 rfl).trans ?_
      refine (E_ial c_116_163 sh_64).trans (ax_gd ?_)
      refine (E_iadd c_116_164).trans ?_
      refine (E_ias (v := ((u0.2.1 65 (x6 &&& (x6 - (1 : Int32))).toNatClampNeg) + (u0.2.1 64 u0.1.toNatClampNeg))) c_116_165 sh_65 rfl).trans (ax_gd ?_)
      refine (E_al c_116_166 rfl (by decide)).trans ?_
      refine (E_gfr (k := 1) (r := 65) c_116_167 sh_63 rfl rfl rfl).trans ?_
      refine (E_il c_116_170 rfl).trans ?_
      refine (E_ial c_116_172 sh_65).trans (ax_gd ?_)
      refine (E_il c_116_173 rfl).trans ?_
      refine (E_br_ge (q := 184) c_116_175 rfl).trans (ax_ite ?_ ?_)
      · refine (E_al c_116_178 rfl (by decide)).trans ?_
        refine (E_il c_116_179 rfl).trans ?_
        refine (E_cVV c_116_181 mi_119 rfl (sO_kl sh_63) (Nat.le_of_ble_eq_true rfl) (Nat.le_of_ble_eq_true rfl)).trans (ax_bnd fun u1 => ?_)
        refine (E_inc (v := (1 : Int32)) (L' := [.ref 63, w1, w2, w3, .int x4, .int x5, .int (x6 + (1 : Int32)), .int u0.1]) c_116_184 rfl (by decide) rfl).trans ?_
        refine (E_goto (q := 114) c_116_187 rfl).trans ?_
        rfl
      · refine (E_inc (v := (1 : Int32)) (L' := [.ref 63, w1, w2, w3, .int x4, .int x5, .int (x6 + (1 : Int32)), .int u0.1]) c_116_184 rfl (by decide) rfl).trans ?_
        refine (E_goto (q := 114) c_116_187 rfl).trans ?_
        rfl
    · refine (E_inc (v := (1 : Int32)) (L' := [.ref 63, w1, w2, w3, .int x4, .int x5, .int (x6 + (1 : Int32)), w7]) c_116_184 rfl (by decide) rfl).trans ?_
      refine (E_goto (q := 114) c_116_187 rfl).trans ?_
      rfl
  · exact E_rV c_116_190 mi_116
set_option maxHeartbeats 4000000 in
theorem u_121_63 (d : Nat) (σ : ax_S) : ev sO d 121 0 [.ref 63] [] σ = some (some (.int (σ.1 63 4)), σ) := by
  refine (E_al c_121_0 rfl (by decide)).trans ?_
  refine (E_gfi (k := 4) c_121_1 sh_63 rfl rfl rfl (by decide)).trans ?_
  exact E_rI c_121_4 mi_121
set_option maxHeartbeats 4000000 in
theorem u_122_63 (d : Nat) (σ : ax_S) : ev sO d 122 0 [.ref 63] [] σ = some (some (.int (σ.1 63 2)), σ) := by
  refine (E_al c_122_0 rfl (by decide)).trans ?_
  refine (E_gfi (k := 2) c_122_1 sh_63 rfl rfl rfl (by decide)).trans ?_
  exact E_rI c_122_4 mi_122
set_option maxHeartbeats 4000000 in
theorem u_120 (d : Nat) (σ : ax_S) (x0 : Int32) : ev sO d 120 0 [.int x0] [] σ = some (some (.int ((((((((x0 - (((x0.toUInt32 >>> ((1 : Int32).toUInt32 &&& Int32.toUInt32 31)).toInt32) &&& (1431655765 : Int32))) &&& (858993459 : Int32)) + ((((x0 - (((x0.toUInt32 >>> ((1 : Int32).toUInt32 &&& Int32.toUInt32 31)).toInt32) &&& (1431655765 : Int32))).toUInt32 >>> ((2 : Int32).toUInt32 &&& Int32.toUInt32 31)).toInt32) &&& (858993459 : Int32))) + (((((x0 - (((x0.toUInt32 >>> ((1 : Int32).toUInt32 &&& Int32.toUInt32 31)).toInt32) &&& (1431655765 : Int32))) &&& (858993459 : Int32)) + ((((x0 - (((x0.toUInt32 >>> ((1 : Int32).toUInt32 &&& Int32.toUInt32 31)).toInt32) &&& (1431655765 : Int32))).toUInt32 >>> ((2 : Int32).toUInt32 &&& Int32.toUInt32 31)).toInt32) &&& (858993459 : Int32))).toUInt32 >>> ((4 : Int32).toUInt32 &&& Int32.toUInt32 31)).toInt32)) &&& (252645135 : Int32)) + (((((((x0 - (((x0.toUInt32 >>> ((1 : Int32).toUInt32 &&& Int32.toUInt32 31)).toInt32) &&& (1431655765 : Int32))) &&& (858993459 : Int32)) + ((((x0 - (((x0.toUInt32 >>> ((1 : Int32).toUInt32 &&& Int32.toUInt32 31)).toInt32) &&& (1431655765 : Int32))).toUInt32 >>> ((2 : Int32).toUInt32 &&& Int32.toUInt32 31)).toInt32) &&& (858993459 : Int32))) + (((((x0 - (((x0.toUInt32 >>> ((1 : Int32).toUInt32 &&& Int32.toUInt32 31)).toInt32) &&& (1431655765 : Int32))) &&& (858993459 : Int32)) + ((((x0 - (((x0.toUInt32 >>> ((1 : Int32).toUInt32 &&& Int32.toUInt32 31)).toInt32) &&& (1431655765 : Int32))).toUInt32 >>> ((2 : Int32).toUInt32 &&& Int32.toUInt32 31)).toInt32) &&& (858993459 : Int32))).toUInt32 >>> ((4 : Int32).toUInt32 &&& Int32.toUInt32 31)).toInt32)) &&& (252645135 : Int32)).toUInt32 >>> ((8 : Int32).toUInt32 &&& Int32.toUInt32 31)).toInt32)) + ((((((((x0 - (((x0.toUInt32 >>> ((1 : Int32).toUInt32 &&& Int32.toUInt32 31)).toInt32) &&& (1431655765 : Int32))) &&& (858993459 : Int32)) + ((((x0 - (((x0.toUInt32 >>> ((1 : Int32).toUInt32 &&& Int32.toUInt32 31)).toInt32) &&& (1431655765 : Int32))).toUInt32 >>> ((2 : Int32).toUInt32 &&& Int32.toUInt32 31)).toInt32) &&& (858993459 : Int32))) + (((((x0 - (((x0.toUInt32 >>> ((1 : Int32).toUInt32 &&& Int32.toUInt32 31)).toInt32) &&& (1431655765 : Int32))) &&& (858993459 : Int32)) + ((((x0 - (((x0.toUInt32 >>> ((1 : Int32).toUInt32 &&& Int32.toUInt32 31)).toInt32) &&& (1431655765 : Int32))).toUInt32 >>> ((2 : Int32).toUInt32 &&& Int32.toUInt32 31)).toInt32) &&& (858993459 : Int32))).toUInt32 >>> ((4 : Int32).toUInt32 &&& Int32.toUInt32 31)).toInt32)) &&& (252645135 : Int32)) + (((((((x0 - (((x0.toUInt32 >>> ((1 : Int32).toUInt32 &&& Int32.toUInt32 31)).toInt32) &&& (1431655765 : Int32))) &&& (858993459 : Int32)) + ((((x0 - (((x0.toUInt32 >>> ((1 : Int32).toUInt32 &&& Int32.toUInt32 31)).toInt32) &&& (1431655765 : Int32))).toUInt32 >>> ((2 : Int32).toUInt32 &&& Int32.toUInt32 31)).toInt32) &&& (858993459 : Int32))) + (((((x0 - (((x0.toUInt32 >>> ((1 : Int32).toUInt32 &&& Int32.toUInt32 31)).toInt32) &&& (1431655765 : Int32))) &&& (858993459 : Int32)) + ((((x0 - (((x0.toUInt32 >>> ((1 : Int32).toUInt32 &&& Int32.toUInt32 31)).toInt32) &&& (1431655765 : Int32))).toUInt32 >>> ((2 : Int32).toUInt32 &&& Int32.toUInt32 31)).toInt32) &&& (858993459 : Int32))).toUInt32 >>> ((4 : Int32).toUInt32 &&& Int32.toUInt32 31)).toInt32)) &&& (252645135 : Int32)).toUInt32 >>> ((8 : Int32).toUInt32 &&& Int32.toUInt32 31)).toInt32)).toUInt32 >>> ((16 : Int32).toUInt32 &&& Int32.toUInt32 31)).toInt32)) &&& (63 : Int32))), σ) := by
  refine (E_il c_120_0 rfl).trans ?_
  refine (E_il c_120_1 rfl).trans ?_
  refine (E_ic (v := (1 : Int32)) c_120_2 (by decide)).trans ?_
  refine (E_iushr c_120_3).trans ?_
  refine (E_ic (v := (1431655765 : Int32)) c_120_4 (by decide)).trans ?_
  refine (E_iand c_120_7).trans ?_
  refine (E_isub c_120_8).trans ?_
  refine (E_is (L' := [.int (x0 - (((x0.toUInt32 >>> ((1 : Int32).toUInt32 &&& Int32.toUInt32 31)).toInt32) &&& (1431655765 : Int32)))]) c_120_9 (Nat.le_of_ble_eq_true rfl) rfl).trans ?_
  refine (E_il c_120_10 rfl).trans ?_
  refine (E_ic (v := (858993459 : Int32)) c_120_11 (by decide)).trans ?_
  refine (E_iand c_120_14).trans ?_
  refine (E_il c_120_15 rfl).trans ?_
  refine (E_ic (v := (2 : Int32)) c_120_16 (by decide)).trans ?_
  refine (E_iushr c_120_17).trans ?_
  refine (E_ic (v := (858993459 : Int32)) c_120_18 (by decide)).trans ?_
  refine (E_iand c_120_21).trans ?_
  refine (E_iadd c_120_22).trans ?_
  refine (E_is (L' := [.int (((x0 - (((x0.toUInt32 >>> ((1 : Int32).toUInt32 &&& Int32.toUInt32 31)).toInt32) &&& (1431655765 : Int32))) &&& (858993459 : Int32)) + ((((x0 - (((x0.toUInt32 >>> ((1 : Int32).toUInt32 &&& Int32.toUInt32 31)).toInt32) &&& (1431655765 : Int32))).toUInt32 >>> ((2 : Int32).toUInt32 &&& Int32.toUInt32 31)).toInt32) &&& (858993459 : Int32)))]) c_120_23 (Nat.le_of_ble_eq_true rfl) rfl).trans ?_
  refine (E_il c_120_24 rfl).trans ?_
  refine (E_il c_120_25 rfl).trans ?_
  refine (E_ic (v := (4 : Int32)) c_120_26 (by decide)).trans ?_
  refine (E_iushr c_120_27).trans ?_
  refine (E_iadd c_120_28).trans ?_
  refine (E_ic (v := (252645135 : Int32)) c_120_29 (by decide)).trans ?_
  refine (E_iand c_120_32).trans ?_
  refine (E_is (L' := [.int (((((x0 - (((x0.toUInt32 >>> ((1 : Int32).toUInt32 &&& Int32.toUInt32 31)).toInt32) &&& (1431655765 : Int32))) &&& (858993459 : Int32)) + ((((x0 - (((x0.toUInt32 >>> ((1 : Int32).toUInt32 &&& Int32.toUInt32 31)).toInt32) &&& (1431655765 : Int32))).toUInt32 >>> ((2 : Int32).toUInt32 &&& Int32.toUInt32 31)).toInt32) &&& (858993459 : Int32))) + (((((x0 - (((x0.toUInt32 >>> ((1 : Int32).toUInt32 &&& Int32.toUInt32 31)).toInt32) &&& (1431655765 : Int32))) &&& (858993459 : Int32)) + ((((x0 - (((x0.toUInt32 >>> ((1 : Int32).toUInt32 &&& Int32.toUInt32 31)).toInt32) &&& (1431655765 : Int32))).toUInt32 >>> ((2 : Int32).toUInt32 &&& Int32.toUInt32 31)).toInt32) &&& (858993459 : Int32))).toUInt32 >>> ((4 : Int32).toUInt32 &&& Int32.toUInt32 31)).toInt32)) &&& (252645135 : Int32))]) c_120_33 (Nat.le_of_ble_eq_true rfl) rfl).trans ?_
  refine (E_il c_120_34 rfl).trans ?_
  refine (E_il c_120_35 rfl).trans ?_
  refine (E_ic (v := (8 : Int32)) c_120_36 (by decide)).trans ?_
  refine (E_iushr c_120_38).trans ?_
  refine (E_iadd c_120_39).trans ?_
  refine (E_is (L' := [.int ((((((x0 - (((x0.toUInt32 >>> ((1 : Int32).toUInt32 &&& Int32.toUInt32 31)).toInt32) &&& (1431655765 : Int32))) &&& (858993459 : Int32)) + ((((x0 - (((x0.toUInt32 >>> ((1 : Int32).toUInt32 &&& Int32.toUInt32 31)).toInt32) &&& (1431655765 : Int32))).toUInt32 >>> ((2 : Int32).toUInt32 &&& Int32.toUInt32 31)).toInt32) &&& (858993459 : Int32))) + (((((x0 - (((x0.toUInt32 >>> ((1 : Int32).toUInt32 &&& Int32.toUInt32 31)).toInt32) &&& (1431655765 : Int32))) &&& (858993459 : Int32)) + ((((x0 - (((x0.toUInt32 >>> ((1 : Int32).toUInt32 &&& Int32.toUInt32 31)).toInt32) &&& (1431655765 : Int32))).toUInt32 >>> ((2 : Int32).toUInt32 &&& Int32.toUInt32 31)).toInt32) &&& (858993459 : Int32))).toUInt32 >>> ((4 : Int32).toUInt32 &&& Int32.toUInt32 31)).toInt32)) &&& (252645135 : Int32)) + (((((((x0 - (((x0.toUInt32 >>> ((1 : Int32).toUInt32 &&& Int32.toUInt32 31)).toInt32) &&& (1431655765 : Int32))) &&& (858993459 : Int32)) + ((((x0 - (((x0.toUInt32 >>> ((1 : Int32).toUInt32 &&& Int32.toUInt32 31)).toInt32) &&& (1431655765 : Int32))).toUInt32 >>> ((2 : Int32).toUInt32 &&& Int32.toUInt32 31)).toInt32) &&& (858993459 : Int32))) + (((((x0 - (((x0.toUInt32 >>> ((1 : Int32).toUInt32 &&& Int32.toUInt32 31)).toInt32) &&& (1431655765 : Int32))) &&& (858993459 : Int32)) + ((((x0 - (((x0.toUInt32 >>> ((1 : Int32).toUInt32 &&& Int32.toUInt32 31)).toInt32) &&& (1431655765 : Int32))).toUInt32 >>> ((2 : Int32).toUInt32 &&& Int32.toUInt32 31)).toInt32) &&& (858993459 : Int32))).toUInt32 >>> ((4 : Int32).toUInt32 &&& Int32.toUInt32 31)).toInt32)) &&& (252645135 : Int32)).toUInt32 >>> ((8 : Int32).toUInt32 &&& Int32.toUInt32 31)).toInt32))]) c_120_40 (Nat.le_of_ble_eq_true rfl) rfl).trans ?_
  refine (E_il c_120_41 rfl).trans ?_
  refine (E_il c_120_42 rfl).trans ?_
  refine (E_ic (v := (16 : Int32)) c_120_43 (by decide)).trans ?_
  refine (E_iushr c_120_45).trans ?_
  refine (E_iadd c_120_46).trans ?_
  refine (E_is (L' := [.int (((((((x0 - (((x0.toUInt32 >>> ((1 : Int32).toUInt32 &&& Int32.toUInt32 31)).toInt32) &&& (1431655765 : Int32))) &&& (858993459 : Int32)) + ((((x0 - (((x0.toUInt32 >>> ((1 : Int32).toUInt32 &&& Int32.toUInt32 31)).toInt32) &&& (1431655765 : Int32))).toUInt32 >>> ((2 : Int32).toUInt32 &&& Int32.toUInt32 31)).toInt32) &&& (858993459 : Int32))) + (((((x0 - (((x0.toUInt32 >>> ((1 : Int32).toUInt32 &&& Int32.toUInt32 31)).toInt32) &&& (1431655765 : Int32))) &&& (858993459 : Int32)) + ((((x0 - (((x0.toUInt32 >>> ((1 : Int32).toUInt32 &&& Int32.toUInt32 31)).toInt32) &&& (1431655765 : Int32))).toUInt32 >>> ((2 : Int32).toUInt32 &&& Int32.toUInt32 31)).toInt32) &&& (858993459 : Int32))).toUInt32 >>> ((4 : Int32).toUInt32 &&& Int32.toUInt32 31)).toInt32)) &&& (252645135 : Int32)) + (((((((x0 - (((x0.toUInt32 >>> ((1 : Int32).toUInt32 &&& Int32.toUInt32 31)).toInt32) &&& (1431655765 : Int32))) &&& (858993459 : Int32)) + ((((x0 - (((x0.toUInt32 >>> ((1 : Int32).toUInt32 &&& Int32.toUInt32 31)).toInt32) &&& (1431655765 : Int32))).toUInt32 >>> ((2 : Int32).toUInt32 &&& Int32.toUInt32 31)).toInt32) &&& (858993459 : Int32))) + (((((x0 - (((x0.toUInt32 >>> ((1 : Int32).toUInt32 &&& Int32.toUInt32 31)).toInt32) &&& (1431655765 : Int32))) &&& (858993459 : Int32)) + ((((x0 - (((x0.toUInt32 >>> ((1 : Int32).toUInt32 &&& Int32.toUInt32 31)).toInt32) &&& (1431655765 : Int32))).toUInt32 >>> ((2 : Int32).toUInt32 &&& Int32.toUInt32 31)).toInt32) &&& (858993459 : Int32))).toUInt32 >>> ((4 : Int32).toUInt32 &&& Int32.toUInt32 31)).toInt32)) &&& (252645135 : Int32)).toUInt32 >>> ((8 : Int32).toUInt32 &&& Int32.toUInt32 31)).toInt32)) + ((((((((x0 - (((x0.toUInt32 >>> ((1 : Int32).toUInt32 &&& Int32.toUInt32 31)).toInt32) &&& (1431655765 : Int32))) &&& (858993459 : Int32)) + ((((x0 - (((x0.toUInt32 >>> ((1 : Int32).toUInt32 &&& Int32.toUInt32 31)).toInt32) &&& (1431655765 : Int32))).toUInt32 >>> ((2 : Int32).toUInt32 &&& Int32.toUInt32 31)).toInt32) &&& (858993459 : Int32))) + (((((x0 - (((x0.toUInt32 >>> ((1 : Int32).toUInt32 &&& Int32.toUInt32 31)).toInt32) &&& (1431655765 : Int32))) &&& (858993459 : Int32)) + ((((x0 - (((x0.toUInt32 >>> ((1 : Int32).toUInt32 &&& Int32.toUInt32 31)).toInt32) &&& (1431655765 : Int32))).toUInt32 >>> ((2 : Int32).toUInt32 &&& Int32.toUInt32 31)).toInt32) &&& (858993459 : Int32))).toUInt32 >>> ((4 : Int32).toUInt32 &&& Int32.toUInt32 31)).toInt32)) &&& (252645135 : Int32)) + (((((((x0 - (((x0.toUInt32 >>> ((1 : Int32).toUInt32 &&& Int32.toUInt32 31)).toInt32) &&& (1431655765 : Int32))) &&& (858993459 : Int32)) + ((((x0 - (((x0.toUInt32 >>> ((1 : Int32).toUInt32 &&& Int32.toUInt32 31)).toInt32) &&& (1431655765 : Int32))).toUInt32 >>> ((2 : Int32).toUInt32 &&& Int32.toUInt32 31)).toInt32) &&& (858993459 : Int32))) + (((((x0 - (((x0.toUInt32 >>> ((1 : Int32).toUInt32 &&& Int32.toUInt32 31)).toInt32) &&& (1431655765 : Int32))) &&& (858993459 : Int32)) + ((((x0 - (((x0.toUInt32 >>> ((1 : Int32).toUInt32 &&& Int32.toUInt32 31)).toInt32) &&& (1431655765 : Int32))).toUInt32 >>> ((2 : Int32).toUInt32 &&& Int32.toUInt32 31)).toInt32) &&& (858993459 : Int32))).toUInt32 >>> ((4 : Int32).toUInt32 &&& Int32.toUInt32 31)).toInt32)) &&& (252645135 : Int32)).toUInt32 >>> ((8 : Int32).toUInt32 &&& Int32.toUInt32 31)).toInt32)).toUInt32 >>> ((16 : Int32).toUInt32 &&& Int32.toUInt32 31)).toInt32))]) c_120_47 (Nat.le_of_ble_eq_true rfl) rfl).trans ?_
  refine (E_il c_120_48 rfl).trans ?_
  refine (E_ic (v := (63 : Int32)) c_120_49 (by decide)).trans ?_
  refine (E_iand c_120_51).trans ?_
  exact E_rI c_120_52 mi_120
set_option maxHeartbeats 4000000 in
theorem u_245_82 (d : Nat) (σ : ax_S) (x1 : Int32) (x2 : Int32) (x3 : Int32) : ev sO (d + 2) 245 0 [.ref 82, .int x1, .int x2, .int x3] [] σ = (cI sO (d + 1) 234 [.ref 82, .int x1, .int x3] σ).bind fun u0 => if u0.1 = 0 then (some (some (.int (0 : Int32)), u0.2)) else ((cI sO (d + 1) 234 [.ref 82, .int x2, .int x3] u0.2).bind fun u1 => if u1.1 = 0 then (some (some (.int (0 : Int32)), u1.2)) else ((cI sO (d + 1) 235 [.ref 82, .int x1, .int x3] u1.2).bind fun u2 => (cI sO (d + 1) 235 [.ref 82, .int x2, .int x3] u2.2).bind fun u3 => if u2.1 = u3.1 then (some (some (.int (0 : Int32)), u3.2)) else (some (some (.int (1 : Int32)), u3.2)))) := by
  refine (E_al c_245_0 rfl (by decide)).trans ?_
  refine (E_il c_245_1 rfl).trans ?_
  refine (E_il c_245_2 rfl).trans ?_
  refine (E_cIV c_245_3 mi_234 rfl rfl (sO_kl sh_82) (Nat.le_of_ble_eq_true rfl) (Nat.le_of_ble_eq_true rfl)).trans (ax_bnd fun u0 => ?_)
  refine (E_b0_eq (q := 37) c_245_6 rfl).trans (ax_ite ?_ ?_)
  · refine (E_ic (v := (0 : Int32)) c_245_37 (by decide)).trans ?_
    exact E_rZ (v := (0 : Int32)) c_245_38 mi_245 (by decide)
  · refine (E_al c_245_9 rfl (by decide)).trans ?_
    refine (E_il c_245_10 rfl).trans ?_
    refine (E_il c_245_11 rfl).trans ?_
    refine (E_cIV c_245_12 mi_234 rfl rfl (sO_kl sh_82) (Nat.le_of_ble_eq_true rfl) (Nat.le_of_ble_eq_true rfl)).trans (ax_bnd fun u1 => ?_)
    refine (E_b0_eq (q := 37) c_245_15 rfl).trans (ax_ite ?_ ?_)
    · refine (E_ic (v := (0 : Int32)) c_245_37 (by decide)).trans ?_
      exact E_rZ (v := (0 : Int32)) c_245_38 mi_245 (by decide)
    · refine (E_al c_245_18 rfl (by decide)).trans ?_
      refine (E_il c_245_19 rfl).trans ?_
      refine (E_il c_245_20 rfl).trans ?_
      refine (E_cIV c_245_21 mi_235 rfl rfl (sO_kl sh_82) (Nat.le_of_ble_eq_true rfl) (Nat.le_of_ble_eq_true rfl)).trans (ax_bnd fun u2 => ?_)
      refine (E_al c_245_24 rfl (by decide)).trans ?_
      refine (E_il c_245_25 rfl).trans ?_
      refine (E_il c_245_26 rfl).trans ?_
      refine (E_cIV c_245_27 mi_235 rfl rfl (sO_kl sh_82) (Nat.le_of_ble_eq_true rfl) (Nat.le_of_ble_eq_true rfl)).trans (ax_bnd fun u3 => ?_)
      refine (E_br_eq (q := 37) c_245_30 rfl).trans (ax_ite ?_ ?_)
      · refine (E_ic (v := (0 : Int32)) c_245_37 (by decide)).trans ?_
        exact E_rZ (v := (0 : Int32)) c_245_38 mi_245 (by decide)
      · refine (E_ic (v := (1 : Int32)) c_245_33 (by decide)).trans ?_
        refine (E_goto (q := 38) c_245_34 rfl).trans ?_
        exact E_rZ (v := (1 : Int32)) c_245_38 mi_245 (by decide)
set_option maxHeartbeats 4000000 in
theorem u_124_17 (d : Nat) (σ : ax_S) : ev sO d 124 0 [.ref 17] [] σ = some (some (.int (σ.1 17 0)), σ) := by
  refine (E_al c_124_0 rfl (by decide)).trans ?_
  refine (E_gfi (k := 0) c_124_1 sh_17 rfl rfl rfl (by decide)).trans ?_
  exact E_rI c_124_4 mi_124
set_option maxHeartbeats 4000000 in
theorem u_125_17 (d : Nat) (σ : ax_S) : ev sO (d + 5) 125 0 [.ref 17, .null, .null, .null] [] σ = ev sO (d + 5) 125 4 [.ref 17, .int (0 : Int32), .int (0 : Int32), .null] [] σ := by
  refine (E_ic (v := (0 : Int32)) c_125_0 (by decide)).trans ?_
  refine (E_is (L' := [.ref 17, .int (0 : Int32), .null, .null]) c_125_1 (Nat.le_of_ble_eq_true rfl) rfl).trans ?_
  refine (E_ic (v := (0 : Int32)) c_125_2 (by decide)).trans ?_
  refine (E_is (L' := [.ref 17, .int (0 : Int32), .int (0 : Int32), .null]) c_125_3 (Nat.le_of_ble_eq_true rfl) rfl).trans ?_
  rfl
set_option maxHeartbeats 4000000 in
theorem u_125_17p4 (d : Nat) (σ : ax_S) (x1 : Int32) (x2 : Int32) (w3 : Value) (hw3 : w3.category = 1) : ev sO (d + 5) 125 4 [.ref 17, .int x1, .int x2, w3] [] σ = if x2 < (σ.1 17 0) then ((cI sO (d + 4) 126 [.ref 17, .int x2] σ).bind fun u0 => if u0.1 = (-1000000 : Int32) then (ev sO (d + 5) 125 4 [.ref 17, .int x1, .int (x2 + (1 : Int32)), .int u0.1] [] u0.2) else ((cI sO (d + 4) 108 [.ref 17, .int u0.1, .int x2] u0.2).bind fun u1 => ev sO (d + 5) 125 4 [.ref 17, .int (x1 + u1.1), .int (x2 + (1 : Int32)), .int u0.1] [] u1.2)) else (some (some (.int x1), σ)) := by
  refine (E_il c_125_4 rfl).trans ?_
  refine (E_al c_125_5 rfl (by decide)).trans ?_
  refine (E_gfi (k := 0) c_125_6 sh_17 rfl rfl rfl (by decide)).trans ?_
  refine (E_br_ge (q := 39) c_125_9 rfl).trans (ax_ite ?_ ?_)
  · refine (E_al c_125_12 rfl (by decide)).trans ?_
    refine (E_il c_125_13 rfl).trans ?_
    refine (E_cIV c_125_14 mi_126 rfl rfl (sO_kl sh_17) (Nat.le_of_ble_eq_true rfl) (Nat.le_of_ble_eq_true rfl)).trans (ax_bnd fun u0 => ?_)
    refine (E_is (L' := [.ref 17, .int x1, .int x2, .int u0.1]) c_125_17 (Nat.le_of_ble_eq_true rfl) rfl).trans ?_
    refine (E_il c_125_18 rfl).trans ?_
    refine (E_ic (v := (-1000000 : Int32)) c_125_19 (by decide)).trans ?_
    refine (E_br_eq (q := 33) c_125_21 rfl).trans (ax_ite ?_ ?_)
    · refine (E_inc (v := (1 : Int32)) (L' := [.ref 17, .int x1, .int (x2 + (1 : Int32)), .int u0.1]) c_125_33 rfl (by decide) rfl).trans ?_
      refine (E_goto (q := 4) c_125_36 rfl).trans ?_
      rfl
    · refine (E_il c_125_24 rfl).trans ?_
      refine (E_al c_125_25 rfl (by decide)).trans ?_
      refine (E_il c_125_26 rfl).trans ?_
      refine (E_il c_125_27 rfl).trans ?_
      refine (E_cIV c_125_28 mi_108 rfl rfl (sO_kl sh_17) (Nat.le_of_ble_eq_true rfl) (Nat.le_of_ble_eq_true rfl)).trans (ax_bnd fun u1 => ?_)
      refine (E_iadd c_125_31).trans ?_
      refine (E_is (L' := [.ref 17, .int (x1 + u1.1), .int x2, .int u0.1]) c_125_32 (Nat.le_of_ble_eq_true rfl) rfl).trans ?_
      refine (E_inc (v := (1 : Int32)) (L' := [.ref 17, .int (x1 + u1.1), .int (x2 + (1 : Int32)), .int u0.1]) c_125_33 rfl (by decide) rfl).trans ?_
      refine (E_goto (q := 4) c_125_36 rfl).trans ?_
      rfl
  · refine (E_il c_125_39 rfl).trans ?_
    exact E_rI c_125_40 mi_125
set_option maxHeartbeats 4000000 in
theorem u_128_17 (d : Nat) (σ : ax_S) : ev sO (d + 5) 128 0 [.ref 17, .null, .null, .null, .null] [] σ = ev sO (d + 5) 128 4 [.ref 17, .long (1 : Int64), .null, .int (0 : Int32), .null] [] σ := by
  refine (E_lc (v := (1 : Int64)) c_128_0 (by decide)).trans ?_
  refine (E_lss (L' := [.ref 17, .long (1 : Int64), .null, .null, .null]) c_128_1 (Nat.le_of_ble_eq_true rfl) rfl).trans ?_
  refine (E_ic (v := (0 : Int32)) c_128_2 (by decide)).trans ?_
  refine (E_is (L' := [.ref 17, .long (1 : Int64), .null, .int (0 : Int32), .null]) c_128_3 (Nat.le_of_ble_eq_true rfl) rfl).trans ?_
  rfl
set_option maxHeartbeats 4000000 in
theorem u_128_17p4 (d : Nat) (σ : ax_S) (x1 : Int64) (x3 : Int32) (w4 : Value) (hw4 : w4.category = 1) : ev sO (d + 5) 128 4 [.ref 17, .long x1, .null, .int x3, w4] [] σ = if x3 < (σ.1 17 0) then ((cI sO (d + 4) 126 [.ref 17, .int x3] σ).bind fun u0 => if u0.1 = (-1000000 : Int32) then (ev sO (d + 5) 128 4 [.ref 17, .long x1, .null, .int (x3 + (1 : Int32)), .int u0.1] [] u0.2) else ((cI sO (d + 4) 108 [.ref 17, .int u0.1, .int x3] u0.2).bind fun u1 => (cI sO (d + 4) 129 [.ref 17, .int x3, .int u1.1] u1.2).bind fun u2 => ev sO (d + 5) 128 4 [.ref 17, .long (x1 * u2.1.toInt64), .null, .int (x3 + (1 : Int32)), .int u0.1] [] u2.2)) else (some (some (.long x1), σ)) := by
  refine (E_il c_128_4 rfl).trans ?_
  refine (E_al c_128_5 rfl (by decide)).trans ?_
  refine (E_gfi (k := 0) c_128_6 sh_17 rfl rfl rfl (by decide)).trans ?_
  refine (E_br_ge (q := 48) c_128_9 rfl).trans (ax_ite ?_ ?_)
  · refine (E_al c_128_12 rfl (by decide)).trans ?_
    refine (E_il c_128_13 rfl).trans ?_
    refine (E_cIV c_128_14 mi_126 rfl rfl (sO_kl sh_17) (Nat.le_of_ble_eq_true rfl) (Nat.le_of_ble_eq_true rfl)).trans (ax_bnd fun u0 => ?_)
    refine (E_is (L' := [.ref 17, .long x1, .null, .int x3, .int u0.1]) c_128_17 (Nat.le_of_ble_eq_true rfl) rfl).trans ?_
    refine (E_il c_128_19 rfl).trans ?_
    refine (E_ic (v := (-1000000 : Int32)) c_128_21 (by decide)).trans ?_
    refine (E_br_eq (q := 42) c_128_23 rfl).trans (ax_ite ?_ ?_)
    · refine (E_inc (v := (1 : Int32)) (L' := [.ref 17, .long x1, .null, .int (x3 + (1 : Int32)), .int u0.1]) c_128_42 rfl (by decide) rfl).trans ?_
      refine (E_goto (q := 4) c_128_45 rfl).trans ?_
      rfl
    · refine (E_ll c_128_26 rfl).trans ?_
      refine (E_al c_128_27 rfl (by decide)).trans ?_
      refine (E_il c_128_28 rfl).trans ?_
      refine (E_al c_128_29 rfl (by decide)).trans ?_
      refine (E_il c_128_30 rfl).trans ?_
      refine (E_il c_128_32 rfl).trans ?_
      refine (E_cIV c_128_33 mi_108 rfl rfl (sO_kl sh_17) (Nat.le_of_ble_eq_true rfl) (Nat.le_of_ble_eq_true rfl)).trans (ax_bnd fun u1 => ?_)
      refine (E_cIV c_128_36 mi_129 rfl rfl (sO_kl sh_17) (Nat.le_of_ble_eq_true rfl) (Nat.le_of_ble_eq_true rfl)).trans (ax_bnd fun u2 => ?_)
      refine (E_i2l c_128_39).trans ?_
      refine (E_lmul c_128_40).trans ?_
      refine (E_lss (L' := [.ref 17, .long (x1 * u2.1.toInt64), .null, .int x3, .int u0.1]) c_128_41 (Nat.le_of_ble_eq_true rfl) rfl).trans ?_
      refine (E_inc (v := (1 : Int32)) (L' := [.ref 17, .long (x1 * u2.1.toInt64), .null, .int (x3 + (1 : Int32)), .int u0.1]) c_128_42 rfl (by decide) rfl).trans ?_
      refine (E_goto (q := 4) c_128_45 rfl).trans ?_
      rfl
  · refine (E_ll c_128_48 rfl).trans ?_
    exact E_rL c_128_49 mi_128
set_option maxHeartbeats 4000000 in
theorem u_252_82 (d : Nat) (σ : ax_S) (x1 : Int32) : ev sO (d + 4) 252 0 [.ref 82, .int x1, .null, .null, .null] [] σ = ev sO (d + 4) 252 18 [.ref 82, .int x1, .int (0 : Int32), .null, .null] [] (sI (sI (sI σ 82 21 (0 : Int32)) 82 22 (0 : Int32)) 82 23 (-1000000 : Int32)) := by
  refine (E_al c_252_0 rfl (by decide)).trans ?_
  refine (E_ic (v := (0 : Int32)) c_252_1 (by decide)).trans ?_
  refine (E_pfi (k := 21) c_252_2 sh_82 rfl rfl rfl).trans ?_
  refine (E_al c_252_5 rfl (by decide)).trans ?_
  refine (E_ic (v := (0 : Int32)) c_252_6 (by decide)).trans ?_
  refine (E_pfi (k := 22) c_252_7 sh_82 rfl rfl rfl).trans ?_
  refine (E_al c_252_10 rfl (by decide)).trans ?_
  refine (E_ic (v := (-1000000 : Int32)) c_252_11 (by decide)).trans ?_
  refine (E_pfi (k := 23) c_252_13 sh_82 rfl rfl rfl).trans ?_
  refine (E_ic (v := (0 : Int32)) c_252_16 (by decide)).trans ?_
  refine (E_is (L' := [.ref 82, .int x1, .int (0 : Int32), .null, .null]) c_252_17 (Nat.le_of_ble_eq_true rfl) rfl).trans ?_
  rfl
set_option maxHeartbeats 4000000 in
theorem u_252_82p18 (d : Nat) (σ : ax_S) (x1 : Int32) (x2 : Int32) (w3 : Value) (hw3 : w3.category = 1) (w4 : Value) (hw4 : w4.category = 1) : ev sO (d + 4) 252 18 [.ref 82, .int x1, .int x2, w3, w4] [] σ = if x2 < (σ.1 88 0) then ((cI sO (d + 3) 253 [.ref 82, .int x2, .int x1] σ).bind fun u0 => if u0.1 = 0 then (ev sO (d + 4) 252 18 [.ref 82, .int x1, .int (x2 + (1 : Int32)), w3, w4] [] u0.2) else ((cI sO (d + 3) 244 [.ref 82, .int x2, .int x1] u0.2).bind fun u1 => if (u1.2.1 82 22) = 0 then (ev sO (d + 4) 252 18 [.ref 82, .int x1, .int (x2 + (1 : Int32)), .int u1.1, .int (1 : Int32)] [] (sI (sI (sI u1.2 82 22 (1 : Int32)) 82 23 x2) 82 21 u1.1)) else (if u1.1 < (u1.2.1 82 21) then (ev sO (d + 4) 252 18 [.ref 82, .int x1, .int (x2 + (1 : Int32)), .int u1.1, .int (1 : Int32)] [] (sI (sI (sI u1.2 82 22 (1 : Int32)) 82 23 x2) 82 21 u1.1)) else (if u1.1 = (u1.2.1 82 21) then (ax_lt (sI (sI (sI u1.2 82 22 ((u1.2.1 82 22) + (1 : Int32))) 82 23 ((sI u1.2 82 22 ((u1.2.1 82 22) + (1 : Int32))).1 82 23)) 82 21 ((sI (sI u1.2 82 22 ((u1.2.1 82 22) + (1 : Int32))) 82 23 ((sI u1.2 82 22 ((u1.2.1 82 22) + (1 : Int32))).1 82 23)).1 82 21)) fun s2 => ev sO (d + 4) 252 18 [.ref 82, .int x1, .int (x2 + (1 : Int32)), .int u1.1, .int (0 : Int32)] [] s2) else (ax_lt (sI (sI (sI u1.2 82 22 (u1.2.1 82 22)) 82 23 ((sI u1.2 82 22 (u1.2.1 82 22)).1 82 23)) 82 21 ((sI (sI u1.2 82 22 (u1.2.1 82 22)) 82 23 ((sI u1.2 82 22 (u1.2.1 82 22)).1 82 23)).1 82 21)) fun s3 => ev sO (d + 4) 252 18 [.ref 82, .int x1, .int (x2 + (1 : Int32)), .int u1.1, .int (0 : Int32)] [] s3))))) else (some (none, σ)) := by
  refine (E_il c_252_18 rfl).trans ?_
  refine (E_al c_252_19 rfl (by decide)).trans ?_
  refine (E_gfr (k := 8) (r := 88) c_252_20 sh_82 rfl rfl rfl).trans ?_
  refine (E_ic (v := (0 : Int32)) c_252_23 (by decide)).trans ?_
  refine (E_ialk (k := 0) c_252_24 sh_88 (by decide) (by decide)).trans ?_
  refine (E_br_ge (q := 140) c_252_25 rfl).trans (ax_ite ?_ ?_)
  · refine (E_al c_252_28 rfl (by decide)).trans ?_
    refine (E_il c_252_29 rfl).trans ?_
    refine (E_il c_252_30 rfl).trans ?_
    refine (E_cIV c_252_31 mi_253 rfl rfl (sO_kl sh_82) (Nat.le_of_ble_eq_true rfl) (Nat.le_of_ble_eq_true rfl)).trans (ax_bnd fun u0 => ?_)
    refine (E_b0_eq (q := 134) c_252_34 rfl).trans (ax_ite ?_ ?_)
    · refine (E_inc (v := (1 : Int32)) (L' := [.ref 82, .int x1, .int (x2 + (1 : Int32)), w3, w4]) c_252_134 rfl (by decide) rfl).trans ?_
      refine (E_goto (q := 18) c_252_137 rfl).trans ?_
      rfl
    · refine (E_al c_252_37 rfl (by decide)).trans ?_
      refine (E_il c_252_38 rfl).trans ?_
      refine (E_il c_252_39 rfl).trans ?_
      refine (E_cIV c_252_40 mi_244 rfl rfl (sO_kl sh_82) (Nat.le_of_ble_eq_true rfl) (Nat.le_of_ble_eq_true rfl)).trans (ax_bnd fun u1 => ?_)
      refine (E_is (L' := [.ref 82, .int x1, .int x2, .int u1.1, w4]) c_252_43 (Nat.le_of_ble_eq_true rfl) rfl).trans ?_
      refine (E_al c_252_44 rfl (by decide)).trans ?_
      refine (E_gfi (k := 22) c_252_45 sh_82 rfl rfl rfl (by decide)).trans ?_
      refine (E_b0_eq (q := 59) c_252_48 rfl).trans (ax_ite ?_ ?_)
      · refine (E_ic (v := (1 : Int32)) c_252_59 (by decide)).trans ?_
        refine (E_goto (q := 64) c_252_60 rfl).trans ?_
        refine (E_is (L' := [.ref 82, .int x1, .int x2, .int u1.1, .int (1 : Int32)]) c_252_64 (Nat.le_of_ble_eq_true rfl) rfl).trans ?_
        refine (E_al c_252_66 rfl (by decide)).trans ?_
        refine (E_il c_252_67 rfl).trans ?_
        refine (E_b0_eq (q := 76) c_252_69 rfl).trans ?_
        refine (if_neg (by decide)).trans ?_
        refine (E_ic (v := (1 : Int32)) c_252_72 (by decide)).trans ?_
        refine (E_goto (q := 97) c_252_73 rfl).trans ?_
        refine (E_pfi (k := 22) c_252_97 sh_82 rfl rfl rfl).trans ?_
        refine (E_al c_252_100 rfl (by decide)).trans ?_
        refine (E_il c_252_101 rfl).trans ?_
        refine (E_b0_eq (q := 110) c_252_103 rfl).trans ?_
        refine (if_neg (by decide)).trans ?_
        refine (E_il c_252_106 rfl).trans ?_
        refine (E_goto (q := 114) c_252_107 rfl).trans ?_
        refine (E_pfi (k := 23) c_252_114 sh_82 rfl rfl rfl).trans ?_
        refine (E_al c_252_117 rfl (by decide)).trans ?_
        refine (E_il c_252_118 rfl).trans ?_
        refine (E_b0_eq (q := 127) c_252_120 rfl).trans ?_
        refine (if_neg (by decide)).trans ?_
        refine (E_il c_252_123 rfl).trans ?_
        refine (E_goto (q := 131) c_252_124 rfl).trans ?_
        refine (E_pfi (k := 21) c_252_131 sh_82 rfl rfl rfl).trans ?_
        refine (E_inc (v := (1 : Int32)) (L' := [.ref 82, .int x1, .int (x2 + (1 : Int32)), .int u1.1, .int (1 : Int32)]) c_252_134 rfl (by decide) rfl).trans ?_
        refine (E_goto (q := 18) c_252_137 rfl).trans ?_
        rfl
      · refine (E_il c_252_51 rfl).trans ?_
        refine (E_al c_252_52 rfl (by decide)).trans ?_
        refine (E_gfi (k := 21) c_252_53 sh_82 rfl rfl rfl (by decide)).trans ?_
        refine (E_br_ge (q := 63) c_252_56 rfl).trans (ax_ite ?_ ?_)
        · refine (E_ic (v := (1 : Int32)) c_252_59 (by decide)).trans ?_
          refine (E_goto (q := 64) c_252_60 rfl).trans ?_
          refine (E_is (L' := [.ref 82, .int x1, .int x2, .int u1.1, .int (1 : Int32)]) c_252_64 (Nat.le_of_ble_eq_true rfl) rfl).trans ?_
          refine (E_al c_252_66 rfl (by decide)).trans ?_
          refine (E_il c_252_67 rfl).trans ?_
          refine (E_b0_eq (q := 76) c_252_69 rfl).trans ?_
          refine (if_neg (by decide)).trans ?_
          refine (E_ic (v := (1 : Int32)) c_252_72 (by decide)).trans ?_
          refine (E_goto (q := 97) c_252_73 rfl).trans ?_
          refine (E_pfi (k := 22) c_252_97 sh_82 rfl rfl rfl).trans ?_
          refine (E_al c_252_100 rfl (by decide)).trans ?_
          refine (E_il c_252_101 rfl).trans ?_
          refine (E_b0_eq (q := 110) c_252_103 rfl).trans ?_
          refine (if_neg (by decide)).trans ?_
          refine (E_il c_252_106 rfl).trans ?_
          refine (E_goto (q := 114) c_252_107 rfl).trans ?_
          refine (E_pfi (k := 23) c_252_114 sh_82 rfl rfl rfl).trans ?_
          refine (E_al c_252_117 rfl (by decide)).trans ?_
          refine (E_il c_252_118 rfl).trans ?_
          refine (E_b0_eq (q := 127) c_252_120 rfl).trans ?_
          refine (if_neg (by decide)).trans ?_
          refine (E_il c_252_123 rfl).trans ?_
          refine (E_goto (q := 131) c_252_124 rfl).trans ?_
          refine (E_pfi (k := 21) c_252_131 sh_82 rfl rfl rfl).trans ?_
          refine (E_inc (v := (1 : Int32)) (L' := [.ref 82, .int x1, .int (x2 + (1 : Int32)), .int u1.1, .int (1 : Int32)]) c_252_134 rfl (by decide) rfl).trans ?_
          refine (E_goto (q := 18) c_252_137 rfl).trans ?_
          rfl
        · refine (E_ic (v := (0 : Int32)) c_252_63 (by decide)).trans ?_
          refine (E_is (L' := [.ref 82, .int x1, .int x2, .int u1.1, .int (0 : Int32)]) c_252_64 (Nat.le_of_ble_eq_true rfl) rfl).trans ?_
          refine (E_al c_252_66 rfl (by decide)).trans ?_
          refine (E_il c_252_67 rfl).trans ?_
          refine (E_b0_eq (q := 76) c_252_69 rfl).trans ?_
          refine (if_pos (by decide)).trans ?_
          refine (E_il c_252_76 rfl).trans ?_
          refine (E_al c_252_77 rfl (by decide)).trans ?_
          refine (E_gfi (k := 21) c_252_78 sh_82 rfl rfl rfl (by decide)).trans ?_
          refine (E_br_ne (q := 93) c_252_81 rfl).trans (ax_ite ?_ ?_)
          · refine (E_al c_252_84 rfl (by decide)).trans ?_
            refine (E_gfi (k := 22) c_252_85 sh_82 rfl rfl rfl (by decide)).trans ?_
            refine (E_ic (v := (1 : Int32)) c_252_88 (by decide)).trans ?_
            refine (E_iadd c_252_89).trans ?_
            refine (E_goto (q := 97) c_252_90 rfl).trans ?_
            refine (E_pfi (k := 22) c_252_97 sh_82 rfl rfl rfl).trans ?_
            refine (E_al c_252_100 rfl (by decide)).trans ?_
            refine (E_il c_252_101 rfl).trans ?_
            refine (E_b0_eq (q := 110) c_252_103 rfl).trans ?_
            refine (if_pos (by decide)).trans ?_
            refine (E_al c_252_110 rfl (by decide)).trans ?_
            refine (E_gfi (k := 23) c_252_111 sh_82 rfl rfl rfl (by decide)).trans ?_
            refine (E_pfi (k := 23) c_252_114 sh_82 rfl rfl rfl).trans ?_
            refine (E_al c_252_117 rfl (by decide)).trans ?_
            refine (E_il c_252_118 rfl).trans ?_
            refine (E_b0_eq (q := 127) c_252_120 rfl).trans ?_
            refine (if_pos (by decide)).trans ?_
            refine (E_al c_252_127 rfl (by decide)).trans ?_
            refine (E_gfi (k := 21) c_252_128 sh_82 rfl rfl rfl (by decide)).trans ?_
            refine (E_pfi (k := 21) c_252_131 sh_82 rfl rfl rfl).trans ?_
            refine ax_ltE (fun s2 => ?_)
            refine (E_inc (v := (1 : Int32)) (L' := [.ref 82, .int x1, .int (x2 + (1 : Int32)), .int u1.1, .int (0 : Int32)]) c_252_134 rfl (by decide) rfl).trans ?_
            refine (E_goto (q := 18) c_252_137 rfl).trans ?_
            rfl
          · refine (E_al c_252_93 rfl (by decide)).trans ?_
            refine (E_gfi (k := 22) c_252_94 sh_82 rfl rfl rfl (by decide)).trans ?_
            refine (E_pfi (k := 22) c_252_97 sh_82 rfl rfl rfl).trans ?_
            refine (E_al c_252_100 rfl (by decide)).trans ?_
            refine (E_il c_252_101 rfl).trans ?_
            refine (E_b0_eq (q := 110) c_252_103 rfl).trans ?_
            refine (if_pos (by decide)).trans ?_
            refine (E_al c_252_110 rfl (by decide)).trans ?_
            refine (E_gfi (k := 23) c_252_111 sh_82 rfl rfl rfl (by decide)).trans ?_
            refine (E_pfi (k := 23) c_252_114 sh_82 rfl rfl rfl).trans ?_
            refine (E_al c_252_117 rfl (by decide)).trans ?_
            refine (E_il c_252_118 rfl).trans ?_
            refine (E_b0_eq (q := 127) c_252_120 rfl).trans ?_
            refine (if_pos (by decide)).trans ?_
            refine (E_al c_252_127 rfl (by decide)).trans ?_
            refine (E_gfi (k := 21) c_252_128 sh_82 rfl rfl rfl (by decide)).trans ?_
            refine (E_pfi (k := 21) c_252_131 sh_82 rfl rfl rfl).trans ?_
            refine ax_ltE (fun s3 => ?_)
            refine (E_inc (v := (1 : Int32)) (L' := [.ref 82, .int x1, .int (x2 + (1 : Int32)), .int u1.1, .int (0 : Int32)]) c_252_134 rfl (by decide) rfl).trans ?_
            refine (E_goto (q := 18) c_252_137 rfl).trans ?_
            rfl
  · exact E_rV c_252_140 mi_252
set_option maxHeartbeats 4000000 in
theorem u_126_17 (d : Nat) (σ : ax_S) (x1 : Int32) : ev sO (d + 4) 126 0 [.ref 17, .int x1, .null, .null, .null] [] σ = ev sO (d + 4) 126 9 [.ref 17, .int x1, .int (-1000000 : Int32), .int (12 : Int32), .int (0 : Int32)] [] σ := by
  refine (E_ic (v := (-1000000 : Int32)) c_126_0 (by decide)).trans ?_
  refine (E_is (L' := [.ref 17, .int x1, .int (-1000000 : Int32), .null, .null]) c_126_2 (Nat.le_of_ble_eq_true rfl) rfl).trans ?_
  refine (E_ic (v := (12 : Int32)) c_126_3 (by decide)).trans ?_
  refine (E_is (L' := [.ref 17, .int x1, .int (-1000000 : Int32), .int (12 : Int32), .null]) c_126_5 (Nat.le_of_ble_eq_true rfl) rfl).trans ?_
  refine (E_ic (v := (0 : Int32)) c_126_6 (by decide)).trans ?_
  refine (E_is (L' := [.ref 17, .int x1, .int (-1000000 : Int32), .int (12 : Int32), .int (0 : Int32)]) c_126_7 (Nat.le_of_ble_eq_true rfl) rfl).trans ?_
  rfl
set_option maxHeartbeats 4000000 in
theorem u_126_17p9 (d : Nat) (σ : ax_S) (x1 : Int32) (x2 : Int32) (x3 : Int32) (x4 : Int32) : ev sO (d + 4) 126 9 [.ref 17, .int x1, .int x2, .int x3, .int x4] [] σ = if x4 < (σ.1 17 0) then ((cI sO (d + 3) 127 [.ref 17, .int x4, .int x1] σ).bind fun u0 => if u0.1 = 0 then (ev sO (d + 4) 126 9 [.ref 17, .int x1, .int x2, .int x3, .int (x4 + (1 : Int32))] [] u0.2) else ((cI sO (d + 3) 108 [.ref 17, .int x4, .int x1] u0.2).bind fun u1 => if u1.1 < x3 then ((cI sO (d + 3) 108 [.ref 17, .int x4, .int x1] u1.2).bind fun u2 => ev sO (d + 4) 126 9 [.ref 17, .int x1, .int x4, .int u2.1, .int (x4 + (1 : Int32))] [] u2.2) else (ev sO (d + 4) 126 9 [.ref 17, .int x1, .int x2, .int x3, .int (x4 + (1 : Int32))] [] u1.2))) else (some (some (.int x2), σ)) := by
  refine (E_il c_126_9 rfl).trans ?_
  refine (E_al c_126_11 rfl (by decide)).trans ?_
  refine (E_gfi (k := 0) c_126_12 sh_17 rfl rfl rfl (by decide)).trans ?_
  refine (E_br_ge (q := 56) c_126_15 rfl).trans (ax_ite ?_ ?_)
  · refine (E_al c_126_18 rfl (by decide)).trans ?_
    refine (E_il c_126_19 rfl).trans ?_
    refine (E_il c_126_21 rfl).trans ?_
    refine (E_cIV c_126_22 mi_127 rfl rfl (sO_kl sh_17) (Nat.le_of_ble_eq_true rfl) (Nat.le_of_ble_eq_true rfl)).trans (ax_bnd fun u0 => ?_)
    refine (E_b0_eq (q := 50) c_126_25 rfl).trans (ax_ite ?_ ?_)
    · refine (E_inc (v := (1 : Int32)) (L' := [.ref 17, .int x1, .int x2, .int x3, .int (x4 + (1 : Int32))]) c_126_50 rfl (by decide) rfl).trans ?_
      refine (E_goto (q := 9) c_126_53 rfl).trans ?_
      rfl
    · refine (E_al c_126_28 rfl (by decide)).trans ?_
      refine (E_il c_126_29 rfl).trans ?_
      refine (E_il c_126_31 rfl).trans ?_
      refine (E_cIV c_126_32 mi_108 rfl rfl (sO_kl sh_17) (Nat.le_of_ble_eq_true rfl) (Nat.le_of_ble_eq_true rfl)).trans (ax_bnd fun u1 => ?_)
      refine (E_il c_126_35 rfl).trans ?_
      refine (E_br_ge (q := 50) c_126_36 rfl).trans (ax_ite ?_ ?_)
      · refine (E_al c_126_39 rfl (by decide)).trans ?_
        refine (E_il c_126_40 rfl).trans ?_
        refine (E_il c_126_42 rfl).trans ?_
        refine (E_cIV c_126_43 mi_108 rfl rfl (sO_kl sh_17) (Nat.le_of_ble_eq_true rfl) (Nat.le_of_ble_eq_true rfl)).trans (ax_bnd fun u2 => ?_)
        refine (E_is (L' := [.ref 17, .int x1, .int x2, .int u2.1, .int x4]) c_126_46 (Nat.le_of_ble_eq_true rfl) rfl).trans ?_
        refine (E_il c_126_47 rfl).trans ?_
        refine (E_is (L' := [.ref 17, .int x1, .int x4, .int u2.1, .int x4]) c_126_49 (Nat.le_of_ble_eq_true rfl) rfl).trans ?_
        refine (E_inc (v := (1 : Int32)) (L' := [.ref 17, .int x1, .int x4, .int u2.1, .int (x4 + (1 : Int32))]) c_126_50 rfl (by decide) rfl).trans ?_
        refine (E_goto (q := 9) c_126_53 rfl).trans ?_
        rfl
      · refine (E_inc (v := (1 : Int32)) (L' := [.ref 17, .int x1, .int x2, .int x3, .int (x4 + (1 : Int32))]) c_126_50 rfl (by decide) rfl).trans ?_
        refine (E_goto (q := 9) c_126_53 rfl).trans ?_
        rfl
  · refine (E_il c_126_56 rfl).trans ?_
    exact E_rI c_126_57 mi_126
set_option maxHeartbeats 4000000 in
theorem u_132_17 (d : Nat) (σ : ax_S) (x1 : Int32) (x2 : Int32) : ev sO (d + 3) 132 0 [.ref 17, .int x1, .int x2, .null, .null, .null, .null, .null, .null] [] σ = ev sO (d + 3) 132 14 [.ref 17, .int x1, .int x2, .int (-1000000 : Int32), .int (-1000000 : Int32), .int (-1000000 : Int32), .int (0 : Int32), .null, .null] [] σ := by
  refine (E_ic (v := (-1000000 : Int32)) c_132_0 (by decide)).trans ?_
  refine (E_is (L' := [.ref 17, .int x1, .int x2, .int (-1000000 : Int32), .null, .null, .null, .null, .null]) c_132_2 (Nat.le_of_ble_eq_true rfl) rfl).trans ?_
  refine (E_ic (v := (-1000000 : Int32)) c_132_3 (by decide)).trans ?_
  refine (E_is (L' := [.ref 17, .int x1, .int x2, .int (-1000000 : Int32), .int (-1000000 : Int32), .null, .null, .null, .null]) c_132_5 (Nat.le_of_ble_eq_true rfl) rfl).trans ?_
  refine (E_ic (v := (-1000000 : Int32)) c_132_7 (by decide)).trans ?_
  refine (E_is (L' := [.ref 17, .int x1, .int x2, .int (-1000000 : Int32), .int (-1000000 : Int32), .int (-1000000 : Int32), .null, .null, .null]) c_132_9 (Nat.le_of_ble_eq_true rfl) rfl).trans ?_
  refine (E_ic (v := (0 : Int32)) c_132_11 (by decide)).trans ?_
  refine (E_is (L' := [.ref 17, .int x1, .int x2, .int (-1000000 : Int32), .int (-1000000 : Int32), .int (-1000000 : Int32), .int (0 : Int32), .null, .null]) c_132_12 (Nat.le_of_ble_eq_true rfl) rfl).trans ?_
  rfl
set_option maxHeartbeats 4000000 in
theorem u_132_17p14 (d : Nat) (σ : ax_S) (x1 : Int32) (x2 : Int32) (x3 : Int32) (x4 : Int32) (x5 : Int32) (x6 : Int32) (w7 : Value) (hw7 : w7.category = 1) (w8 : Value) (hw8 : w8.category = 1) : ev sO (d + 3) 132 14 [.ref 17, .int x1, .int x2, .int x3, .int x4, .int x5, .int x6, w7, w8] [] σ = if x6 < (σ.1 17 0) then (ev sO (d + 3) 132 29 [.ref 17, .int x1, .int x2, .int x3, .int x4, .int x5, .int x6, .int (x6 + (1 : Int32)), w8] [] σ) else (if x2 = 0 then (some (some (.int x3), σ)) else (if x2 = (1 : Int32) then (some (some (.int x4), σ)) else (some (some (.int x5), σ)))) := by
  refine (E_il c_132_14 rfl).trans ?_
  refine (E_al c_132_16 rfl (by decide)).trans ?_
  refine (E_gfi (k := 0) c_132_17 sh_17 rfl rfl rfl (by decide)).trans ?_
  refine (E_br_ge (q := 116) c_132_20 rfl).trans (ax_ite ?_ ?_)
  · refine (E_il c_132_23 rfl).trans ?_
    refine (E_ic (v := (1 : Int32)) c_132_25 (by decide)).trans ?_
    refine (E_iadd c_132_26).trans ?_
    refine (E_is (L' := [.ref 17, .int x1, .int x2, .int x3, .int x4, .int x5, .int x6, .int (x6 + (1 : Int32)), w8]) c_132_27 (Nat.le_of_ble_eq_true rfl) rfl).trans ?_
    rfl
  · refine (E_il c_132_116 rfl).trans ?_
    refine (E_b0_ne (q := 122) c_132_117 rfl).trans (ax_ite ?_ ?_)
    · refine (E_il c_132_120 rfl).trans ?_
      exact E_rI c_132_121 mi_132
    · refine (E_il c_132_122 rfl).trans ?_
      refine (E_ic (v := (1 : Int32)) c_132_123 (by decide)).trans ?_
      refine (E_br_ne (q := 132) c_132_124 rfl).trans (ax_ite ?_ ?_)
      · refine (E_il c_132_127 rfl).trans ?_
        refine (E_goto (q := 134) c_132_129 rfl).trans ?_
        exact E_rI c_132_134 mi_132
      · refine (E_il c_132_132 rfl).trans ?_
        exact E_rI c_132_134 mi_132
