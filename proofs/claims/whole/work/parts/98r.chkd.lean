/-! TREES: nodes of all of them, by the kernel -/
def chkD (e t : Nat) : Bool := ((cProg (cTree e t)).all fun p => Nat.blt p.1 11 && Nat.blt p.2.1 11 && Nat.blt p.2.2 11) && ((mProg e (mTree e t)).all fun p => Nat.blt p.1 11 && Nat.blt 5 p.1 && Nat.blt p.2.1 11 && Nat.blt p.2.2 11 && (Nat.blt p.2.1 e || Nat.blt 5 p.2.1) && (Nat.blt p.2.2 e || Nat.blt 5 p.2.2)) && ((cSym e t).all fun x => x.all fun n => n == 200 || ((n % 2 == 1 || n == 0) && Nat.blt ((n + 1) / 2) e)) && (cTree e t).2.2.2.length == e - 1 && (mOrd e (mTree e t)).length == e - 1 && Nat.blt (piT e t) (allN e)
theorem chd_2 : (List.range 1).all (chkD 2) = true := by decide +kernel
theorem chd_3 : (List.range 3).all (chkD 3) = true := by decide +kernel
theorem chd_4 : (List.range 15).all (chkD 4) = true := by decide +kernel
theorem chd_5 : (List.range 105).all (chkD 5) = true := by decide +kernel
theorem chd_60 : ((List.range 105).map (0 + ·)).all (chkD 6) = true := by decide +kernel
theorem chd_61 : ((List.range 105).map (105 + ·)).all (chkD 6) = true := by decide +kernel
theorem chd_62 : ((List.range 105).map (210 + ·)).all (chkD 6) = true := by decide +kernel
theorem chd_63 : ((List.range 105).map (315 + ·)).all (chkD 6) = true := by decide +kernel
theorem chd_64 : ((List.range 105).map (420 + ·)).all (chkD 6) = true := by decide +kernel
theorem chd_65 : ((List.range 105).map (525 + ·)).all (chkD 6) = true := by decide +kernel
theorem chd_66 : ((List.range 105).map (630 + ·)).all (chkD 6) = true := by decide +kernel
theorem chd_67 : ((List.range 105).map (735 + ·)).all (chkD 6) = true := by decide +kernel
theorem chd_68 : ((List.range 105).map (840 + ·)).all (chkD 6) = true := by decide +kernel
theorem chd_all {e t : Nat} (h2 : 2 ≤ e) (h6 : e ≤ 6) (ht : t < allN e) : chkD e t = true := by
  have h : e = 2 ∨ e = 3 ∨ e = 4 ∨ e = 5 ∨ e = 6 := by omega
  obtain rfl | rfl | rfl | rfl | rfl := h
  · exact List.all_eq_true.mp chd_2 t (List.mem_range.mpr ht)
  · exact List.all_eq_true.mp chd_3 t (List.mem_range.mpr ht)
  · exact List.all_eq_true.mp chd_4 t (List.mem_range.mpr ht)
  · exact List.all_eq_true.mp chd_5 t (List.mem_range.mpr ht)
  · have ht : t < 945 := ht
    have sl : ∀ k, 105 * k ≤ t → t < 105 * k + 105 → t ∈ (List.range 105).map (105 * k + ·) := fun k h1 h2 => List.mem_map.mpr ⟨t - 105 * k, List.mem_range.mpr (by omega), by omega⟩
    have hk : t < 105 ∨ (105 ≤ t ∧ t < 210) ∨ (210 ≤ t ∧ t < 315) ∨ (315 ≤ t ∧ t < 420) ∨ (420 ≤ t ∧ t < 525) ∨ (525 ≤ t ∧ t < 630) ∨ (630 ≤ t ∧ t < 735) ∨ (735 ≤ t ∧ t < 840) ∨ (840 ≤ t ∧ t < 945) := by omega
    obtain q | q | q | q | q | q | q | q | q := hk
    · exact List.all_eq_true.mp chd_60 t (sl 0 (by omega) (by omega))
    · exact List.all_eq_true.mp chd_61 t (sl 1 (by omega) (by omega))
    · exact List.all_eq_true.mp chd_62 t (sl 2 (by omega) (by omega))
    · exact List.all_eq_true.mp chd_63 t (sl 3 (by omega) (by omega))
    · exact List.all_eq_true.mp chd_64 t (sl 4 (by omega) (by omega))
    · exact List.all_eq_true.mp chd_65 t (sl 5 (by omega) (by omega))
    · exact List.all_eq_true.mp chd_66 t (sl 6 (by omega) (by omega))
    · exact List.all_eq_true.mp chd_67 t (sl 7 (by omega) (by omega))
    · exact List.all_eq_true.mp chd_68 t (sl 8 (by omega) (by omega))
