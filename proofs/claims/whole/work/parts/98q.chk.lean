/-! TREES: all of them, by the kernel -/
theorem chk_2 : (List.range 1).all (chkT 2) = true := by decide +kernel
theorem chk_3 : (List.range 3).all (chkT 3) = true := by decide +kernel
theorem chk_4 : (List.range 15).all (chkT 4) = true := by decide +kernel
theorem chk_5 : (List.range 105).all (chkT 5) = true := by decide +kernel
theorem chk_60 : ((List.range 105).map (0 + ·)).all (chkT 6) = true := by decide +kernel
theorem chk_61 : ((List.range 105).map (105 + ·)).all (chkT 6) = true := by decide +kernel
theorem chk_62 : ((List.range 105).map (210 + ·)).all (chkT 6) = true := by decide +kernel
theorem chk_63 : ((List.range 105).map (315 + ·)).all (chkT 6) = true := by decide +kernel
theorem chk_64 : ((List.range 105).map (420 + ·)).all (chkT 6) = true := by decide +kernel
theorem chk_65 : ((List.range 105).map (525 + ·)).all (chkT 6) = true := by decide +kernel
theorem chk_66 : ((List.range 105).map (630 + ·)).all (chkT 6) = true := by decide +kernel
theorem chk_67 : ((List.range 105).map (735 + ·)).all (chkT 6) = true := by decide +kernel
theorem chk_68 : ((List.range 105).map (840 + ·)).all (chkT 6) = true := by decide +kernel
theorem pi_2 : ((List.range 1).map (piT 2)).isPerm (List.range 1) = true := by decide +kernel
theorem pi_3 : ((List.range 3).map (piT 3)).isPerm (List.range 3) = true := by decide +kernel
theorem pi_4 : ((List.range 15).map (piT 4)).isPerm (List.range 15) = true := by decide +kernel
theorem pi_5 : ((List.range 105).map (piT 5)).isPerm (List.range 105) = true := by decide +kernel
theorem pi_6 : ((List.range 945).map (piT 6)).isPerm (List.range 945) = true := by decide +kernel
theorem chk_all {e t : Nat} (h2 : 2 ≤ e) (h6 : e ≤ 6) (ht : t < allN e) : chkT e t = true := by
  have h : e = 2 ∨ e = 3 ∨ e = 4 ∨ e = 5 ∨ e = 6 := by omega
  obtain rfl | rfl | rfl | rfl | rfl := h
  · exact List.all_eq_true.mp chk_2 t (List.mem_range.mpr ht)
  · exact List.all_eq_true.mp chk_3 t (List.mem_range.mpr ht)
  · exact List.all_eq_true.mp chk_4 t (List.mem_range.mpr ht)
  · exact List.all_eq_true.mp chk_5 t (List.mem_range.mpr ht)
  · have ht : t < 945 := ht
    have sl : ∀ k, 105 * k ≤ t → t < 105 * k + 105 → t ∈ (List.range 105).map (105 * k + ·) := fun k h1 h2 => List.mem_map.mpr ⟨t - 105 * k, List.mem_range.mpr (by omega), by omega⟩
    have hk : t < 105 ∨ (105 ≤ t ∧ t < 210) ∨ (210 ≤ t ∧ t < 315) ∨ (315 ≤ t ∧ t < 420) ∨ (420 ≤ t ∧ t < 525) ∨ (525 ≤ t ∧ t < 630) ∨ (630 ≤ t ∧ t < 735) ∨ (735 ≤ t ∧ t < 840) ∨ (840 ≤ t ∧ t < 945) := by omega
    obtain q | q | q | q | q | q | q | q | q := hk
    · exact List.all_eq_true.mp chk_60 t (sl 0 (by omega) (by omega))
    · exact List.all_eq_true.mp chk_61 t (sl 1 (by omega) (by omega))
    · exact List.all_eq_true.mp chk_62 t (sl 2 (by omega) (by omega))
    · exact List.all_eq_true.mp chk_63 t (sl 3 (by omega) (by omega))
    · exact List.all_eq_true.mp chk_64 t (sl 4 (by omega) (by omega))
    · exact List.all_eq_true.mp chk_65 t (sl 5 (by omega) (by omega))
    · exact List.all_eq_true.mp chk_66 t (sl 6 (by omega) (by omega))
    · exact List.all_eq_true.mp chk_67 t (sl 7 (by omega) (by omega))
    · exact List.all_eq_true.mp chk_68 t (sl 8 (by omega) (by omega))
theorem pi_all {e : Nat} (h2 : 2 ≤ e) (h6 : e ≤ 6) : ((List.range (allN e)).map (piT e)).Perm (List.range (allN e)) := by
  have h : e = 2 ∨ e = 3 ∨ e = 4 ∨ e = 5 ∨ e = 6 := by omega
  obtain rfl | rfl | rfl | rfl | rfl := h
  · exact List.isPerm_iff.mp pi_2
  · exact List.isPerm_iff.mp pi_3
  · exact List.isPerm_iff.mp pi_4
  · exact List.isPerm_iff.mp pi_5
  · exact List.isPerm_iff.mp pi_6
