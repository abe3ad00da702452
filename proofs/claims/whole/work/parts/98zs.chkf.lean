/-! TREES: the top has all ends, by the kernel -/
def chkF (e t : Nat) : Bool := (List.range e).all fun j => ((cSym e t).getLast?.getD []).contains (leafN j)
theorem chf_2 : (List.range 1).all (chkF 2) = true := by decide +kernel
theorem chf_3 : (List.range 3).all (chkF 3) = true := by decide +kernel
theorem chf_4 : (List.range 15).all (chkF 4) = true := by decide +kernel
theorem chf_5 : (List.range 105).all (chkF 5) = true := by decide +kernel
theorem chf_60 : ((List.range 315).map (0 + ·)).all (chkF 6) = true := by decide +kernel
theorem chf_61 : ((List.range 315).map (315 + ·)).all (chkF 6) = true := by decide +kernel
theorem chf_62 : ((List.range 315).map (630 + ·)).all (chkF 6) = true := by decide +kernel
theorem chf_all {e t : Nat} (h2 : 2 ≤ e) (h6 : e ≤ 6) (ht : t < allN e) : chkF e t = true := by
  have h : e = 2 ∨ e = 3 ∨ e = 4 ∨ e = 5 ∨ e = 6 := by omega
  obtain rfl | rfl | rfl | rfl | rfl := h
  · exact List.all_eq_true.mp chf_2 t (List.mem_range.mpr ht)
  · exact List.all_eq_true.mp chf_3 t (List.mem_range.mpr ht)
  · exact List.all_eq_true.mp chf_4 t (List.mem_range.mpr ht)
  · exact List.all_eq_true.mp chf_5 t (List.mem_range.mpr ht)
  · have ht : t < 945 := ht
    have sl : ∀ k, 315 * k ≤ t → t < 315 * k + 315 → t ∈ (List.range 315).map (315 * k + ·) := fun k h1 h2 => List.mem_map.mpr ⟨t - 315 * k, List.mem_range.mpr (by omega), by omega⟩
    have hk : t < 315 ∨ (315 ≤ t ∧ t < 630) ∨ (630 ≤ t ∧ t < 945) := by omega
    obtain q | q | q := hk
    · exact List.all_eq_true.mp chf_60 t (sl 0 (by omega) (by omega))
    · exact List.all_eq_true.mp chf_61 t (sl 1 (by omega) (by omega))
    · exact List.all_eq_true.mp chf_62 t (sl 2 (by omega) (by omega))
theorem chf_of {e t j : Nat} (h2 : 2 ≤ e) (h6 : e ≤ 6) (ht : t < allN e) (hj : j < e) : leafN j ∈ (cSym e t).getLast?.getD [] := by
  have h := chf_all h2 h6 ht
  unfold chkF at h
  simp only [List.all_eq_true, List.mem_range, List.contains_iff_mem] at h
  exact h j hj
