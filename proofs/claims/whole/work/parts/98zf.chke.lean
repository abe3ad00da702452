/-! TREES: joins have more than one end, by the kernel -/
def chkE (e t : Nat) : Bool := (mJ e t).all fun x => Nat.blt 1 (pop6 x)
theorem che_2 : (List.range 1).all (chkE 2) = true := by decide +kernel
theorem che_3 : (List.range 3).all (chkE 3) = true := by decide +kernel
theorem che_4 : (List.range 15).all (chkE 4) = true := by decide +kernel
theorem che_5 : (List.range 105).all (chkE 5) = true := by decide +kernel
theorem che_6 : (List.range 945).all (chkE 6) = true := by decide +kernel
theorem che_all {e t : Nat} (h2 : 2 ≤ e) (h6 : e ≤ 6) (ht : t < allN e) : chkE e t = true := by
  have h : e = 2 ∨ e = 3 ∨ e = 4 ∨ e = 5 ∨ e = 6 := by omega
  obtain rfl | rfl | rfl | rfl | rfl := h
  · exact List.all_eq_true.mp che_2 t (List.mem_range.mpr ht)
  · exact List.all_eq_true.mp che_3 t (List.mem_range.mpr ht)
  · exact List.all_eq_true.mp che_4 t (List.mem_range.mpr ht)
  · exact List.all_eq_true.mp che_5 t (List.mem_range.mpr ht)
  · exact List.all_eq_true.mp che_6 t (List.mem_range.mpr ht)
theorem mJ_2 {e t x : Nat} (h2 : 2 ≤ e) (h6 : e ≤ 6) (ht : t < allN e) (hx : x ∈ mJ e t) : 1 < pop6 x ∧ x < 2 ^ e := by
  have h := che_all h2 h6 ht
  unfold chkE at h
  simp only [List.all_eq_true, Nat.blt_eq] at h
  refine ⟨h x hx, ?_⟩
  obtain ⟨f, -, e1⟩ := List.mem_map.mp (show x ∈ List.map _ (forksP e) from hx)
  rw [← e1]
  exact (abv_bit (mTree e t).1 f e 0).2
