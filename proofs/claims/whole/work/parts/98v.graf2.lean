/-! TREES: the class grafts, 2 -/
theorem gN_ins (nd fo : Nat) (l : List Nat) (k : Nat) : gN (insP nd fo l) k = if k < plc nd l l.length then gN l k else if k = plc nd l l.length then fo else gN l (k - 1) := by
  have hm := plc_le nd l l.length
  unfold insP
  generalize plc nd l l.length = m at hm ⊢
  unfold gN
  have ht : (l.take m).length = m := by rw [List.length_take, Nat.min_eq_left hm]
  by_cases q : k < m
  · rw [if_pos q, List.getD_eq_getElem?_getD, List.getD_eq_getElem?_getD, List.getElem?_append_left (by rw [ht]; exact q), List.getElem?_take_of_lt q]
  · rw [if_neg q, List.getD_eq_getElem?_getD, List.getElem?_append_right (by rw [ht]; omega), ht]
    by_cases z : k = m
    · rw [if_pos z, z, Nat.sub_self]
      rfl
    · rw [if_neg z, List.getD_eq_getElem?_getD]
      obtain ⟨i, hi⟩ : ∃ i, k = m + (i + 1) := ⟨k - m - 1, by omega⟩
      rw [show k - m = i + 1 by omega, List.getElem?_cons_succ, List.getElem?_drop, show m + i = k - 1 by omega]
