/-! TREES: the class builds one -/
theorem gN_set {l : List Nat} {i : Nat} (a k : Nat) (h : i < l.length) : gN (l.set i a) k = if k = i then a else gN l k := by
  unfold gN
  rw [List.getD_eq_getElem?_getD, List.getElem?_set, List.getD_eq_getElem?_getD]
  by_cases q : i = k
  · rw [if_pos q, if_pos h, if_pos q.symm]
    rfl
  · rw [if_neg q, if_neg (fun z => q z.symm)]
abbrev eN (x : Nat) : Int32 := if x = 99 then -1000000 else nI x
/-- what holds of a tree with j ends -/
abbrev PGr (g : CG) (j : Nat) : Prop := (g.1.length = 11 ∧ g.2.1.length = 11 ∧ g.2.2.1.length = 11 ∧ g.2.2.2.length = j - 1) ∧ (∀ i, i < 2 * j - 1 → gN g.1 i = 99 ∨ ∃ k, 1 ≤ k ∧ k < j ∧ gN g.1 i = 2 * k) ∧ (∀ k, 1 ≤ k → k < j → gN g.2.1 (2 * k) < 2 * j - 1 ∧ gN g.2.2.1 (2 * k) < 2 * j - 1) ∧ ∀ x, x ∈ g.2.2.2 → ∃ k, 1 ≤ k ∧ k < j ∧ x = 2 * k
theorem plc_le (nd : Nat) (l : List Nat) : ∀ m, plc nd l m ≤ m
  | 0 => Nat.le_refl _
  | m + 1 => by
    unfold plc
    split
    · exact Nat.le_refl _
    · have := plc_le nd l m
      omega
theorem leafN_1 {j : Nat} (h : 1 ≤ j) : leafN j = 2 * j - 1 := if_neg (by omega)
theorem PGr_s {g : CG} {j nd : Nat} (h : PGr g j) (h1 : 1 ≤ j) (h6 : j < 6) (hn : nd < 2 * j - 1) : PGr (graftP g j nd) (j + 1) := by
  obtain ⟨⟨l1, l2, l3, l4⟩, i1, i2, i3⟩ := h
  have hlf := leafN_1 h1
  have hab := i1 nd hn
  refine ⟨⟨?_, ?_, ?_, ?_⟩, fun i hi => ?_, fun k k1 k2 => ⟨?_, ?_⟩, fun x hx => ?_⟩
  · show ((((g.1.set (2 * j) (gN g.1 nd)).set nd (2 * j)).set (leafN j) (2 * j))).length = 11
    rw [List.length_set, List.length_set, List.length_set, l1]
  · show (if gN g.1 nd = 99 then g.2.1.set (2 * j) nd else if gN (g.2.1.set (2 * j) nd) (gN g.1 nd) = nd then (g.2.1.set (2 * j) nd).set (gN g.1 nd) (2 * j) else g.2.1.set (2 * j) nd).length = 11
    split
    · rw [List.length_set, l2]
    · split
      · rw [List.length_set, List.length_set, l2]
      · rw [List.length_set, l2]
  · show (if gN g.1 nd = 99 then g.2.2.1.set (2 * j) (leafN j) else if gN (g.2.1.set (2 * j) nd) (gN g.1 nd) = nd then g.2.2.1.set (2 * j) (leafN j) else (g.2.2.1.set (2 * j) (leafN j)).set (gN g.1 nd) (2 * j)).length = 11
    split
    · rw [List.length_set, l3]
    · split
      · rw [List.length_set, l3]
      · rw [List.length_set, List.length_set, l3]
  · show (insP nd (2 * j) g.2.2.2).length = _
    unfold insP
    have := plc_le nd g.2.2.2 g.2.2.2.length
    rw [List.length_append, List.length_cons, List.length_take, List.length_drop, Nat.min_eq_left this]
    clear hab i1 i2 i3
    omega
  · show gN (((g.1.set (2 * j) (gN g.1 nd)).set nd (2 * j)).set (leafN j) (2 * j)) i = 99 ∨ ∃ k, 1 ≤ k ∧ k < j + 1 ∧ gN (((g.1.set (2 * j) (gN g.1 nd)).set nd (2 * j)).set (leafN j) (2 * j)) i = 2 * k
    rw [gN_set _ _ (by rw [List.length_set, List.length_set]; omega), gN_set _ _ (by rw [List.length_set]; omega), gN_set _ _ (by omega)]
    by_cases q1 : i = leafN j
    · rw [if_pos q1]
      exact Or.inr ⟨j, h1, by omega, rfl⟩
    · rw [if_neg q1]
      by_cases q2 : i = nd
      · rw [if_pos q2]
        exact Or.inr ⟨j, h1, by omega, rfl⟩
      · rw [if_neg q2]
        by_cases q3 : i = 2 * j
        · rw [if_pos q3]
          obtain z | ⟨k, a, b, c⟩ := hab
          · exact Or.inl z
          · exact Or.inr ⟨k, a, by omega, c⟩
        · rw [if_neg q3]
          obtain z | ⟨k, a, b, c⟩ := i1 i (by omega)
          · exact Or.inl z
          · exact Or.inr ⟨k, a, by omega, c⟩
  · show gN (if gN g.1 nd = 99 then g.2.1.set (2 * j) nd else if gN (g.2.1.set (2 * j) nd) (gN g.1 nd) = nd then (g.2.1.set (2 * j) nd).set (gN g.1 nd) (2 * j) else g.2.1.set (2 * j) nd) (2 * k) < 2 * (j + 1) - 1
    have base : gN (g.2.1.set (2 * j) nd) (2 * k) < 2 * (j + 1) - 1 := by
      rw [gN_set _ _ (by omega)]
      split
      · omega
      · have := (i2 k k1 (by omega)).1
        omega
    split
    · exact base
    · split
      · obtain z | ⟨m, a, b, c⟩ := hab
        · contradiction
        · rw [gN_set _ _ (by rw [List.length_set]; omega)]
          split
          · omega
          · exact base
      · exact base
  · show gN (if gN g.1 nd = 99 then g.2.2.1.set (2 * j) (leafN j) else if gN (g.2.1.set (2 * j) nd) (gN g.1 nd) = nd then g.2.2.1.set (2 * j) (leafN j) else (g.2.2.1.set (2 * j) (leafN j)).set (gN g.1 nd) (2 * j)) (2 * k) < 2 * (j + 1) - 1
    have base : gN (g.2.2.1.set (2 * j) (leafN j)) (2 * k) < 2 * (j + 1) - 1 := by
      rw [gN_set _ _ (by omega)]
      split
      · omega
      · have := (i2 k k1 (by omega)).2
        omega
    split
    · exact base
    · split
      · exact base
      · obtain z | ⟨m, a, b, c⟩ := hab
        · contradiction
        · rw [gN_set _ _ (by rw [List.length_set]; omega)]
          split
          · omega
          · exact base
  · have hx : x ∈ insP nd (2 * j) g.2.2.2 := hx
    unfold insP at hx
    rw [List.mem_append, List.mem_cons] at hx
    obtain q | q | q := hx
    · obtain ⟨k, a, b, c⟩ := i3 x (List.mem_of_mem_take q)
      exact ⟨k, a, by omega, c⟩
    · exact ⟨j, h1, by omega, q⟩
    · obtain ⟨k, a, b, c⟩ := i3 x (List.mem_of_mem_drop q)
      exact ⟨k, a, by omega, c⟩
