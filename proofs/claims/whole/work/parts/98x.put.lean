/-! TREES: the reference puts an end on -/
abbrev eM (x : Nat) : Int32 := if x = 99 then -1 else nI x
abbrev vN (j i : Nat) : Prop := i < j ∨ (6 ≤ i ∧ i < 5 + j)
abbrev PMr (g : MG) (j : Nat) : Prop := (g.1.length = 11 ∧ g.2.1.length = 11 ∧ g.2.2.1.length = 11) ∧ (∀ i, vN j i → gN g.1 i = 99 ∨ ∃ k, 1 ≤ k ∧ k < j ∧ gN g.1 i = 5 + k) ∧ (∀ k, 1 ≤ k → k < j → vN j (gN g.2.1 (5 + k)) ∧ vN j (gN g.2.2.1 (5 + k))) ∧ g.2.2.2 < 11
abbrev MRel (σ : ax_S) (g : MG) (j : Nat) : Prop := PMr g j ∧ (∀ i, vN j i → σ.1 92 i = eM (gN g.1 i)) ∧ (∀ k, 1 ≤ k → k < j → σ.1 93 (5 + k) = nI (gN g.2.1 (5 + k)) ∧ σ.1 94 (5 + k) = nI (gN g.2.2.1 (5 + k))) ∧ σ.1 82 29 = nI g.2.2.2
theorem eM_i {x : Nat} (h : x < 99) : eM x = nI x := if_neg (by omega)
theorem PMr_s {g : MG} {j nd : Nat} (h : PMr g j) (h1 : 1 ≤ j) (h6 : j < 6) (hn : vN j nd) : PMr (putP g j (5 + j) nd) (j + 1) := by
  obtain ⟨⟨l1, l2, l3⟩, i1, i2, i3⟩ := h
  have hl : nd < g.1.length := by rw [l1]; omega
  have hv : vN (j + 1) nd := by omega
  have hvj : vN (j + 1) j := by omega
  have hab := i1 nd hn
  refine ⟨⟨?_, ?_, ?_⟩, fun i hi => ?_, fun k k1 k2 => ⟨?_, ?_⟩, ?_⟩
  · show ((((g.1.set (5 + j) (gN g.1 nd)).set nd (5 + j)).set j (5 + j))).length = 11
    rw [List.length_set, List.length_set, List.length_set, l1]
  · show (if gN g.1 nd = 99 then g.2.1.set (5 + j) nd else if gN (g.2.1.set (5 + j) nd) (gN g.1 nd) = nd then (g.2.1.set (5 + j) nd).set (gN g.1 nd) (5 + j) else g.2.1.set (5 + j) nd).length = 11
    split
    · rw [List.length_set, l2]
    · split
      · rw [List.length_set, List.length_set, l2]
      · rw [List.length_set, l2]
  · show (if gN g.1 nd = 99 then g.2.2.1.set (5 + j) j else if gN (g.2.1.set (5 + j) nd) (gN g.1 nd) = nd then g.2.2.1.set (5 + j) j else (g.2.2.1.set (5 + j) j).set (gN g.1 nd) (5 + j)).length = 11
    split
    · rw [List.length_set, l3]
    · split
      · rw [List.length_set, l3]
      · rw [List.length_set, List.length_set, l3]
  · show gN (((g.1.set (5 + j) (gN g.1 nd)).set nd (5 + j)).set j (5 + j)) i = 99 ∨ ∃ k, 1 ≤ k ∧ k < j + 1 ∧ gN (((g.1.set (5 + j) (gN g.1 nd)).set nd (5 + j)).set j (5 + j)) i = 5 + k
    rw [gN_set _ _ (by rw [List.length_set, List.length_set]; clear hab; omega), gN_set _ _ (by rw [List.length_set]; exact hl), gN_set _ _ (by clear hab; omega)]
    by_cases q1 : i = j
    · rw [if_pos q1]
      exact Or.inr ⟨j, h1, by omega, rfl⟩
    · rw [if_neg q1]
      by_cases q2 : i = nd
      · rw [if_pos q2]
        exact Or.inr ⟨j, h1, by omega, rfl⟩
      · rw [if_neg q2]
        by_cases q3 : i = 5 + j
        · rw [if_pos q3]
          obtain z | ⟨k, a, b, c⟩ := hab
          · exact Or.inl z
          · exact Or.inr ⟨k, a, by omega, c⟩
        · rw [if_neg q3]
          obtain z | ⟨k, a, b, c⟩ := i1 i (by omega)
          · exact Or.inl z
          · exact Or.inr ⟨k, a, by omega, c⟩
  · show vN (j + 1) (gN (if gN g.1 nd = 99 then g.2.1.set (5 + j) nd else if gN (g.2.1.set (5 + j) nd) (gN g.1 nd) = nd then (g.2.1.set (5 + j) nd).set (gN g.1 nd) (5 + j) else g.2.1.set (5 + j) nd) (5 + k))
    have base : vN (j + 1) (gN (g.2.1.set (5 + j) nd) (5 + k)) := by
      clear hab
      rw [gN_set _ _ (by omega)]
      split
      · exact hv
      · have := (i2 k k1 (by omega)).1
        omega
    split
    · exact base
    · split
      · obtain z | ⟨m, a, b, c⟩ := hab
        · contradiction
        · rw [gN_set _ _ (by rw [List.length_set]; omega)]
          split
          · omega
          · exact base
      · exact base
  · show vN (j + 1) (gN (if gN g.1 nd = 99 then g.2.2.1.set (5 + j) j else if gN (g.2.1.set (5 + j) nd) (gN g.1 nd) = nd then g.2.2.1.set (5 + j) j else (g.2.2.1.set (5 + j) j).set (gN g.1 nd) (5 + j)) (5 + k))
    have base : vN (j + 1) (gN (g.2.2.1.set (5 + j) j) (5 + k)) := by
      clear hab
      rw [gN_set _ _ (by omega)]
      split
      · exact hvj
      · have := (i2 k k1 (by omega)).2
        omega
    split
    · exact base
    · split
      · exact base
      · obtain z | ⟨m, a, b, c⟩ := hab
        · contradiction
        · rw [gN_set _ _ (by rw [List.length_set]; omega)]
          split
          · omega
          · exact base
  · show (if gN g.1 nd = 99 then 5 + j else g.2.2.2) < 11
    split
    · omega
    · exact i3
