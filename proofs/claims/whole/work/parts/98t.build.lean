/-! TREES: the class builds one -/
theorem gN_set {l : List Nat} {i : Nat} (a k : Nat) (h : i < l.length) : gN (l.set i a) k = if k = i then a else gN l k := by
  unfold gN
  rw [List.getD_eq_getElem?_getD, List.getElem?_set, List.getD_eq_getElem?_getD]
  by_cases q : i = k
  · rw [if_pos q, if_pos h, if_pos q.symm]
    rfl
  · rw [if_neg q, if_neg (fun z => q z.symm)]
abbrev eN (x : Nat) : Int32 := if x = 99 then -1000000 else nI x
