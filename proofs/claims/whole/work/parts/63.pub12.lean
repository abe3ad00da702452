/-! THE PUBLIC METHODS, 12: stain, mend: cards' marks anew -/
/-- what holds of one mark of both -/
abbrev mkC (mk N : Nat → Int32) (j k : Nat) : Prop := mk (j * 11 + k) = (if bt (N (15 * j + 4)) k then -1000000 else N (15 * j + 5 + k)) ∧ 0 ≤ (N (15 * j + 5 + k)).toInt ∧ (N (15 * j + 5 + k)).toInt ≤ (if k < 8 then 9999 else if k = 8 then 9 else 99) ∧ (bt (N (15 * j + 4)) k = true → N (15 * j + 5 + k) = 0)
theorem RD_mk {sz : Int32} {la ye mt mk N mk' N' : Nat → Int32} {n : Nat} (h : RD sz la ye mt mk N n) (h0 : N' 0 = N 0) (hN : ∀ j, j < n → N' (15 * j + 1) = N (15 * j + 1) ∧ N' (15 * j + 2) = N (15 * j + 2) ∧ N' (15 * j + 3) = N (15 * j + 3)) (hm : ∀ j, j < n → (∀ k, k < 11 → mkC mk' N' j k) ∧ (∀ k, 11 ≤ k → k < 32 → bt (N' (15 * j + 4)) k = false)) : RD sz la ye mt mk' N' n := by
  obtain ⟨h1, h2, h3, h4⟩ := h
  refine ⟨h1, h2, h0.trans h3, fun j hj => ?_⟩
  obtain ⟨a1, a2, a3, a4, a5, a6, a7⟩ := h4 j hj
  obtain ⟨n1, n2, n3⟩ := hN j hj
  rw [n1, n2, n3]
  exact ⟨a1, a2, a3, a4, (hm j hj).1, (hm j hj).2, a7⟩
/-- one mark stained in both -/
theorem RD_stain {sz : Int32} {la ye mt mk N : Nat → Int32} {n a k : Nat} (h : RD sz la ye mt mk N n) (ha : a < n) (hk : k < 11) {mk' N' : Nat → Int32} (hm : ∀ j m, m < 11 → mk' (j * 11 + m) = if j = a ∧ m = k then -1000000 else mk (j * 11 + m)) (hN : ∀ i, N' i = if i = 15 * a + 5 + k then 0 else if i = 15 * a + 4 then N i ||| b1 k else N i) : RD sz la ye mt mk' N' n := by
  refine RD_mk h (by rw [hN 0, if_neg (by omega), if_neg (by omega)]) (fun j hj => ⟨by rw [hN, if_neg (by omega), if_neg (by omega)], by rw [hN, if_neg (by omega), if_neg (by omega)], by rw [hN, if_neg (by omega), if_neg (by omega)]⟩) (fun j hj => ?_)
  obtain ⟨-, -, -, h4⟩ := h
  obtain ⟨-, -, -, -, a5, a6, -⟩ := h4 j hj
  have e4 : N' (15 * j + 4) = if j = a then N (15 * j + 4) ||| b1 k else N (15 * j + 4) := by
    rw [hN, if_neg (by omega)]
    by_cases q : j = a
    · rw [if_pos (by omega), if_pos q]
    · rw [if_neg (by omega), if_neg q]
  refine ⟨fun m hm2 => ?_, fun m h1 h2 => ?_⟩
  · have e5 : N' (15 * j + 5 + m) = if j = a ∧ m = k then 0 else N (15 * j + 5 + m) := by
      rw [hN]
      by_cases q : j = a ∧ m = k
      · rw [if_pos (by omega), if_pos q]
      · rw [if_neg (by omega), if_neg (by omega), if_neg q]
    have eb : bt (N' (15 * j + 4)) m = (bt (N (15 * j + 4)) m || decide (j = a ∧ m = k)) := by
      rw [e4]
      by_cases q : j = a
      · rw [if_pos q, bt_or, bt_1 (by omega) (by omega)]
        congr 1
        simp [q]
      · rw [if_neg q]
        simp [q]
    unfold mkC
    rw [hm j m hm2, e5, eb]
    obtain ⟨c1, c2, c3, c4⟩ := a5 m hm2
    by_cases q : j = a ∧ m = k
    · rw [if_pos q, if_pos q, decide_eq_true q, Bool.or_true, if_pos rfl]
      refine ⟨rfl, by rw [i_0]; omega, ?_, fun _ => rfl⟩
      rw [i_0]
      split
      · omega
      · split <;> omega
    · rw [if_neg q, if_neg q, decide_eq_false q, Bool.or_false]
      exact ⟨c1, c2, c3, c4⟩
  · rw [e4]
    split
    · rw [bt_or, bt_1 (by omega) h2, a6 m h1 h2, decide_eq_false (by omega)]
      rfl
    · exact a6 m h1 h2
