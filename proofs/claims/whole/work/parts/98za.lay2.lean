/-! TREES: the reference lays one, all of it -/
/-- the cards of a set of ends -/
def mkE (E : Nat → Int32) (m : Nat) : Nat → Int32
  | 0 => 0
  | j + 1 => mkE E m j ||| (if m.testBit j then 1 <<< (E j &&& 31) else 0)
theorem mkE_c {E : Nat → Int32} {m m' : Nat} : ∀ e, (∀ j, j < e → m.testBit j = m'.testBit j) → mkE E m e = mkE E m' e
  | 0, _ => rfl
  | e + 1, h => by
    show mkE E m e ||| _ = mkE E m' e ||| _
    rw [mkE_c e (fun j hj => h j (by omega)), h e (by omega)]
theorem abv_bit (be : List Nat) (nd : Nat) : ∀ e j, (abvP be nd e).testBit j = (decide (j < e) && (walkP be 11 j).contains nd) ∧ abvP be nd e < 2 ^ e
  | 0, j => ⟨by show (0 : Nat).testBit j = _; rw [Nat.zero_testBit]; simp, by show 0 < 1; omega⟩
  | e + 1, j => by
    obtain ⟨h1, h2⟩ := abv_bit be nd e j
    have hs : (2 : Nat) ^ (e + 1) = 2 ^ e + 2 ^ e := by rw [Nat.pow_succ]; omega
    show (abvP be nd e + if (walkP be 11 e).contains nd then 2 ^ e else 0).testBit j = _ ∧ (abvP be nd e + if (walkP be 11 e).contains nd then 2 ^ e else 0) < 2 ^ (e + 1)
    by_cases q : (walkP be 11 e).contains nd = true
    · rw [if_pos q]
      refine ⟨?_, by omega⟩
      rw [Nat.add_comm]
      by_cases z : j = e
      · subst z
        rw [Nat.testBit_two_pow_add_eq, h1, q, decide_eq_false (Nat.lt_irrefl j), decide_eq_true (Nat.lt_succ_self j)]
        rfl
      · by_cases y : j < e
        · rw [Nat.testBit_two_pow_add_gt y, h1, decide_eq_true y, decide_eq_true (show j < e + 1 by omega)]
        · rw [decide_eq_false (show ¬ j < e + 1 by omega), Bool.false_and]
          refine Nat.testBit_lt_two_pow (Nat.lt_of_lt_of_le (show 2 ^ e + abvP be nd e < 2 ^ (e + 1) by omega) ?_)
          exact Nat.pow_le_pow_right (by omega) (by omega)
    · rw [if_neg q]
      refine ⟨?_, by omega⟩
      rw [Nat.add_zero, h1]
      by_cases z : j = e
      · subst z
        rw [decide_eq_false (Nat.lt_irrefl j), Bool.false_and]
        have : (walkP be 11 j).contains nd = false := by simpa using q
        rw [this, Bool.and_false]
      · by_cases y : j < e
        · rw [decide_eq_true y, decide_eq_true (show j < e + 1 by omega)]
        · rw [decide_eq_false y, decide_eq_false (show ¬ j < e + 1 by omega)]
