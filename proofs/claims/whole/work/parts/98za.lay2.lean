/-! TREES: the reference lays one, all of it -/
/-- the cards of a set of ends -/
def mkE (E : Nat → Int32) (m : Nat) : Nat → Int32
  | 0 => 0
  | j + 1 => mkE E m j ||| (if m.testBit j then 1 <<< (E j &&& 31) else 0)
theorem mkE_c {E : Nat → Int32} {m m' : Nat} : ∀ e, (∀ j, j < e → m.testBit j = m'.testBit j) → mkE E m e = mkE E m' e
  | 0, _ => rfl
  | e + 1, h => by
    show mkE E m e ||| _ = mkE E m' e ||| _
    rw [mkE_c e (fun j hj => h j (by omega)), h e (by omega)]
theorem abv_bit (be : List Nat) (nd : Nat) : ∀ e j, (abvP be nd e).testBit j = (decide (j < e) && (walkP be 11 j).contains nd) ∧ abvP be nd e < 2 ^ e
  | 0, j => ⟨by show (0 : Nat).testBit j = _; rw [Nat.zero_testBit]; simp, by show 0 < 1; omega⟩
  | e + 1, j => by
    obtain ⟨h1, h2⟩ := abv_bit be nd e j
    have hs : (2 : Nat) ^ (e + 1) = 2 ^ e + 2 ^ e := by rw [Nat.pow_succ]; omega
    show (abvP be nd e + if (walkP be 11 e).contains nd then 2 ^ e else 0).testBit j = _ ∧ (abvP be nd e + if (walkP be 11 e).contains nd then 2 ^ e else 0) < 2 ^ (e + 1)
    by_cases q : (walkP be 11 e).contains nd = true
    · rw [if_pos q]
      refine ⟨?_, by omega⟩
      rw [Nat.add_comm]
      by_cases z : j = e
      · subst z
        rw [Nat.testBit_two_pow_add_eq, h1, q, decide_eq_false (Nat.lt_irrefl j), decide_eq_true (Nat.lt_succ_self j)]
        rfl
      · by_cases y : j < e
        · rw [Nat.testBit_two_pow_add_gt y, h1, decide_eq_true y, decide_eq_true (show j < e + 1 by omega)]
        · rw [decide_eq_false (show ¬ j < e + 1 by omega), Bool.false_and]
          refine Nat.testBit_lt_two_pow (Nat.lt_of_lt_of_le (show 2 ^ e + abvP be nd e < 2 ^ (e + 1) by omega) ?_)
          exact Nat.pow_le_pow_right (by omega) (by omega)
    · rw [if_neg q]
      refine ⟨?_, by omega⟩
      rw [Nat.add_zero, h1]
      by_cases z : j = e
      · subst z
        rw [decide_eq_false (Nat.lt_irrefl j), Bool.false_and]
        have : (walkP be 11 j).contains nd = false := by simpa using q
        rw [this, Bool.and_false]
      · by_cases y : j < e
        · rw [decide_eq_true y, decide_eq_true (show j < e + 1 by omega)]
        · rw [decide_eq_false y, decide_eq_false (show ¬ j < e + 1 by omega)]
/-- the reference's tree lies there: below, left, right, top, the cards above each node -/
abbrev MLay (σ : ax_S) (e t : Nat) : Prop := MRel σ (mTree e t) e ∧ ∀ i, i < 11 → σ.1 95 i = mkE (σ.1 91) (abvP (mTree e t).1 i e) e
theorem m_layTree (d : Nat) {σ : ax_S} {e t : Nat} (h2 : 2 ≤ e) (he : e ≤ 6) (ht : t < 2147483648) (h25 : σ.1 82 25 = nI e) (hw : ∀ j, j < e → (walkP (mTree e t).1 11 j).length < 11) : ∃ τ, cV sO (d + 1) 261 [.ref 82, .int (nI t)] σ = some τ ∧ sm [82, 92, 93, 94, 95] σ τ ∧ (∀ f, f ≠ 29 → τ.1 82 f = σ.1 82 f) ∧ MLay τ e t := by
  have h0 : MRel (sI (sI σ 92 0 (-1)) 82 29 0) (n11, n11, n11, 0) 1 := ⟨⟨⟨rfl, rfl, rfl⟩, fun i hi => Or.inl (by
    have : i = 0 := by omega
    rw [this]
    rfl), fun k k1 k2 => absurd k2 (by omega), by show 0 < 11; omega⟩, fun i hi => by
    have : i = 0 := by omega
    rw [this, sI_n _ _ (by decide), sI_1]
    rfl, fun k k1 k2 => absurd k2 (by omega), by rw [sI_1]; rfl⟩
  obtain ⟨τ1, a1, a2, a3, a4⟩ := m_putOn d (nd := 0) h0 (by omega) (by omega) (Or.inl (by omega))
  have e25 : τ1.1 82 25 = nI e := by rw [a3 25 (by decide), sI_k _ (by decide), sI_n _ _ (by decide)]; exact h25
  obtain ⟨τ2, x, y, hx, hy, b1', b2, b3, b4⟩ := m_lay_t d (.int (nI t)) rfl he (e - 2) 2 t .null τ1 (putP (n11, n11, n11, 0) 1 6 0) rfl (by omega) (by omega) ht e25 a4
  obtain ⟨τ3, ⟨p1, p2⟩, c1'⟩ := loop_P (E := fun k (τ : ax_S) => ev sO (d + 1) 261 83 [.ref 82, .int (nI t), x, .int (nI k), y] [] τ) (N := 11) (P := fun k τ => sm [95] τ2 τ ∧ ∀ i, i < k → τ.1 95 i = 0) (fun k τ hk hp => by
    obtain ⟨p1, p2⟩ := hp
    refine ⟨sI τ 95 k 0, ⟨p1.set _ _ (by decide), fun i hi => ?_⟩, ?_⟩
    · by_cases q : i = k
      · rw [q, sI_1]
      · rw [sI_k _ q]
        exact p2 i (by omega)
    · (try simp only)
      rw [u_261_82p83 _ _ _ rfl _ hx _ _ hy, if_pos (show nI k < (11 : Int32) from nlt (N := 11) hk), gd_t (nI_g hk (by omega)), nI_add1, nI_c (by omega)]) τ2 ⟨sm.rf _ _, fun i hi => absurd hi (Nat.not_lt_zero i)⟩
  have r3 : MRel τ3 (mTree e t) e := by
    obtain ⟨q1, q2, q3, q4⟩ := b4
    exact ⟨q1, fun i hi => by rw [p1.1 92 (by decide)]; exact q2 i hi, fun k k1 k2 => by rw [p1.1 93 (by decide), p1.1 94 (by decide)]; exact q3 k k1 k2, by rw [p1.1 82 (by decide)]; exact q4⟩
  have hv : ∀ i, vN e i → gN (mTree e t).1 i = 99 ∨ vN e (gN (mTree e t).1 i) := fun i hi => by
    obtain z | ⟨k, k1, k2, ek⟩ := r3.1.2.1 i hi
    · exact Or.inl z
    · exact Or.inr (by omega)
  have t25 : τ3.1 82 25 = nI e := by rw [p1.1 82 (by decide), b3 25 (by decide)]; exact e25
  have n99 : ∀ j, j < 6 → eM j = nI j := fun j hj => eM_i (by omega)
  obtain ⟨⟨xv, τ4⟩, ⟨p0, q1, q2⟩, c2⟩ := loop_P (E := fun k (s : Value × ax_S) => ev sO (d + 1) 261 104 [.ref 82, .int (nI t), x, .int (nI k), s.1] [] s.2) (N := e) (P := fun k s => c1 s.1 ∧ sm [95] τ3 s.2 ∧ ∀ i, i < 11 → s.2.1 95 i = mkE (τ3.1 91) (abvP (mTree e t).1 i e) k) (fun k s hk hp => by
    obtain ⟨xv, τ⟩ := s
    obtain ⟨p0, q1, q2⟩ := hp
    simp only at p0 q1 q2 ⊢
    have e91 : τ.1 91 = τ3.1 91 := q1.1 91 (by decide)
    obtain ⟨ρ, xx, hxx, f1, f2, f3⟩ := m_walk d (.int (nI t)) x rfl hx (be := (mTree e t).1) (e := e) (j := k) (by omega) (1 <<< (τ3.1 91 k &&& 31)) hv he 11 k τ (hw k hk) (Or.inl (Or.inl hk)) (fun i hi => by rw [q1.1 92 (by decide)]; exact r3.2.1 i hi) (by rw [e91])
    refine ⟨(xx, ρ), ⟨hxx, q1.tr f2, fun i hi => ?_⟩, ?_⟩
    · show ρ.1 95 i = mkE _ _ k ||| _
      rw [f3 i, q2 i hi, (abv_bit (mTree e t).1 i e k).1, decide_eq_true hk, Bool.true_and]
      by_cases z : (walkP (mTree e t).1 11 k).contains i = true
      · rw [if_pos z, if_pos z]
      · rw [if_neg z, if_neg z, Int32.or_zero]
    · rw [u_261_82p104 _ _ _ rfl _ hx _ _ p0, show τ.1 82 25 = nI e by rw [q1.1 82 (by decide)]; exact t25, if_pos (nlt hk), ← n99 k (by omega)]
      rw [n99 k (by omega)] at f1 ⊢
      exact f1) (y, τ3) ⟨hy, sm.rf _ _, fun i hi => p2 i hi⟩
  simp only at p0 q1 q2 c2
  have e91 : τ4.1 91 = τ3.1 91 := q1.1 91 (by decide)
  refine ⟨τ4, cV_ev mi_261 ((u_261_82 d σ _).trans ?_) rfl, ?_, fun f hf => ?_, ⟨?_, fun i hi => by rw [e91]; exact q2 i hi⟩⟩
  · have a1' : cV sO d 262 [.ref 82, .int 1, .int 6, .int 0] (sI (sI σ 92 0 (-1)) 82 29 0) = some τ1 := a1
    rw [a1', Option.bind_some]
    refine b1'.trans (c1'.trans ?_)
    (try simp only)
    rw [u_261_82p83 _ _ _ rfl _ hx _ _ hy, if_neg (show ¬ nI 11 < (11 : Int32) from nnl (N := 11) (Nat.le_refl _))]
    refine c2.trans ?_
    rw [u_261_82p104 _ _ _ rfl _ hx _ _ p0, show τ4.1 82 25 = nI e by rw [q1.1 82 (by decide)]; exact t25, if_neg (nnl (Nat.le_refl e) (by omega))]
  · exact (((((sm.rf _ _).set _ _ (by decide)).set _ _ (by decide)).tr (a2.up (by decide))).tr (b2.up (by decide))).tr (p1.up (by decide)) |>.tr (q1.up (by decide))
  · rw [q1.1 82 (by decide), p1.1 82 (by decide), b3 f hf, a3 f hf, sI_k _ hf, sI_n _ _ (by decide)]
  · obtain ⟨s1, s2, s3, s4⟩ := r3
    exact ⟨s1, fun i hi => by rw [q1.1 92 (by decide)]; exact s2 i hi, fun k k1 k2 => by rw [q1.1 93 (by decide), q1.1 94 (by decide)]; exact s3 k k1 k2, by rw [q1.1 82 (by decide)]; exact s4⟩
