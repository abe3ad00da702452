/-! TREES: the reference lays one -/
theorem m_lay_t (d : Nat) (w1 : Value) (h1 : c1 w1) {e : Nat} (he : e ≤ 6) : ∀ k j r (w4 : Value) (σ : ax_S) (g : MG), c1 w4 → j + k = e → 1 ≤ j → r < 2147483648 → σ.1 82 25 = nI e → MRel σ g j → ∃ τ x y, c1 x ∧ c1 y ∧ ev sO (d + 1) 261 24 [.ref 82, w1, .int (nI r), .int (nI j), w4] [] σ = ev sO (d + 1) 261 83 [.ref 82, w1, x, .int 0, y] [] τ ∧ sm [82, 92, 93, 94] σ τ ∧ (∀ f, f ≠ 29 → τ.1 82 f = σ.1 82 f) ∧ MRel τ (layP k j r g) e
  | 0, j, r, w4, σ, g, h4, hk, hj, hr, h25, h => by
    refine ⟨σ, .int (nI r), w4, rfl, h4, ?_, sm.rf _ _, fun _ _ => rfl, by rw [← hk]; exact h⟩
    rw [u_261_82p24 _ _ _ h1 _ _ _ h4, h25, if_neg (nnl (show e ≤ j by omega) (by omega))]
  | k + 1, j, r, w4, σ, g, h4, hk, hj, hr, h25, h => by
    have hb : (2 : Int32) * nI j - 1 = nI (2 * j - 1) := by
      rw [show (2 : Int32) * nI j = nI (2 * j) from nI_mul (a := 2) (by omega) (by omega) (by omega)]
      exact nI_sub1 (X := 2 * j) (by omega) (by omega)
    have hz : ¬ nI (2 * j - 1) = 0 := fun z => by
      have := nI_inj (b := 0) (by omega) (by omega) z
      omega
    have hmod : r % (2 * j - 1) < 2 * j - 1 := Nat.mod_lt _ (by omega)
    have hdiv : r / (2 * j - 1) ≤ r := Nat.div_le_self _ _
    have e5 : (5 : Int32) + nI j = nI (5 + j) := nI_pl (a := 5) (by omega)
    have hu := u_261_82p24 d σ w1 h1 (nI r) (nI j) w4 h4
    rw [h25, if_pos (nlt (show j < e by omega)), hb, gd_t hz, gd_t hz, nI_md hr (by omega) (by omega), nI_dv hr (by omega) (by omega), nI_add1, e5] at hu
    have hv : vN j (if r % (2 * j - 1) < j then r % (2 * j - 1) else 6 + r % (2 * j - 1) - j) := by
      split <;> omega
    obtain ⟨τ, e1, e2, e3, e4⟩ := m_putOn d h hj (by omega) hv
    obtain ⟨ρ, x, y, hx, hy, f1, f2, f3, f4⟩ := m_lay_t d w1 h1 he k (j + 1) (r / (2 * j - 1)) (.int (nI (r % (2 * j - 1)))) τ (putP g j (5 + j) (if r % (2 * j - 1) < j then r % (2 * j - 1) else 6 + r % (2 * j - 1) - j)) rfl (by omega) (by omega) (by omega) (by rw [e3 25 (by decide)]; exact h25) e4
    refine ⟨ρ, x, y, hx, hy, hu.trans ?_, e2.tr f2, fun f hf => (f3 f hf).trans (e3 f hf), f4⟩
    by_cases q : r % (2 * j - 1) < j
    · rw [if_pos q] at e1
      rw [if_pos (nlt q), e1, Option.bind_some]
      exact f1
    · rw [if_neg q] at e1
      have e6 : (6 : Int32) + nI (r % (2 * j - 1)) - nI j = nI (6 + r % (2 * j - 1) - j) := by
        rw [show (6 : Int32) + nI (r % (2 * j - 1)) = nI (6 + r % (2 * j - 1)) from nI_pl (a := 6) (by omega)]
        apply Int32.toInt_inj.mp
        rw [i_sub (by rw [nI_i (by omega), nI_i (by omega)]; omega) (by rw [nI_i (by omega), nI_i (by omega)]; omega), nI_i (by omega), nI_i (by omega), nI_i (by omega)]
        omega
      rw [if_neg (nnl (show j ≤ r % (2 * j - 1) by omega) (by omega)), e6, e1, Option.bind_some]
      exact f1
/-- a walk down from an end -/
theorem m_walk (d : Nat) (w1 w2 : Value) (h1 : c1 w1) (h2 : c1 w2) {be : List Nat} {e j : Nat} (hj : j < 6) (b : Int32) (hv : ∀ i, vN e i → gN be i = 99 ∨ (vN e (gN be i))) (he : e ≤ 6) : ∀ k nd (σ : ax_S), (walkP be k nd).length < k → vN e nd ∨ nd = 99 → (∀ i, vN e i → σ.1 92 i = eM (gN be i)) → b = 1 <<< (σ.1 91 j &&& 31) → ∃ τ x, c1 x ∧ ev sO (d + 1) 261 115 [.ref 82, w1, w2, .int (nI j), .int (eM nd)] [] σ = ev sO (d + 1) 261 104 [.ref 82, w1, w2, .int (nI (j + 1)), x] [] τ ∧ sm [95] σ τ ∧ ∀ i, τ.1 95 i = if (walkP be k nd).contains i then σ.1 95 i ||| b else σ.1 95 i
  | 0, nd, σ, hk, _, _, _ => absurd hk (Nat.not_lt_zero _)
  | k + 1, nd, σ, hk, hn, h92, hb => by
    by_cases q : nd = 99
    · refine ⟨σ, .int (eM nd), rfl, ?_, sm.rf _ _, fun i => ?_⟩
      · rw [u_261_82p115 _ _ _ h1 _ h2, if_pos (show eM nd < 0 by rw [q]; decide), nI_add1]
      · unfold walkP
        rw [if_pos q]
        rfl
    · have hnd : vN e nd := hn.elim id (fun z => absurd z q)
      have ew : walkP be (k + 1) nd = nd :: walkP be k (gN be nd) := by
        show (if nd = 99 then [] else nd :: walkP be k (gN be nd)) = _
        rw [if_neg q]
      rw [ew] at hk ⊢
      rw [List.length_cons] at hk
      have n11' : nd < 11 := by clear hn hb; omega
      have e1 : eM nd = nI nd := eM_i (by omega)
      have g1 := nI_g n11' (by omega)
      have g2 := nI_g hj (by omega)
      obtain ⟨τ, x, hx, f1, f2, f3⟩ := m_walk d w1 w2 h1 h2 hj b hv he k (gN be nd) (sI σ 95 nd (σ.1 95 nd ||| b)) (by omega) ((hv nd hnd).elim Or.inr Or.inl) (fun i hi => by rw [sI_n _ _ (by decide)]; exact h92 i hi) (by rw [sI_n _ _ (by decide)]; exact hb)
      refine ⟨τ, x, hx, ?_, ((sm.rf _ _).set _ _ (by decide)).tr f2, fun i => ?_⟩
      · rw [u_261_82p115 _ _ _ h1 _ h2, e1, if_neg (show ¬ nI nd < 0 from nnl (N := 0) (by omega) (by omega)), gd_t g1, gd_t g2, gd_t g1, gd_t g1, nI_c (by omega), nI_c (by omega), ← hb, sI_n (x := 92) _ _ (by decide), h92 nd hnd]
        exact f1
      · rw [f3 i]
        by_cases z : i = nd
        · subst z
          rw [sI_1, List.contains_cons, BEq.rfl, Bool.true_or, if_pos rfl]
          by_cases y : (walkP be k (gN be i)).contains i = true
          · rw [if_pos y, Int32.or_assoc, Int32.or_self]
          · rw [if_neg y]
        · rw [sI_k _ z, List.contains_cons, show (i == nd) = false from by simpa using z, Bool.false_or]
