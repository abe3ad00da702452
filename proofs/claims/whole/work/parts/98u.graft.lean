/-! TREES: the class grafts -/
abbrev GRel (σ : ax_S) (g : CG) (j : Nat) : Prop := PGr g j ∧ (∀ i, i < 2 * j - 1 → σ.1 73 i = eN (gN g.1 i)) ∧ (∀ k, 1 ≤ k → k < j → σ.1 74 (2 * k) = nI (gN g.2.1 (2 * k)) ∧ σ.1 75 (2 * k) = nI (gN g.2.2.1 (2 * k))) ∧ (∀ k, k < j - 1 → σ.1 77 k = nI (gN g.2.2.2 k)) ∧ σ.1 66 8 = nI (j - 1)
theorem s_leafOf (d : Nat) (σ : ax_S) {j : Nat} (h : j < 6) : cI sO d 142 [.int (nI j)] σ = some (nI (leafN j), σ) := by
  refine cI_ev mi_142 ((u_142 d σ _).trans ?_) rfl
  have : j = 0 ∨ j = 1 ∨ j = 2 ∨ j = 3 ∨ j = 4 ∨ j = 5 := by omega
  obtain q | q | q | q | q | q := this <;> rw [q] <;> rfl
/-- the place of a fork among those before -/
theorem s_place (d : Nat) (w1 w4 : Value) (h1 : c1 w1) (h4 : c1 w4) {nd fo n : Nat} (l : List Nat) (hl : l.length = n) (hn : n < 6) (hlt : ∀ k, k < n → gN l k < 99) (hnd : nd < 99) : ∀ m (σ : ax_S), m ≤ n → σ.1 66 8 = nI n → (∀ k, k < m → σ.1 77 k = nI (gN l k)) → (∀ k, m < k → k ≤ n → σ.1 77 k = nI (gN l (k - 1))) → ∃ τ, ev sO (d + 1) 146 104 [.ref 66, w1, .int (nI nd), .int (nI fo), w4, .int (nI m)] [] σ = some (none, τ) ∧ sm [66, 77] σ τ ∧ (∀ f, f ≠ 8 → τ.1 66 f = σ.1 66 f) ∧ τ.1 66 8 = nI (n + 1) ∧ ∀ k, k ≤ n → τ.1 77 k = nI (if k < plc nd l m then gN l k else if k = plc nd l m then fo else gN l (k - 1))
  | 0, σ, hm, h8, h77, h77b => by
    refine ⟨sI (sI σ 77 0 (nI fo)) 66 8 (nI (n + 1)), ?_, ((sm.rf _ _).set _ _ (by decide)).set _ _ (by decide), fun f hf => by rw [sI_k _ hf, sI_n _ _ (by decide)], sI_1 _ _ _ _, fun k hk => ?_⟩
    · rw [u_146_66p104 _ _ _ h1 _ _ _ h4, if_neg (show ¬ (0 : Int32) < nI 0 by decide), gd_t (nI_g (show 0 < 6 by omega) (by omega)), nI_c (by omega), sI_n (x := 66) _ _ (by decide), h8, nI_add1]
    · rw [sI_n _ _ (by decide)]
      unfold plc
      rw [if_neg (Nat.not_lt_zero k)]
      by_cases q : k = 0
      · rw [if_pos q, q, sI_1]
      · rw [if_neg q, sI_k _ q]
        exact h77b k (by omega) hk
  | m + 1, σ, hm, h8, h77, h77b => by
    have e1 : nI (m + 1) - 1 = nI m := nI_sub1 (X := m + 1) (by omega) (by omega)
    have g5 := nI_g (show m < 6 by omega) (by omega)
    have g6 := nI_g (show m + 1 < 6 by omega) (by omega)
    have hkm := h77 m (by omega)
    have key : σ.1 77 m = nI nd ↔ gN l m = nd := by
      rw [hkm]
      exact ⟨fun z => nI_inj (by have := hlt m (by omega); omega) (by omega) z, fun z => by rw [z]⟩
    rw [u_146_66p104 _ _ _ h1 _ _ _ h4, if_pos (show (0 : Int32) < nI (m + 1) from nI_lt (a := 0) (by omega) (by omega)), e1, gd_t g5, nI_c (show m < 2147483648 by omega)]
    by_cases q : gN l m = nd
    · rw [if_pos (key.mpr q), gd_t g6, nI_c (show m + 1 < 2147483648 by omega)]
      refine ⟨sI (sI σ 77 (m + 1) (nI fo)) 66 8 (nI (n + 1)), ?_, ((sm.rf _ _).set _ _ (by decide)).set _ _ (by decide), fun f hf => by rw [sI_k _ hf, sI_n _ _ (by decide)], sI_1 _ _ _ _, fun k hk => ?_⟩
      · rw [sI_n (x := 66) _ _ (by decide), h8, nI_add1]
      · rw [sI_n _ _ (by decide)]
        unfold plc
        rw [if_pos q]
        by_cases z : k = m + 1
        · rw [if_neg (by omega), if_pos z, z, sI_1]
        · rw [sI_k _ z]
          by_cases y : k < m + 1
          · rw [if_pos y]
            exact h77 k y
          · rw [if_neg y, if_neg z]
            exact h77b k (by omega) hk
    · rw [if_neg (fun z => q (key.mp z)), gd_t g5, gd_t g6, nI_c (show m + 1 < 2147483648 by omega), show nI (m + 1) + -1 = nI m from (Int32.sub_eq_add_neg (a := nI (m + 1)) (b := 1)).symm.trans e1]
      obtain ⟨τ, f1, f2, f3, f4, f5⟩ := s_place d w1 w4 h1 h4 l hl hn hlt hnd m (sI σ 77 (m + 1) (σ.1 77 m)) (by omega) (by rw [sI_n _ _ (by decide)]; exact h8) (fun k hk => by rw [sI_k _ (by omega)]; exact h77 k (by omega)) (fun k hk hk2 => by
        by_cases z : k = m + 1
        · rw [z, sI_1]
          exact hkm
        · rw [sI_k _ z]
          exact h77b k (by omega) hk2)
      refine ⟨τ, f1, ((sm.rf _ _).set _ _ (by decide)).tr f2, fun f hf => by rw [f3 f hf, sI_n _ _ (by decide)], f4, fun k hk => ?_⟩
      rw [f5 k hk, show plc nd l (m + 1) = plc nd l m from if_neg q]
