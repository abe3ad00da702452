/-! ONE KITCHEN, ONE DECK AS ANOTHER -/
theorem lt_st {x : ax_S} {f : ax_S → Option (Option Value × ax_S)} {P : ax_S → Prop} (h : ∀ y, y = x → ∃ τ, f y = some (none, τ) ∧ P τ) : ∃ τ, ax_lt x f = some (none, τ) ∧ P τ := h x rfl
theorem kcb_eq {σ τ : ax_S} {a b : Nat} (f1 : τ.1 a 1 = σ.1 b 1) (f6 : τ.1 a 6 = σ.1 b 6) (f11 : τ.1 a 11 = σ.1 b 11) (f12 : τ.1 a 12 = σ.1 b 12) (f13 : τ.1 a 13 = σ.1 b 13) (f14 : τ.1 a 14 = σ.1 b 14) (m : ∀ r k, r < 4 → k < 16 → τ.1 (a + 1 + r) k = σ.1 (b + 1 + r) k) (p : ∀ r k, r < 3 → k < 8 → τ.1 (a + 5 + r) k = σ.1 (b + 5 + r) k) (l : ∀ k, k < 8 → τ.1 (a + 8) k = σ.1 (b + 8) k) : kcb τ a = kcb σ b := by
  funext i
  unfold kcb
  by_cases c0 : i = 0
  · rw [if_pos c0, if_pos c0, f1]
  · rw [if_neg c0, if_neg c0]
    by_cases c1 : i = 1
    · rw [if_pos c1, if_pos c1, f6]
    · rw [if_neg c1, if_neg c1]
      by_cases c2 : i < 66
      · rw [if_pos c2, if_pos c2]
        exact m _ _ (by omega) (by omega)
      · rw [if_neg c2, if_neg c2]
        by_cases c3 : i < 90
        · rw [if_pos c3, if_pos c3]
          exact p _ _ (by omega) (by omega)
        · rw [if_neg c3, if_neg c3]
          by_cases c4 : i < 98
          · rw [if_pos c4, if_pos c4]
            exact l _ (by omega)
          · rw [if_neg c4, if_neg c4]
            by_cases c5 : i < 102
            · rw [if_pos c5, if_pos c5]
              have : i = 98 ∨ i = 99 ∨ i = 100 ∨ i = 101 := by omega
              obtain q | q | q | q := this
              · rw [q]; exact f11
              · rw [q]; exact f12
              · rw [q]; exact f13
              · rw [q]; exact f14
            · rw [if_neg c5, if_neg c5]
theorem s_kbe_23_8 (d : Nat) {σ : ax_S} (h : σ.1 8 0 = 0 ∨ σ.1 8 0 = 1) : ∃ τ, cV sO d 62 [.ref 23, .ref 8] σ = some τ ∧ sm [23, 24, 25, 26, 27, 28, 29, 30, 31] σ τ ∧ τ.1 23 0 = σ.1 8 0 ∧ kcb τ 23 = kcb σ 8 := by
  have e : ∃ τ, ev sO d 62 0 [.ref 23, .ref 8] [] σ = some (none, τ) ∧ (sm [23, 24, 25, 26, 27, 28, 29, 30, 31] σ τ ∧ τ.1 23 0 = σ.1 8 0 ∧ kcb τ 23 = kcb σ 8) := by
    rw [u_62_23_8, gd_t h]
    refine lt_st (fun s0 h0 => ?_)
    have m0 : sm [23] σ s0 := by
      rw [h0]
      exact ((((sm.rf _ _).set _ _ (by decide)).set _ _ (by decide)).set _ _ (by decide)).set _ _ (by decide)
    have f0 : s0.1 23 0 = σ.1 8 0 := by
      rw [h0]
      simp only [sI_1, sI_k, sI_n, ne_eq, Nat.reduceEqDiff, not_false_eq_true, reduceCtorEq]
    have f1 : s0.1 23 1 = σ.1 8 1 := by
      rw [h0]
      simp only [sI_1, sI_k, sI_n, ne_eq, Nat.reduceEqDiff, not_false_eq_true, reduceCtorEq]
    have f6 : s0.1 23 6 = σ.1 8 6 := by
      rw [h0]
      simp only [sI_1, sI_k, sI_n, ne_eq, Nat.reduceEqDiff, not_false_eq_true, reduceCtorEq]
    have f11 : s0.1 23 11 = σ.1 8 11 := by
      rw [h0]
      simp only [sI_1, sI_k, sI_n, ne_eq, Nat.reduceEqDiff, not_false_eq_true, reduceCtorEq]
    clear h0
    refine lt_st (fun s1 h1 => ?_)
    have m1 : sm [23] σ s1 := by
      rw [h1]
      exact ((m0.set _ _ (by decide)).set _ _ (by decide)).set _ _ (by decide)
    have o1 : s0.1 8 = σ.1 8 := m0.1 8 (by decide)
    have g0 : s1.1 23 0 = σ.1 8 0 := by
      rw [h1, sI_k _ (by decide), sI_k _ (by decide), sI_k _ (by decide)]
      exact f0
    have g1 : s1.1 23 1 = σ.1 8 1 := by
      rw [h1, sI_k _ (by decide), sI_k _ (by decide), sI_k _ (by decide)]
      exact f1
    have g6 : s1.1 23 6 = σ.1 8 6 := by
      rw [h1, sI_k _ (by decide), sI_k _ (by decide), sI_k _ (by decide)]
      exact f6
    have g11 : s1.1 23 11 = σ.1 8 11 := by
      rw [h1, sI_k _ (by decide), sI_k _ (by decide), sI_k _ (by decide)]
      exact f11
    have g12 : s1.1 23 12 = σ.1 8 12 := by
      rw [h1, sI_k _ (by decide), sI_k _ (by decide), sI_1, o1]
    have g13 : s1.1 23 13 = σ.1 8 13 := by
      rw [h1, sI_k _ (by decide), sI_1, sI_n _ _ (by decide), o1]
    have g14 : s1.1 23 14 = σ.1 8 14 := by
      rw [h1, sI_1, sI_n _ _ (by decide), sI_n _ _ (by decide), o1]
    clear h1 m0 f0 f1 f6 f11 o1
    have n1 : sm [23, 24, 25, 26, 27, 28, 29, 30, 31] σ s1 := m1.up (by decide)
    refine lt_st (fun s2 h2 => ?_)
    have n2 : sm [23, 24, 25, 26, 27, 28, 29, 30, 31] σ s2 := by
      rw [h2]
      exact n1.put _ (by decide)
    have v2 : ∀ k, k < 16 → s2.1 24 k = σ.1 9 k := fun k hk => by
      rw [h2, sR_1, n1.1 9 (by decide)]
      exact sb_cpy0 hk
    have w2 : ∀ x, x ≠ 24 → s2.1 x = s1.1 x := fun x hx => by
      rw [h2]
      exact sR_n _ hx
    clear h2
    refine lt_st (fun s3 h3 => ?_)
    have n3 : sm [23, 24, 25, 26, 27, 28, 29, 30, 31] σ s3 := by
      rw [h3]
      exact n2.put _ (by decide)
    have v3 : ∀ k, k < 16 → s3.1 25 k = σ.1 10 k := fun k hk => by
      rw [h3, sR_1, n2.1 10 (by decide)]
      exact sb_cpy0 hk
    have w3 : ∀ x, x ≠ 25 → s3.1 x = s2.1 x := fun x hx => by
      rw [h3]
      exact sR_n _ hx
    clear h3
    refine lt_st (fun s4 h4 => ?_)
    have n4 : sm [23, 24, 25, 26, 27, 28, 29, 30, 31] σ s4 := by
      rw [h4]
      exact n3.put _ (by decide)
    have v4 : ∀ k, k < 16 → s4.1 26 k = σ.1 11 k := fun k hk => by
      rw [h4, sR_1, n3.1 11 (by decide)]
      exact sb_cpy0 hk
    have w4 : ∀ x, x ≠ 26 → s4.1 x = s3.1 x := fun x hx => by
      rw [h4]
      exact sR_n _ hx
    clear h4
    refine lt_st (fun s5 h5 => ?_)
    have n5 : sm [23, 24, 25, 26, 27, 28, 29, 30, 31] σ s5 := by
      rw [h5]
      exact n4.put _ (by decide)
    have v5 : ∀ k, k < 16 → s5.1 27 k = σ.1 12 k := fun k hk => by
      rw [h5, sR_1, n4.1 12 (by decide)]
      exact sb_cpy0 hk
    have w5 : ∀ x, x ≠ 27 → s5.1 x = s4.1 x := fun x hx => by
      rw [h5]
      exact sR_n _ hx
    clear h5
    refine lt_st (fun s6 h6 => ?_)
    have n6 : sm [23, 24, 25, 26, 27, 28, 29, 30, 31] σ s6 := by
      rw [h6]
      exact n5.put _ (by decide)
    have v6 : ∀ k, k < 8 → s6.1 28 k = σ.1 13 k := fun k hk => by
      rw [h6, sR_1, n5.1 13 (by decide)]
      exact sb_cpy0 hk
    have w6 : ∀ x, x ≠ 28 → s6.1 x = s5.1 x := fun x hx => by
      rw [h6]
      exact sR_n _ hx
    clear h6
    refine lt_st (fun s7 h7 => ?_)
    have n7 : sm [23, 24, 25, 26, 27, 28, 29, 30, 31] σ s7 := by
      rw [h7]
      exact n6.put _ (by decide)
    have v7 : ∀ k, k < 8 → s7.1 29 k = σ.1 14 k := fun k hk => by
      rw [h7, sR_1, n6.1 14 (by decide)]
      exact sb_cpy0 hk
    have w7 : ∀ x, x ≠ 29 → s7.1 x = s6.1 x := fun x hx => by
      rw [h7]
      exact sR_n _ hx
    clear h7
    refine lt_st (fun s8 h8 => ?_)
    have n8 : sm [23, 24, 25, 26, 27, 28, 29, 30, 31] σ s8 := by
      rw [h8]
      exact n7.put _ (by decide)
    have v8 : ∀ k, k < 8 → s8.1 30 k = σ.1 15 k := fun k hk => by
      rw [h8, sR_1, n7.1 15 (by decide)]
      exact sb_cpy0 hk
    have w8 : ∀ x, x ≠ 30 → s8.1 x = s7.1 x := fun x hx => by
      rw [h8]
      exact sR_n _ hx
    clear h8
    refine lt_st (fun s9 h9 => ?_)
    have n9 : sm [23, 24, 25, 26, 27, 28, 29, 30, 31] σ s9 := by
      rw [h9]
      exact n8.put _ (by decide)
    have v9 : ∀ k, k < 8 → s9.1 31 k = σ.1 16 k := fun k hk => by
      rw [h9, sR_1, n8.1 16 (by decide)]
      exact sb_cpy0 hk
    have w9 : ∀ x, x ≠ 31 → s9.1 x = s8.1 x := fun x hx => by
      rw [h9]
      exact sR_n _ hx
    clear h9
    refine ⟨s9, rfl, n9, ?_, kcb_eq ?_ ?_ ?_ ?_ ?_ ?_ (fun r k hr hk => ?_) (fun r k hr hk => ?_) (fun k hk => ?_)⟩
    · rw [w9 23 (by decide), w8 23 (by decide), w7 23 (by decide), w6 23 (by decide), w5 23 (by decide), w4 23 (by decide), w3 23 (by decide), w2 23 (by decide)]
      exact g0
    · rw [w9 23 (by decide), w8 23 (by decide), w7 23 (by decide), w6 23 (by decide), w5 23 (by decide), w4 23 (by decide), w3 23 (by decide), w2 23 (by decide)]
      exact g1
    · rw [w9 23 (by decide), w8 23 (by decide), w7 23 (by decide), w6 23 (by decide), w5 23 (by decide), w4 23 (by decide), w3 23 (by decide), w2 23 (by decide)]
      exact g6
    · rw [w9 23 (by decide), w8 23 (by decide), w7 23 (by decide), w6 23 (by decide), w5 23 (by decide), w4 23 (by decide), w3 23 (by decide), w2 23 (by decide)]
      exact g11
    · rw [w9 23 (by decide), w8 23 (by decide), w7 23 (by decide), w6 23 (by decide), w5 23 (by decide), w4 23 (by decide), w3 23 (by decide), w2 23 (by decide)]
      exact g12
    · rw [w9 23 (by decide), w8 23 (by decide), w7 23 (by decide), w6 23 (by decide), w5 23 (by decide), w4 23 (by decide), w3 23 (by decide), w2 23 (by decide)]
      exact g13
    · rw [w9 23 (by decide), w8 23 (by decide), w7 23 (by decide), w6 23 (by decide), w5 23 (by decide), w4 23 (by decide), w3 23 (by decide), w2 23 (by decide)]
      exact g14
    · have : r = 0 ∨ r = 1 ∨ r = 2 ∨ r = 3 := by omega
      obtain rfl | rfl | rfl | rfl := this
      · show s9.1 24 k = σ.1 9 k
        rw [w9 24 (by decide), w8 24 (by decide), w7 24 (by decide), w6 24 (by decide), w5 24 (by decide), w4 24 (by decide), w3 24 (by decide)]
        exact v2 k hk
      · show s9.1 25 k = σ.1 10 k
        rw [w9 25 (by decide), w8 25 (by decide), w7 25 (by decide), w6 25 (by decide), w5 25 (by decide), w4 25 (by decide)]
        exact v3 k hk
      · show s9.1 26 k = σ.1 11 k
        rw [w9 26 (by decide), w8 26 (by decide), w7 26 (by decide), w6 26 (by decide), w5 26 (by decide)]
        exact v4 k hk
      · show s9.1 27 k = σ.1 12 k
        rw [w9 27 (by decide), w8 27 (by decide), w7 27 (by decide), w6 27 (by decide)]
        exact v5 k hk
    · have : r = 0 ∨ r = 1 ∨ r = 2 := by omega
      obtain rfl | rfl | rfl := this
      · show s9.1 28 k = σ.1 13 k
        rw [w9 28 (by decide), w8 28 (by decide), w7 28 (by decide)]
        exact v6 k hk
      · show s9.1 29 k = σ.1 14 k
        rw [w9 29 (by decide), w8 29 (by decide)]
        exact v7 k hk
      · show s9.1 30 k = σ.1 15 k
        rw [w9 30 (by decide)]
        exact v8 k hk
    · exact v9 k hk
  obtain ⟨τ, e1, e2⟩ := e
  exact ⟨τ, cV_ev mi_62 e1 rfl, e2⟩
theorem s_kbe_38_8 (d : Nat) {σ : ax_S} (h : σ.1 8 0 = 0 ∨ σ.1 8 0 = 1) : ∃ τ, cV sO d 62 [.ref 38, .ref 8] σ = some τ ∧ sm [38, 39, 40, 41, 42, 43, 44, 45, 46] σ τ ∧ τ.1 38 0 = σ.1 8 0 ∧ kcb τ 38 = kcb σ 8 := by
  have e : ∃ τ, ev sO d 62 0 [.ref 38, .ref 8] [] σ = some (none, τ) ∧ (sm [38, 39, 40, 41, 42, 43, 44, 45, 46] σ τ ∧ τ.1 38 0 = σ.1 8 0 ∧ kcb τ 38 = kcb σ 8) := by
    rw [u_62_38_8, gd_t h]
    refine lt_st (fun s0 h0 => ?_)
    have m0 : sm [38] σ s0 := by
      rw [h0]
      exact ((((sm.rf _ _).set _ _ (by decide)).set _ _ (by decide)).set _ _ (by decide)).set _ _ (by decide)
    have f0 : s0.1 38 0 = σ.1 8 0 := by
      rw [h0]
      simp only [sI_1, sI_k, sI_n, ne_eq, Nat.reduceEqDiff, not_false_eq_true, reduceCtorEq]
    have f1 : s0.1 38 1 = σ.1 8 1 := by
      rw [h0]
      simp only [sI_1, sI_k, sI_n, ne_eq, Nat.reduceEqDiff, not_false_eq_true, reduceCtorEq]
    have f6 : s0.1 38 6 = σ.1 8 6 := by
      rw [h0]
      simp only [sI_1, sI_k, sI_n, ne_eq, Nat.reduceEqDiff, not_false_eq_true, reduceCtorEq]
    have f11 : s0.1 38 11 = σ.1 8 11 := by
      rw [h0]
      simp only [sI_1, sI_k, sI_n, ne_eq, Nat.reduceEqDiff, not_false_eq_true, reduceCtorEq]
    clear h0
    refine lt_st (fun s1 h1 => ?_)
    have m1 : sm [38] σ s1 := by
      rw [h1]
      exact ((m0.set _ _ (by decide)).set _ _ (by decide)).set _ _ (by decide)
    have o1 : s0.1 8 = σ.1 8 := m0.1 8 (by decide)
    have g0 : s1.1 38 0 = σ.1 8 0 := by
      rw [h1, sI_k _ (by decide), sI_k _ (by decide), sI_k _ (by decide)]
      exact f0
    have g1 : s1.1 38 1 = σ.1 8 1 := by
      rw [h1, sI_k _ (by decide), sI_k _ (by decide), sI_k _ (by decide)]
      exact f1
    have g6 : s1.1 38 6 = σ.1 8 6 := by
      rw [h1, sI_k _ (by decide), sI_k _ (by decide), sI_k _ (by decide)]
      exact f6
    have g11 : s1.1 38 11 = σ.1 8 11 := by
      rw [h1, sI_k _ (by decide), sI_k _ (by decide), sI_k _ (by decide)]
      exact f11
    have g12 : s1.1 38 12 = σ.1 8 12 := by
      rw [h1, sI_k _ (by decide), sI_k _ (by decide), sI_1, o1]
    have g13 : s1.1 38 13 = σ.1 8 13 := by
      rw [h1, sI_k _ (by decide), sI_1, sI_n _ _ (by decide), o1]
    have g14 : s1.1 38 14 = σ.1 8 14 := by
      rw [h1, sI_1, sI_n _ _ (by decide), sI_n _ _ (by decide), o1]
    clear h1 m0 f0 f1 f6 f11 o1
    have n1 : sm [38, 39, 40, 41, 42, 43, 44, 45, 46] σ s1 := m1.up (by decide)
    refine lt_st (fun s2 h2 => ?_)
    have n2 : sm [38, 39, 40, 41, 42, 43, 44, 45, 46] σ s2 := by
      rw [h2]
      exact n1.put _ (by decide)
    have v2 : ∀ k, k < 16 → s2.1 39 k = σ.1 9 k := fun k hk => by
      rw [h2, sR_1, n1.1 9 (by decide)]
      exact sb_cpy0 hk
    have w2 : ∀ x, x ≠ 39 → s2.1 x = s1.1 x := fun x hx => by
      rw [h2]
      exact sR_n _ hx
    clear h2
    refine lt_st (fun s3 h3 => ?_)
    have n3 : sm [38, 39, 40, 41, 42, 43, 44, 45, 46] σ s3 := by
      rw [h3]
      exact n2.put _ (by decide)
    have v3 : ∀ k, k < 16 → s3.1 40 k = σ.1 10 k := fun k hk => by
      rw [h3, sR_1, n2.1 10 (by decide)]
      exact sb_cpy0 hk
    have w3 : ∀ x, x ≠ 40 → s3.1 x = s2.1 x := fun x hx => by
      rw [h3]
      exact sR_n _ hx
    clear h3
    refine lt_st (fun s4 h4 => ?_)
    have n4 : sm [38, 39, 40, 41, 42, 43, 44, 45, 46] σ s4 := by
      rw [h4]
      exact n3.put _ (by decide)
    have v4 : ∀ k, k < 16 → s4.1 41 k = σ.1 11 k := fun k hk => by
      rw [h4, sR_1, n3.1 11 (by decide)]
      exact sb_cpy0 hk
    have w4 : ∀ x, x ≠ 41 → s4.1 x = s3.1 x := fun x hx => by
      rw [h4]
      exact sR_n _ hx
    clear h4
    refine lt_st (fun s5 h5 => ?_)
    have n5 : sm [38, 39, 40, 41, 42, 43, 44, 45, 46] σ s5 := by
      rw [h5]
      exact n4.put _ (by decide)
    have v5 : ∀ k, k < 16 → s5.1 42 k = σ.1 12 k := fun k hk => by
      rw [h5, sR_1, n4.1 12 (by decide)]
      exact sb_cpy0 hk
    have w5 : ∀ x, x ≠ 42 → s5.1 x = s4.1 x := fun x hx => by
      rw [h5]
      exact sR_n _ hx
    clear h5
    refine lt_st (fun s6 h6 => ?_)
    have n6 : sm [38, 39, 40, 41, 42, 43, 44, 45, 46] σ s6 := by
      rw [h6]
      exact n5.put _ (by decide)
    have v6 : ∀ k, k < 8 → s6.1 43 k = σ.1 13 k := fun k hk => by
      rw [h6, sR_1, n5.1 13 (by decide)]
      exact sb_cpy0 hk
    have w6 : ∀ x, x ≠ 43 → s6.1 x = s5.1 x := fun x hx => by
      rw [h6]
      exact sR_n _ hx
    clear h6
    refine lt_st (fun s7 h7 => ?_)
    have n7 : sm [38, 39, 40, 41, 42, 43, 44, 45, 46] σ s7 := by
      rw [h7]
      exact n6.put _ (by decide)
    have v7 : ∀ k, k < 8 → s7.1 44 k = σ.1 14 k := fun k hk => by
      rw [h7, sR_1, n6.1 14 (by decide)]
      exact sb_cpy0 hk
    have w7 : ∀ x, x ≠ 44 → s7.1 x = s6.1 x := fun x hx => by
      rw [h7]
      exact sR_n _ hx
    clear h7
    refine lt_st (fun s8 h8 => ?_)
    have n8 : sm [38, 39, 40, 41, 42, 43, 44, 45, 46] σ s8 := by
      rw [h8]
      exact n7.put _ (by decide)
    have v8 : ∀ k, k < 8 → s8.1 45 k = σ.1 15 k := fun k hk => by
      rw [h8, sR_1, n7.1 15 (by decide)]
      exact sb_cpy0 hk
    have w8 : ∀ x, x ≠ 45 → s8.1 x = s7.1 x := fun x hx => by
      rw [h8]
      exact sR_n _ hx
    clear h8
    refine lt_st (fun s9 h9 => ?_)
    have n9 : sm [38, 39, 40, 41, 42, 43, 44, 45, 46] σ s9 := by
      rw [h9]
      exact n8.put _ (by decide)
    have v9 : ∀ k, k < 8 → s9.1 46 k = σ.1 16 k := fun k hk => by
      rw [h9, sR_1, n8.1 16 (by decide)]
      exact sb_cpy0 hk
    have w9 : ∀ x, x ≠ 46 → s9.1 x = s8.1 x := fun x hx => by
      rw [h9]
      exact sR_n _ hx
    clear h9
    refine ⟨s9, rfl, n9, ?_, kcb_eq ?_ ?_ ?_ ?_ ?_ ?_ (fun r k hr hk => ?_) (fun r k hr hk => ?_) (fun k hk => ?_)⟩
    · rw [w9 38 (by decide), w8 38 (by decide), w7 38 (by decide), w6 38 (by decide), w5 38 (by decide), w4 38 (by decide), w3 38 (by decide), w2 38 (by decide)]
      exact g0
    · rw [w9 38 (by decide), w8 38 (by decide), w7 38 (by decide), w6 38 (by decide), w5 38 (by decide), w4 38 (by decide), w3 38 (by decide), w2 38 (by decide)]
      exact g1
    · rw [w9 38 (by decide), w8 38 (by decide), w7 38 (by decide), w6 38 (by decide), w5 38 (by decide), w4 38 (by decide), w3 38 (by decide), w2 38 (by decide)]
      exact g6
    · rw [w9 38 (by decide), w8 38 (by decide), w7 38 (by decide), w6 38 (by decide), w5 38 (by decide), w4 38 (by decide), w3 38 (by decide), w2 38 (by decide)]
      exact g11
    · rw [w9 38 (by decide), w8 38 (by decide), w7 38 (by decide), w6 38 (by decide), w5 38 (by decide), w4 38 (by decide), w3 38 (by decide), w2 38 (by decide)]
      exact g12
    · rw [w9 38 (by decide), w8 38 (by decide), w7 38 (by decide), w6 38 (by decide), w5 38 (by decide), w4 38 (by decide), w3 38 (by decide), w2 38 (by decide)]
      exact g13
    · rw [w9 38 (by decide), w8 38 (by decide), w7 38 (by decide), w6 38 (by decide), w5 38 (by decide), w4 38 (by decide), w3 38 (by decide), w2 38 (by decide)]
      exact g14
    · have : r = 0 ∨ r = 1 ∨ r = 2 ∨ r = 3 := by omega
      obtain rfl | rfl | rfl | rfl := this
      · show s9.1 39 k = σ.1 9 k
        rw [w9 39 (by decide), w8 39 (by decide), w7 39 (by decide), w6 39 (by decide), w5 39 (by decide), w4 39 (by decide), w3 39 (by decide)]
        exact v2 k hk
      · show s9.1 40 k = σ.1 10 k
        rw [w9 40 (by decide), w8 40 (by decide), w7 40 (by decide), w6 40 (by decide), w5 40 (by decide), w4 40 (by decide)]
        exact v3 k hk
      · show s9.1 41 k = σ.1 11 k
        rw [w9 41 (by decide), w8 41 (by decide), w7 41 (by decide), w6 41 (by decide), w5 41 (by decide)]
        exact v4 k hk
      · show s9.1 42 k = σ.1 12 k
        rw [w9 42 (by decide), w8 42 (by decide), w7 42 (by decide), w6 42 (by decide)]
        exact v5 k hk
    · have : r = 0 ∨ r = 1 ∨ r = 2 := by omega
      obtain rfl | rfl | rfl := this
      · show s9.1 43 k = σ.1 13 k
        rw [w9 43 (by decide), w8 43 (by decide), w7 43 (by decide)]
        exact v6 k hk
      · show s9.1 44 k = σ.1 14 k
        rw [w9 44 (by decide), w8 44 (by decide)]
        exact v7 k hk
      · show s9.1 45 k = σ.1 15 k
        rw [w9 45 (by decide)]
        exact v8 k hk
    · exact v9 k hk
  obtain ⟨τ, e1, e2⟩ := e
  exact ⟨τ, cV_ev mi_62 e1 rfl, e2⟩
theorem s_kbe_8_23 (d : Nat) {σ : ax_S} (h : σ.1 23 0 = 0 ∨ σ.1 23 0 = 1) : ∃ τ, cV sO d 62 [.ref 8, .ref 23] σ = some τ ∧ sm [8, 9, 10, 11, 12, 13, 14, 15, 16] σ τ ∧ τ.1 8 0 = σ.1 23 0 ∧ kcb τ 8 = kcb σ 23 := by
  have e : ∃ τ, ev sO d 62 0 [.ref 8, .ref 23] [] σ = some (none, τ) ∧ (sm [8, 9, 10, 11, 12, 13, 14, 15, 16] σ τ ∧ τ.1 8 0 = σ.1 23 0 ∧ kcb τ 8 = kcb σ 23) := by
    rw [u_62_8_23, gd_t h]
    refine lt_st (fun s0 h0 => ?_)
    have m0 : sm [8] σ s0 := by
      rw [h0]
      exact ((((sm.rf _ _).set _ _ (by decide)).set _ _ (by decide)).set _ _ (by decide)).set _ _ (by decide)
    have f0 : s0.1 8 0 = σ.1 23 0 := by
      rw [h0]
      simp only [sI_1, sI_k, sI_n, ne_eq, Nat.reduceEqDiff, not_false_eq_true, reduceCtorEq]
    have f1 : s0.1 8 1 = σ.1 23 1 := by
      rw [h0]
      simp only [sI_1, sI_k, sI_n, ne_eq, Nat.reduceEqDiff, not_false_eq_true, reduceCtorEq]
    have f6 : s0.1 8 6 = σ.1 23 6 := by
      rw [h0]
      simp only [sI_1, sI_k, sI_n, ne_eq, Nat.reduceEqDiff, not_false_eq_true, reduceCtorEq]
    have f11 : s0.1 8 11 = σ.1 23 11 := by
      rw [h0]
      simp only [sI_1, sI_k, sI_n, ne_eq, Nat.reduceEqDiff, not_false_eq_true, reduceCtorEq]
    clear h0
    refine lt_st (fun s1 h1 => ?_)
    have m1 : sm [8] σ s1 := by
      rw [h1]
      exact ((m0.set _ _ (by decide)).set _ _ (by decide)).set _ _ (by decide)
    have o1 : s0.1 23 = σ.1 23 := m0.1 23 (by decide)
    have g0 : s1.1 8 0 = σ.1 23 0 := by
      rw [h1, sI_k _ (by decide), sI_k _ (by decide), sI_k _ (by decide)]
      exact f0
    have g1 : s1.1 8 1 = σ.1 23 1 := by
      rw [h1, sI_k _ (by decide), sI_k _ (by decide), sI_k _ (by decide)]
      exact f1
    have g6 : s1.1 8 6 = σ.1 23 6 := by
      rw [h1, sI_k _ (by decide), sI_k _ (by decide), sI_k _ (by decide)]
      exact f6
    have g11 : s1.1 8 11 = σ.1 23 11 := by
      rw [h1, sI_k _ (by decide), sI_k _ (by decide), sI_k _ (by decide)]
      exact f11
    have g12 : s1.1 8 12 = σ.1 23 12 := by
      rw [h1, sI_k _ (by decide), sI_k _ (by decide), sI_1, o1]
    have g13 : s1.1 8 13 = σ.1 23 13 := by
      rw [h1, sI_k _ (by decide), sI_1, sI_n _ _ (by decide), o1]
    have g14 : s1.1 8 14 = σ.1 23 14 := by
      rw [h1, sI_1, sI_n _ _ (by decide), sI_n _ _ (by decide), o1]
    clear h1 m0 f0 f1 f6 f11 o1
    have n1 : sm [8, 9, 10, 11, 12, 13, 14, 15, 16] σ s1 := m1.up (by decide)
    refine lt_st (fun s2 h2 => ?_)
    have n2 : sm [8, 9, 10, 11, 12, 13, 14, 15, 16] σ s2 := by
      rw [h2]
      exact n1.put _ (by decide)
    have v2 : ∀ k, k < 16 → s2.1 9 k = σ.1 24 k := fun k hk => by
      rw [h2, sR_1, n1.1 24 (by decide)]
      exact sb_cpy0 hk
    have w2 : ∀ x, x ≠ 9 → s2.1 x = s1.1 x := fun x hx => by
      rw [h2]
      exact sR_n _ hx
    clear h2
    refine lt_st (fun s3 h3 => ?_)
    have n3 : sm [8, 9, 10, 11, 12, 13, 14, 15, 16] σ s3 := by
      rw [h3]
      exact n2.put _ (by decide)
    have v3 : ∀ k, k < 16 → s3.1 10 k = σ.1 25 k := fun k hk => by
      rw [h3, sR_1, n2.1 25 (by decide)]
      exact sb_cpy0 hk
    have w3 : ∀ x, x ≠ 10 → s3.1 x = s2.1 x := fun x hx => by
      rw [h3]
      exact sR_n _ hx
    clear h3
    refine lt_st (fun s4 h4 => ?_)
    have n4 : sm [8, 9, 10, 11, 12, 13, 14, 15, 16] σ s4 := by
      rw [h4]
      exact n3.put _ (by decide)
    have v4 : ∀ k, k < 16 → s4.1 11 k = σ.1 26 k := fun k hk => by
      rw [h4, sR_1, n3.1 26 (by decide)]
      exact sb_cpy0 hk
    have w4 : ∀ x, x ≠ 11 → s4.1 x = s3.1 x := fun x hx => by
      rw [h4]
      exact sR_n _ hx
    clear h4
    refine lt_st (fun s5 h5 => ?_)
    have n5 : sm [8, 9, 10, 11, 12, 13, 14, 15, 16] σ s5 := by
      rw [h5]
      exact n4.put _ (by decide)
    have v5 : ∀ k, k < 16 → s5.1 12 k = σ.1 27 k := fun k hk => by
      rw [h5, sR_1, n4.1 27 (by decide)]
      exact sb_cpy0 hk
    have w5 : ∀ x, x ≠ 12 → s5.1 x = s4.1 x := fun x hx => by
      rw [h5]
      exact sR_n _ hx
    clear h5
    refine lt_st (fun s6 h6 => ?_)
    have n6 : sm [8, 9, 10, 11, 12, 13, 14, 15, 16] σ s6 := by
      rw [h6]
      exact n5.put _ (by decide)
    have v6 : ∀ k, k < 8 → s6.1 13 k = σ.1 28 k := fun k hk => by
      rw [h6, sR_1, n5.1 28 (by decide)]
      exact sb_cpy0 hk
    have w6 : ∀ x, x ≠ 13 → s6.1 x = s5.1 x := fun x hx => by
      rw [h6]
      exact sR_n _ hx
    clear h6
    refine lt_st (fun s7 h7 => ?_)
    have n7 : sm [8, 9, 10, 11, 12, 13, 14, 15, 16] σ s7 := by
      rw [h7]
      exact n6.put _ (by decide)
    have v7 : ∀ k, k < 8 → s7.1 14 k = σ.1 29 k := fun k hk => by
      rw [h7, sR_1, n6.1 29 (by decide)]
      exact sb_cpy0 hk
    have w7 : ∀ x, x ≠ 14 → s7.1 x = s6.1 x := fun x hx => by
      rw [h7]
      exact sR_n _ hx
    clear h7
    refine lt_st (fun s8 h8 => ?_)
    have n8 : sm [8, 9, 10, 11, 12, 13, 14, 15, 16] σ s8 := by
      rw [h8]
      exact n7.put _ (by decide)
    have v8 : ∀ k, k < 8 → s8.1 15 k = σ.1 30 k := fun k hk => by
      rw [h8, sR_1, n7.1 30 (by decide)]
      exact sb_cpy0 hk
    have w8 : ∀ x, x ≠ 15 → s8.1 x = s7.1 x := fun x hx => by
      rw [h8]
      exact sR_n _ hx
    clear h8
    refine lt_st (fun s9 h9 => ?_)
    have n9 : sm [8, 9, 10, 11, 12, 13, 14, 15, 16] σ s9 := by
      rw [h9]
      exact n8.put _ (by decide)
    have v9 : ∀ k, k < 8 → s9.1 16 k = σ.1 31 k := fun k hk => by
      rw [h9, sR_1, n8.1 31 (by decide)]
      exact sb_cpy0 hk
    have w9 : ∀ x, x ≠ 16 → s9.1 x = s8.1 x := fun x hx => by
      rw [h9]
      exact sR_n _ hx
    clear h9
    refine ⟨s9, rfl, n9, ?_, kcb_eq ?_ ?_ ?_ ?_ ?_ ?_ (fun r k hr hk => ?_) (fun r k hr hk => ?_) (fun k hk => ?_)⟩
    · rw [w9 8 (by decide), w8 8 (by decide), w7 8 (by decide), w6 8 (by decide), w5 8 (by decide), w4 8 (by decide), w3 8 (by decide), w2 8 (by decide)]
      exact g0
    · rw [w9 8 (by decide), w8 8 (by decide), w7 8 (by decide), w6 8 (by decide), w5 8 (by decide), w4 8 (by decide), w3 8 (by decide), w2 8 (by decide)]
      exact g1
    · rw [w9 8 (by decide), w8 8 (by decide), w7 8 (by decide), w6 8 (by decide), w5 8 (by decide), w4 8 (by decide), w3 8 (by decide), w2 8 (by decide)]
      exact g6
    · rw [w9 8 (by decide), w8 8 (by decide), w7 8 (by decide), w6 8 (by decide), w5 8 (by decide), w4 8 (by decide), w3 8 (by decide), w2 8 (by decide)]
      exact g11
    · rw [w9 8 (by decide), w8 8 (by decide), w7 8 (by decide), w6 8 (by decide), w5 8 (by decide), w4 8 (by decide), w3 8 (by decide), w2 8 (by decide)]
      exact g12
    · rw [w9 8 (by decide), w8 8 (by decide), w7 8 (by decide), w6 8 (by decide), w5 8 (by decide), w4 8 (by decide), w3 8 (by decide), w2 8 (by decide)]
      exact g13
    · rw [w9 8 (by decide), w8 8 (by decide), w7 8 (by decide), w6 8 (by decide), w5 8 (by decide), w4 8 (by decide), w3 8 (by decide), w2 8 (by decide)]
      exact g14
    · have : r = 0 ∨ r = 1 ∨ r = 2 ∨ r = 3 := by omega
      obtain rfl | rfl | rfl | rfl := this
      · show s9.1 9 k = σ.1 24 k
        rw [w9 9 (by decide), w8 9 (by decide), w7 9 (by decide), w6 9 (by decide), w5 9 (by decide), w4 9 (by decide), w3 9 (by decide)]
        exact v2 k hk
      · show s9.1 10 k = σ.1 25 k
        rw [w9 10 (by decide), w8 10 (by decide), w7 10 (by decide), w6 10 (by decide), w5 10 (by decide), w4 10 (by decide)]
        exact v3 k hk
      · show s9.1 11 k = σ.1 26 k
        rw [w9 11 (by decide), w8 11 (by decide), w7 11 (by decide), w6 11 (by decide), w5 11 (by decide)]
        exact v4 k hk
      · show s9.1 12 k = σ.1 27 k
        rw [w9 12 (by decide), w8 12 (by decide), w7 12 (by decide), w6 12 (by decide)]
        exact v5 k hk
    · have : r = 0 ∨ r = 1 ∨ r = 2 := by omega
      obtain rfl | rfl | rfl := this
      · show s9.1 13 k = σ.1 28 k
        rw [w9 13 (by decide), w8 13 (by decide), w7 13 (by decide)]
        exact v6 k hk
      · show s9.1 14 k = σ.1 29 k
        rw [w9 14 (by decide), w8 14 (by decide)]
        exact v7 k hk
      · show s9.1 15 k = σ.1 30 k
        rw [w9 15 (by decide)]
        exact v8 k hk
    · exact v9 k hk
  obtain ⟨τ, e1, e2⟩ := e
  exact ⟨τ, cV_ev mi_62 e1 rfl, e2⟩
theorem s_kbe_8_38 (d : Nat) {σ : ax_S} (h : σ.1 38 0 = 0 ∨ σ.1 38 0 = 1) : ∃ τ, cV sO d 62 [.ref 8, .ref 38] σ = some τ ∧ sm [8, 9, 10, 11, 12, 13, 14, 15, 16] σ τ ∧ τ.1 8 0 = σ.1 38 0 ∧ kcb τ 8 = kcb σ 38 := by
  have e : ∃ τ, ev sO d 62 0 [.ref 8, .ref 38] [] σ = some (none, τ) ∧ (sm [8, 9, 10, 11, 12, 13, 14, 15, 16] σ τ ∧ τ.1 8 0 = σ.1 38 0 ∧ kcb τ 8 = kcb σ 38) := by
    rw [u_62_8_38, gd_t h]
    refine lt_st (fun s0 h0 => ?_)
    have m0 : sm [8] σ s0 := by
      rw [h0]
      exact ((((sm.rf _ _).set _ _ (by decide)).set _ _ (by decide)).set _ _ (by decide)).set _ _ (by decide)
    have f0 : s0.1 8 0 = σ.1 38 0 := by
      rw [h0]
      simp only [sI_1, sI_k, sI_n, ne_eq, Nat.reduceEqDiff, not_false_eq_true, reduceCtorEq]
    have f1 : s0.1 8 1 = σ.1 38 1 := by
      rw [h0]
      simp only [sI_1, sI_k, sI_n, ne_eq, Nat.reduceEqDiff, not_false_eq_true, reduceCtorEq]
    have f6 : s0.1 8 6 = σ.1 38 6 := by
      rw [h0]
      simp only [sI_1, sI_k, sI_n, ne_eq, Nat.reduceEqDiff, not_false_eq_true, reduceCtorEq]
    have f11 : s0.1 8 11 = σ.1 38 11 := by
      rw [h0]
      simp only [sI_1, sI_k, sI_n, ne_eq, Nat.reduceEqDiff, not_false_eq_true, reduceCtorEq]
    clear h0
    refine lt_st (fun s1 h1 => ?_)
    have m1 : sm [8] σ s1 := by
      rw [h1]
      exact ((m0.set _ _ (by decide)).set _ _ (by decide)).set _ _ (by decide)
    have o1 : s0.1 38 = σ.1 38 := m0.1 38 (by decide)
    have g0 : s1.1 8 0 = σ.1 38 0 := by
      rw [h1, sI_k _ (by decide), sI_k _ (by decide), sI_k _ (by decide)]
      exact f0
    have g1 : s1.1 8 1 = σ.1 38 1 := by
      rw [h1, sI_k _ (by decide), sI_k _ (by decide), sI_k _ (by decide)]
      exact f1
    have g6 : s1.1 8 6 = σ.1 38 6 := by
      rw [h1, sI_k _ (by decide), sI_k _ (by decide), sI_k _ (by decide)]
      exact f6
    have g11 : s1.1 8 11 = σ.1 38 11 := by
      rw [h1, sI_k _ (by decide), sI_k _ (by decide), sI_k _ (by decide)]
      exact f11
    have g12 : s1.1 8 12 = σ.1 38 12 := by
      rw [h1, sI_k _ (by decide), sI_k _ (by decide), sI_1, o1]
    have g13 : s1.1 8 13 = σ.1 38 13 := by
      rw [h1, sI_k _ (by decide), sI_1, sI_n _ _ (by decide), o1]
    have g14 : s1.1 8 14 = σ.1 38 14 := by
      rw [h1, sI_1, sI_n _ _ (by decide), sI_n _ _ (by decide), o1]
    clear h1 m0 f0 f1 f6 f11 o1
    have n1 : sm [8, 9, 10, 11, 12, 13, 14, 15, 16] σ s1 := m1.up (by decide)
    refine lt_st (fun s2 h2 => ?_)
    have n2 : sm [8, 9, 10, 11, 12, 13, 14, 15, 16] σ s2 := by
      rw [h2]
      exact n1.put _ (by decide)
    have v2 : ∀ k, k < 16 → s2.1 9 k = σ.1 39 k := fun k hk => by
      rw [h2, sR_1, n1.1 39 (by decide)]
      exact sb_cpy0 hk
    have w2 : ∀ x, x ≠ 9 → s2.1 x = s1.1 x := fun x hx => by
      rw [h2]
      exact sR_n _ hx
    clear h2
    refine lt_st (fun s3 h3 => ?_)
    have n3 : sm [8, 9, 10, 11, 12, 13, 14, 15, 16] σ s3 := by
      rw [h3]
      exact n2.put _ (by decide)
    have v3 : ∀ k, k < 16 → s3.1 10 k = σ.1 40 k := fun k hk => by
      rw [h3, sR_1, n2.1 40 (by decide)]
      exact sb_cpy0 hk
    have w3 : ∀ x, x ≠ 10 → s3.1 x = s2.1 x := fun x hx => by
      rw [h3]
      exact sR_n _ hx
    clear h3
    refine lt_st (fun s4 h4 => ?_)
    have n4 : sm [8, 9, 10, 11, 12, 13, 14, 15, 16] σ s4 := by
      rw [h4]
      exact n3.put _ (by decide)
    have v4 : ∀ k, k < 16 → s4.1 11 k = σ.1 41 k := fun k hk => by
      rw [h4, sR_1, n3.1 41 (by decide)]
      exact sb_cpy0 hk
    have w4 : ∀ x, x ≠ 11 → s4.1 x = s3.1 x := fun x hx => by
      rw [h4]
      exact sR_n _ hx
    clear h4
    refine lt_st (fun s5 h5 => ?_)
    have n5 : sm [8, 9, 10, 11, 12, 13, 14, 15, 16] σ s5 := by
      rw [h5]
      exact n4.put _ (by decide)
    have v5 : ∀ k, k < 16 → s5.1 12 k = σ.1 42 k := fun k hk => by
      rw [h5, sR_1, n4.1 42 (by decide)]
      exact sb_cpy0 hk
    have w5 : ∀ x, x ≠ 12 → s5.1 x = s4.1 x := fun x hx => by
      rw [h5]
      exact sR_n _ hx
    clear h5
    refine lt_st (fun s6 h6 => ?_)
    have n6 : sm [8, 9, 10, 11, 12, 13, 14, 15, 16] σ s6 := by
      rw [h6]
      exact n5.put _ (by decide)
    have v6 : ∀ k, k < 8 → s6.1 13 k = σ.1 43 k := fun k hk => by
      rw [h6, sR_1, n5.1 43 (by decide)]
      exact sb_cpy0 hk
    have w6 : ∀ x, x ≠ 13 → s6.1 x = s5.1 x := fun x hx => by
      rw [h6]
      exact sR_n _ hx
    clear h6
    refine lt_st (fun s7 h7 => ?_)
    have n7 : sm [8, 9, 10, 11, 12, 13, 14, 15, 16] σ s7 := by
      rw [h7]
      exact n6.put _ (by decide)
    have v7 : ∀ k, k < 8 → s7.1 14 k = σ.1 44 k := fun k hk => by
      rw [h7, sR_1, n6.1 44 (by decide)]
      exact sb_cpy0 hk
    have w7 : ∀ x, x ≠ 14 → s7.1 x = s6.1 x := fun x hx => by
      rw [h7]
      exact sR_n _ hx
    clear h7
    refine lt_st (fun s8 h8 => ?_)
    have n8 : sm [8, 9, 10, 11, 12, 13, 14, 15, 16] σ s8 := by
      rw [h8]
      exact n7.put _ (by decide)
    have v8 : ∀ k, k < 8 → s8.1 15 k = σ.1 45 k := fun k hk => by
      rw [h8, sR_1, n7.1 45 (by decide)]
      exact sb_cpy0 hk
    have w8 : ∀ x, x ≠ 15 → s8.1 x = s7.1 x := fun x hx => by
      rw [h8]
      exact sR_n _ hx
    clear h8
    refine lt_st (fun s9 h9 => ?_)
    have n9 : sm [8, 9, 10, 11, 12, 13, 14, 15, 16] σ s9 := by
      rw [h9]
      exact n8.put _ (by decide)
    have v9 : ∀ k, k < 8 → s9.1 16 k = σ.1 46 k := fun k hk => by
      rw [h9, sR_1, n8.1 46 (by decide)]
      exact sb_cpy0 hk
    have w9 : ∀ x, x ≠ 16 → s9.1 x = s8.1 x := fun x hx => by
      rw [h9]
      exact sR_n _ hx
    clear h9
    refine ⟨s9, rfl, n9, ?_, kcb_eq ?_ ?_ ?_ ?_ ?_ ?_ (fun r k hr hk => ?_) (fun r k hr hk => ?_) (fun k hk => ?_)⟩
    · rw [w9 8 (by decide), w8 8 (by decide), w7 8 (by decide), w6 8 (by decide), w5 8 (by decide), w4 8 (by decide), w3 8 (by decide), w2 8 (by decide)]
      exact g0
    · rw [w9 8 (by decide), w8 8 (by decide), w7 8 (by decide), w6 8 (by decide), w5 8 (by decide), w4 8 (by decide), w3 8 (by decide), w2 8 (by decide)]
      exact g1
    · rw [w9 8 (by decide), w8 8 (by decide), w7 8 (by decide), w6 8 (by decide), w5 8 (by decide), w4 8 (by decide), w3 8 (by decide), w2 8 (by decide)]
      exact g6
    · rw [w9 8 (by decide), w8 8 (by decide), w7 8 (by decide), w6 8 (by decide), w5 8 (by decide), w4 8 (by decide), w3 8 (by decide), w2 8 (by decide)]
      exact g11
    · rw [w9 8 (by decide), w8 8 (by decide), w7 8 (by decide), w6 8 (by decide), w5 8 (by decide), w4 8 (by decide), w3 8 (by decide), w2 8 (by decide)]
      exact g12
    · rw [w9 8 (by decide), w8 8 (by decide), w7 8 (by decide), w6 8 (by decide), w5 8 (by decide), w4 8 (by decide), w3 8 (by decide), w2 8 (by decide)]
      exact g13
    · rw [w9 8 (by decide), w8 8 (by decide), w7 8 (by decide), w6 8 (by decide), w5 8 (by decide), w4 8 (by decide), w3 8 (by decide), w2 8 (by decide)]
      exact g14
    · have : r = 0 ∨ r = 1 ∨ r = 2 ∨ r = 3 := by omega
      obtain rfl | rfl | rfl | rfl := this
      · show s9.1 9 k = σ.1 39 k
        rw [w9 9 (by decide), w8 9 (by decide), w7 9 (by decide), w6 9 (by decide), w5 9 (by decide), w4 9 (by decide), w3 9 (by decide)]
        exact v2 k hk
      · show s9.1 10 k = σ.1 40 k
        rw [w9 10 (by decide), w8 10 (by decide), w7 10 (by decide), w6 10 (by decide), w5 10 (by decide), w4 10 (by decide)]
        exact v3 k hk
      · show s9.1 11 k = σ.1 41 k
        rw [w9 11 (by decide), w8 11 (by decide), w7 11 (by decide), w6 11 (by decide), w5 11 (by decide)]
        exact v4 k hk
      · show s9.1 12 k = σ.1 42 k
        rw [w9 12 (by decide), w8 12 (by decide), w7 12 (by decide), w6 12 (by decide)]
        exact v5 k hk
    · have : r = 0 ∨ r = 1 ∨ r = 2 := by omega
      obtain rfl | rfl | rfl := this
      · show s9.1 13 k = σ.1 43 k
        rw [w9 13 (by decide), w8 13 (by decide), w7 13 (by decide)]
        exact v6 k hk
      · show s9.1 14 k = σ.1 44 k
        rw [w9 14 (by decide), w8 14 (by decide)]
        exact v7 k hk
      · show s9.1 15 k = σ.1 45 k
        rw [w9 15 (by decide)]
        exact v8 k hk
    · exact v9 k hk
  obtain ⟨τ, e1, e2⟩ := e
  exact ⟨τ, cV_ev mi_62 e1 rfl, e2⟩
theorem s_kbe_8_52 (d : Nat) {σ : ax_S} (h : σ.1 52 0 = 0 ∨ σ.1 52 0 = 1) : ∃ τ, cV sO d 62 [.ref 8, .ref 52] σ = some τ ∧ sm [8, 9, 10, 11, 12, 13, 14, 15, 16] σ τ ∧ τ.1 8 0 = σ.1 52 0 ∧ kcb τ 8 = kcb σ 52 := by
  have e : ∃ τ, ev sO d 62 0 [.ref 8, .ref 52] [] σ = some (none, τ) ∧ (sm [8, 9, 10, 11, 12, 13, 14, 15, 16] σ τ ∧ τ.1 8 0 = σ.1 52 0 ∧ kcb τ 8 = kcb σ 52) := by
    rw [u_62_8_52, gd_t h]
    refine lt_st (fun s0 h0 => ?_)
    have m0 : sm [8] σ s0 := by
      rw [h0]
      exact ((((sm.rf _ _).set _ _ (by decide)).set _ _ (by decide)).set _ _ (by decide)).set _ _ (by decide)
    have f0 : s0.1 8 0 = σ.1 52 0 := by
      rw [h0]
      simp only [sI_1, sI_k, sI_n, ne_eq, Nat.reduceEqDiff, not_false_eq_true, reduceCtorEq]
    have f1 : s0.1 8 1 = σ.1 52 1 := by
      rw [h0]
      simp only [sI_1, sI_k, sI_n, ne_eq, Nat.reduceEqDiff, not_false_eq_true, reduceCtorEq]
    have f6 : s0.1 8 6 = σ.1 52 6 := by
      rw [h0]
      simp only [sI_1, sI_k, sI_n, ne_eq, Nat.reduceEqDiff, not_false_eq_true, reduceCtorEq]
    have f11 : s0.1 8 11 = σ.1 52 11 := by
      rw [h0]
      simp only [sI_1, sI_k, sI_n, ne_eq, Nat.reduceEqDiff, not_false_eq_true, reduceCtorEq]
    clear h0
    refine lt_st (fun s1 h1 => ?_)
    have m1 : sm [8] σ s1 := by
      rw [h1]
      exact ((m0.set _ _ (by decide)).set _ _ (by decide)).set _ _ (by decide)
    have o1 : s0.1 52 = σ.1 52 := m0.1 52 (by decide)
    have g0 : s1.1 8 0 = σ.1 52 0 := by
      rw [h1, sI_k _ (by decide), sI_k _ (by decide), sI_k _ (by decide)]
      exact f0
    have g1 : s1.1 8 1 = σ.1 52 1 := by
      rw [h1, sI_k _ (by decide), sI_k _ (by decide), sI_k _ (by decide)]
      exact f1
    have g6 : s1.1 8 6 = σ.1 52 6 := by
      rw [h1, sI_k _ (by decide), sI_k _ (by decide), sI_k _ (by decide)]
      exact f6
    have g11 : s1.1 8 11 = σ.1 52 11 := by
      rw [h1, sI_k _ (by decide), sI_k _ (by decide), sI_k _ (by decide)]
      exact f11
    have g12 : s1.1 8 12 = σ.1 52 12 := by
      rw [h1, sI_k _ (by decide), sI_k _ (by decide), sI_1, o1]
    have g13 : s1.1 8 13 = σ.1 52 13 := by
      rw [h1, sI_k _ (by decide), sI_1, sI_n _ _ (by decide), o1]
    have g14 : s1.1 8 14 = σ.1 52 14 := by
      rw [h1, sI_1, sI_n _ _ (by decide), sI_n _ _ (by decide), o1]
    clear h1 m0 f0 f1 f6 f11 o1
    have n1 : sm [8, 9, 10, 11, 12, 13, 14, 15, 16] σ s1 := m1.up (by decide)
    refine lt_st (fun s2 h2 => ?_)
    have n2 : sm [8, 9, 10, 11, 12, 13, 14, 15, 16] σ s2 := by
      rw [h2]
      exact n1.put _ (by decide)
    have v2 : ∀ k, k < 16 → s2.1 9 k = σ.1 53 k := fun k hk => by
      rw [h2, sR_1, n1.1 53 (by decide)]
      exact sb_cpy0 hk
    have w2 : ∀ x, x ≠ 9 → s2.1 x = s1.1 x := fun x hx => by
      rw [h2]
      exact sR_n _ hx
    clear h2
    refine lt_st (fun s3 h3 => ?_)
    have n3 : sm [8, 9, 10, 11, 12, 13, 14, 15, 16] σ s3 := by
      rw [h3]
      exact n2.put _ (by decide)
    have v3 : ∀ k, k < 16 → s3.1 10 k = σ.1 54 k := fun k hk => by
      rw [h3, sR_1, n2.1 54 (by decide)]
      exact sb_cpy0 hk
    have w3 : ∀ x, x ≠ 10 → s3.1 x = s2.1 x := fun x hx => by
      rw [h3]
      exact sR_n _ hx
    clear h3
    refine lt_st (fun s4 h4 => ?_)
    have n4 : sm [8, 9, 10, 11, 12, 13, 14, 15, 16] σ s4 := by
      rw [h4]
      exact n3.put _ (by decide)
    have v4 : ∀ k, k < 16 → s4.1 11 k = σ.1 55 k := fun k hk => by
      rw [h4, sR_1, n3.1 55 (by decide)]
      exact sb_cpy0 hk
    have w4 : ∀ x, x ≠ 11 → s4.1 x = s3.1 x := fun x hx => by
      rw [h4]
      exact sR_n _ hx
    clear h4
    refine lt_st (fun s5 h5 => ?_)
    have n5 : sm [8, 9, 10, 11, 12, 13, 14, 15, 16] σ s5 := by
      rw [h5]
      exact n4.put _ (by decide)
    have v5 : ∀ k, k < 16 → s5.1 12 k = σ.1 56 k := fun k hk => by
      rw [h5, sR_1, n4.1 56 (by decide)]
      exact sb_cpy0 hk
    have w5 : ∀ x, x ≠ 12 → s5.1 x = s4.1 x := fun x hx => by
      rw [h5]
      exact sR_n _ hx
    clear h5
    refine lt_st (fun s6 h6 => ?_)
    have n6 : sm [8, 9, 10, 11, 12, 13, 14, 15, 16] σ s6 := by
      rw [h6]
      exact n5.put _ (by decide)
    have v6 : ∀ k, k < 8 → s6.1 13 k = σ.1 57 k := fun k hk => by
      rw [h6, sR_1, n5.1 57 (by decide)]
      exact sb_cpy0 hk
    have w6 : ∀ x, x ≠ 13 → s6.1 x = s5.1 x := fun x hx => by
      rw [h6]
      exact sR_n _ hx
    clear h6
    refine lt_st (fun s7 h7 => ?_)
    have n7 : sm [8, 9, 10, 11, 12, 13, 14, 15, 16] σ s7 := by
      rw [h7]
      exact n6.put _ (by decide)
    have v7 : ∀ k, k < 8 → s7.1 14 k = σ.1 58 k := fun k hk => by
      rw [h7, sR_1, n6.1 58 (by decide)]
      exact sb_cpy0 hk
    have w7 : ∀ x, x ≠ 14 → s7.1 x = s6.1 x := fun x hx => by
      rw [h7]
      exact sR_n _ hx
    clear h7
    refine lt_st (fun s8 h8 => ?_)
    have n8 : sm [8, 9, 10, 11, 12, 13, 14, 15, 16] σ s8 := by
      rw [h8]
      exact n7.put _ (by decide)
    have v8 : ∀ k, k < 8 → s8.1 15 k = σ.1 59 k := fun k hk => by
      rw [h8, sR_1, n7.1 59 (by decide)]
      exact sb_cpy0 hk
    have w8 : ∀ x, x ≠ 15 → s8.1 x = s7.1 x := fun x hx => by
      rw [h8]
      exact sR_n _ hx
    clear h8
    refine lt_st (fun s9 h9 => ?_)
    have n9 : sm [8, 9, 10, 11, 12, 13, 14, 15, 16] σ s9 := by
      rw [h9]
      exact n8.put _ (by decide)
    have v9 : ∀ k, k < 8 → s9.1 16 k = σ.1 60 k := fun k hk => by
      rw [h9, sR_1, n8.1 60 (by decide)]
      exact sb_cpy0 hk
    have w9 : ∀ x, x ≠ 16 → s9.1 x = s8.1 x := fun x hx => by
      rw [h9]
      exact sR_n _ hx
    clear h9
    refine ⟨s9, rfl, n9, ?_, kcb_eq ?_ ?_ ?_ ?_ ?_ ?_ (fun r k hr hk => ?_) (fun r k hr hk => ?_) (fun k hk => ?_)⟩
    · rw [w9 8 (by decide), w8 8 (by decide), w7 8 (by decide), w6 8 (by decide), w5 8 (by decide), w4 8 (by decide), w3 8 (by decide), w2 8 (by decide)]
      exact g0
    · rw [w9 8 (by decide), w8 8 (by decide), w7 8 (by decide), w6 8 (by decide), w5 8 (by decide), w4 8 (by decide), w3 8 (by decide), w2 8 (by decide)]
      exact g1
    · rw [w9 8 (by decide), w8 8 (by decide), w7 8 (by decide), w6 8 (by decide), w5 8 (by decide), w4 8 (by decide), w3 8 (by decide), w2 8 (by decide)]
      exact g6
    · rw [w9 8 (by decide), w8 8 (by decide), w7 8 (by decide), w6 8 (by decide), w5 8 (by decide), w4 8 (by decide), w3 8 (by decide), w2 8 (by decide)]
      exact g11
    · rw [w9 8 (by decide), w8 8 (by decide), w7 8 (by decide), w6 8 (by decide), w5 8 (by decide), w4 8 (by decide), w3 8 (by decide), w2 8 (by decide)]
      exact g12
    · rw [w9 8 (by decide), w8 8 (by decide), w7 8 (by decide), w6 8 (by decide), w5 8 (by decide), w4 8 (by decide), w3 8 (by decide), w2 8 (by decide)]
      exact g13
    · rw [w9 8 (by decide), w8 8 (by decide), w7 8 (by decide), w6 8 (by decide), w5 8 (by decide), w4 8 (by decide), w3 8 (by decide), w2 8 (by decide)]
      exact g14
    · have : r = 0 ∨ r = 1 ∨ r = 2 ∨ r = 3 := by omega
      obtain rfl | rfl | rfl | rfl := this
      · show s9.1 9 k = σ.1 53 k
        rw [w9 9 (by decide), w8 9 (by decide), w7 9 (by decide), w6 9 (by decide), w5 9 (by decide), w4 9 (by decide), w3 9 (by decide)]
        exact v2 k hk
      · show s9.1 10 k = σ.1 54 k
        rw [w9 10 (by decide), w8 10 (by decide), w7 10 (by decide), w6 10 (by decide), w5 10 (by decide), w4 10 (by decide)]
        exact v3 k hk
      · show s9.1 11 k = σ.1 55 k
        rw [w9 11 (by decide), w8 11 (by decide), w7 11 (by decide), w6 11 (by decide), w5 11 (by decide)]
        exact v4 k hk
      · show s9.1 12 k = σ.1 56 k
        rw [w9 12 (by decide), w8 12 (by decide), w7 12 (by decide), w6 12 (by decide)]
        exact v5 k hk
    · have : r = 0 ∨ r = 1 ∨ r = 2 := by omega
      obtain rfl | rfl | rfl := this
      · show s9.1 13 k = σ.1 57 k
        rw [w9 13 (by decide), w8 13 (by decide), w7 13 (by decide)]
        exact v6 k hk
      · show s9.1 14 k = σ.1 58 k
        rw [w9 14 (by decide), w8 14 (by decide)]
        exact v7 k hk
      · show s9.1 15 k = σ.1 59 k
        rw [w9 15 (by decide)]
        exact v8 k hk
    · exact v9 k hk
  obtain ⟨τ, e1, e2⟩ := e
  exact ⟨τ, cV_ev mi_62 e1 rfl, e2⟩
theorem s_dbe_32_17 (d : Nat) (σ : ax_S) : ∃ τ, cV sO d 176 [.ref 32, .ref 17] σ = some τ ∧ sm [32, 33, 34, 35, 36] σ τ ∧ τ.1 32 0 = σ.1 17 0 ∧ (∀ j, j < 12 → τ.1 33 j = σ.1 18 j) ∧ (∀ j, j < 12 → τ.1 34 j = σ.1 19 j) ∧ (∀ j, j < 12 → τ.1 35 j = σ.1 20 j) ∧ (∀ j, j < 132 → τ.1 36 j = σ.1 21 j) := by
  have e : ∃ τ, ev sO d 176 0 [.ref 32, .ref 17] [] σ = some (none, τ) ∧ (sm [32, 33, 34, 35, 36] σ τ ∧ τ.1 32 0 = σ.1 17 0 ∧ (∀ j, j < 12 → τ.1 33 j = σ.1 18 j) ∧ (∀ j, j < 12 → τ.1 34 j = σ.1 19 j) ∧ (∀ j, j < 12 → τ.1 35 j = σ.1 20 j) ∧ (∀ j, j < 132 → τ.1 36 j = σ.1 21 j)) := by
    rw [u_176_32_17]
    have n1 : sm [32, 33, 34, 35, 36] σ (sI σ 32 0 (σ.1 17 0)) := (sm.rf _ _).set _ _ (by decide)
    have g0 : (sI σ 32 0 (σ.1 17 0)).1 32 0 = σ.1 17 0 := sI_1 _ _ _ _
    generalize sI σ 32 0 (σ.1 17 0) = s1 at n1 g0 ⊢
    refine lt_st (fun s2 h2 => ?_)
    have n2 : sm [32, 33, 34, 35, 36] σ s2 := by
      rw [h2]
      exact n1.put _ (by decide)
    have v2 : ∀ k, k < 12 → s2.1 33 k = σ.1 18 k := fun k hk => by
      rw [h2, sR_1, n1.1 18 (by decide)]
      exact sb_cpy0 hk
    have w2 : ∀ x, x ≠ 33 → s2.1 x = s1.1 x := fun x hx => by
      rw [h2]
      exact sR_n _ hx
    clear h2
    refine lt_st (fun s3 h3 => ?_)
    have n3 : sm [32, 33, 34, 35, 36] σ s3 := by
      rw [h3]
      exact n2.put _ (by decide)
    have v3 : ∀ k, k < 12 → s3.1 34 k = σ.1 19 k := fun k hk => by
      rw [h3, sR_1, n2.1 19 (by decide)]
      exact sb_cpy0 hk
    have w3 : ∀ x, x ≠ 34 → s3.1 x = s2.1 x := fun x hx => by
      rw [h3]
      exact sR_n _ hx
    clear h3
    refine lt_st (fun s4 h4 => ?_)
    have n4 : sm [32, 33, 34, 35, 36] σ s4 := by
      rw [h4]
      exact n3.put _ (by decide)
    have v4 : ∀ k, k < 12 → s4.1 35 k = σ.1 20 k := fun k hk => by
      rw [h4, sR_1, n3.1 20 (by decide)]
      exact sb_cpy0 hk
    have w4 : ∀ x, x ≠ 35 → s4.1 x = s3.1 x := fun x hx => by
      rw [h4]
      exact sR_n _ hx
    clear h4
    refine lt_st (fun s5 h5 => ?_)
    have n5 : sm [32, 33, 34, 35, 36] σ s5 := by
      rw [h5]
      exact n4.put _ (by decide)
    have v5 : ∀ k, k < 132 → s5.1 36 k = σ.1 21 k := fun k hk => by
      rw [h5, sR_1, n4.1 21 (by decide)]
      exact sb_cpy0 hk
    have w5 : ∀ x, x ≠ 36 → s5.1 x = s4.1 x := fun x hx => by
      rw [h5]
      exact sR_n _ hx
    clear h5
    refine ⟨s5, rfl, n5, ?_, fun k hk => ?_, fun k hk => ?_, fun k hk => ?_, v5⟩
    · rw [w5 32 (by decide), w4 32 (by decide), w3 32 (by decide), w2 32 (by decide)]
      exact g0
    · rw [w5 33 (by decide), w4 33 (by decide), w3 33 (by decide)]
      exact v2 k hk
    · rw [w5 34 (by decide), w4 34 (by decide)]
      exact v3 k hk
    · rw [w5 35 (by decide)]
      exact v4 k hk
  obtain ⟨τ, e1, e2⟩ := e
  exact ⟨τ, cV_ev mi_176 e1 rfl, e2⟩
theorem s_dbe_47_17 (d : Nat) (σ : ax_S) : ∃ τ, cV sO d 176 [.ref 47, .ref 17] σ = some τ ∧ sm [47, 48, 49, 50, 51] σ τ ∧ τ.1 47 0 = σ.1 17 0 ∧ (∀ j, j < 12 → τ.1 48 j = σ.1 18 j) ∧ (∀ j, j < 12 → τ.1 49 j = σ.1 19 j) ∧ (∀ j, j < 12 → τ.1 50 j = σ.1 20 j) ∧ (∀ j, j < 132 → τ.1 51 j = σ.1 21 j) := by
  have e : ∃ τ, ev sO d 176 0 [.ref 47, .ref 17] [] σ = some (none, τ) ∧ (sm [47, 48, 49, 50, 51] σ τ ∧ τ.1 47 0 = σ.1 17 0 ∧ (∀ j, j < 12 → τ.1 48 j = σ.1 18 j) ∧ (∀ j, j < 12 → τ.1 49 j = σ.1 19 j) ∧ (∀ j, j < 12 → τ.1 50 j = σ.1 20 j) ∧ (∀ j, j < 132 → τ.1 51 j = σ.1 21 j)) := by
    rw [u_176_47_17]
    have n1 : sm [47, 48, 49, 50, 51] σ (sI σ 47 0 (σ.1 17 0)) := (sm.rf _ _).set _ _ (by decide)
    have g0 : (sI σ 47 0 (σ.1 17 0)).1 47 0 = σ.1 17 0 := sI_1 _ _ _ _
    generalize sI σ 47 0 (σ.1 17 0) = s1 at n1 g0 ⊢
    refine lt_st (fun s2 h2 => ?_)
    have n2 : sm [47, 48, 49, 50, 51] σ s2 := by
      rw [h2]
      exact n1.put _ (by decide)
    have v2 : ∀ k, k < 12 → s2.1 48 k = σ.1 18 k := fun k hk => by
      rw [h2, sR_1, n1.1 18 (by decide)]
      exact sb_cpy0 hk
    have w2 : ∀ x, x ≠ 48 → s2.1 x = s1.1 x := fun x hx => by
      rw [h2]
      exact sR_n _ hx
    clear h2
    refine lt_st (fun s3 h3 => ?_)
    have n3 : sm [47, 48, 49, 50, 51] σ s3 := by
      rw [h3]
      exact n2.put _ (by decide)
    have v3 : ∀ k, k < 12 → s3.1 49 k = σ.1 19 k := fun k hk => by
      rw [h3, sR_1, n2.1 19 (by decide)]
      exact sb_cpy0 hk
    have w3 : ∀ x, x ≠ 49 → s3.1 x = s2.1 x := fun x hx => by
      rw [h3]
      exact sR_n _ hx
    clear h3
    refine lt_st (fun s4 h4 => ?_)
    have n4 : sm [47, 48, 49, 50, 51] σ s4 := by
      rw [h4]
      exact n3.put _ (by decide)
    have v4 : ∀ k, k < 12 → s4.1 50 k = σ.1 20 k := fun k hk => by
      rw [h4, sR_1, n3.1 20 (by decide)]
      exact sb_cpy0 hk
    have w4 : ∀ x, x ≠ 50 → s4.1 x = s3.1 x := fun x hx => by
      rw [h4]
      exact sR_n _ hx
    clear h4
    refine lt_st (fun s5 h5 => ?_)
    have n5 : sm [47, 48, 49, 50, 51] σ s5 := by
      rw [h5]
      exact n4.put _ (by decide)
    have v5 : ∀ k, k < 132 → s5.1 51 k = σ.1 21 k := fun k hk => by
      rw [h5, sR_1, n4.1 21 (by decide)]
      exact sb_cpy0 hk
    have w5 : ∀ x, x ≠ 51 → s5.1 x = s4.1 x := fun x hx => by
      rw [h5]
      exact sR_n _ hx
    clear h5
    refine ⟨s5, rfl, n5, ?_, fun k hk => ?_, fun k hk => ?_, fun k hk => ?_, v5⟩
    · rw [w5 47 (by decide), w4 47 (by decide), w3 47 (by decide), w2 47 (by decide)]
      exact g0
    · rw [w5 48 (by decide), w4 48 (by decide), w3 48 (by decide)]
      exact v2 k hk
    · rw [w5 49 (by decide), w4 49 (by decide)]
      exact v3 k hk
    · rw [w5 50 (by decide)]
      exact v4 k hk
  obtain ⟨τ, e1, e2⟩ := e
  exact ⟨τ, cV_ev mi_176 e1 rfl, e2⟩
theorem s_dbe_17_32 (d : Nat) (σ : ax_S) : ∃ τ, cV sO d 176 [.ref 17, .ref 32] σ = some τ ∧ sm [17, 18, 19, 20, 21] σ τ ∧ τ.1 17 0 = σ.1 32 0 ∧ (∀ j, j < 12 → τ.1 18 j = σ.1 33 j) ∧ (∀ j, j < 12 → τ.1 19 j = σ.1 34 j) ∧ (∀ j, j < 12 → τ.1 20 j = σ.1 35 j) ∧ (∀ j, j < 132 → τ.1 21 j = σ.1 36 j) := by
  have e : ∃ τ, ev sO d 176 0 [.ref 17, .ref 32] [] σ = some (none, τ) ∧ (sm [17, 18, 19, 20, 21] σ τ ∧ τ.1 17 0 = σ.1 32 0 ∧ (∀ j, j < 12 → τ.1 18 j = σ.1 33 j) ∧ (∀ j, j < 12 → τ.1 19 j = σ.1 34 j) ∧ (∀ j, j < 12 → τ.1 20 j = σ.1 35 j) ∧ (∀ j, j < 132 → τ.1 21 j = σ.1 36 j)) := by
    rw [u_176_17_32]
    have n1 : sm [17, 18, 19, 20, 21] σ (sI σ 17 0 (σ.1 32 0)) := (sm.rf _ _).set _ _ (by decide)
    have g0 : (sI σ 17 0 (σ.1 32 0)).1 17 0 = σ.1 32 0 := sI_1 _ _ _ _
    generalize sI σ 17 0 (σ.1 32 0) = s1 at n1 g0 ⊢
    refine lt_st (fun s2 h2 => ?_)
    have n2 : sm [17, 18, 19, 20, 21] σ s2 := by
      rw [h2]
      exact n1.put _ (by decide)
    have v2 : ∀ k, k < 12 → s2.1 18 k = σ.1 33 k := fun k hk => by
      rw [h2, sR_1, n1.1 33 (by decide)]
      exact sb_cpy0 hk
    have w2 : ∀ x, x ≠ 18 → s2.1 x = s1.1 x := fun x hx => by
      rw [h2]
      exact sR_n _ hx
    clear h2
    refine lt_st (fun s3 h3 => ?_)
    have n3 : sm [17, 18, 19, 20, 21] σ s3 := by
      rw [h3]
      exact n2.put _ (by decide)
    have v3 : ∀ k, k < 12 → s3.1 19 k = σ.1 34 k := fun k hk => by
      rw [h3, sR_1, n2.1 34 (by decide)]
      exact sb_cpy0 hk
    have w3 : ∀ x, x ≠ 19 → s3.1 x = s2.1 x := fun x hx => by
      rw [h3]
      exact sR_n _ hx
    clear h3
    refine lt_st (fun s4 h4 => ?_)
    have n4 : sm [17, 18, 19, 20, 21] σ s4 := by
      rw [h4]
      exact n3.put _ (by decide)
    have v4 : ∀ k, k < 12 → s4.1 20 k = σ.1 35 k := fun k hk => by
      rw [h4, sR_1, n3.1 35 (by decide)]
      exact sb_cpy0 hk
    have w4 : ∀ x, x ≠ 20 → s4.1 x = s3.1 x := fun x hx => by
      rw [h4]
      exact sR_n _ hx
    clear h4
    refine lt_st (fun s5 h5 => ?_)
    have n5 : sm [17, 18, 19, 20, 21] σ s5 := by
      rw [h5]
      exact n4.put _ (by decide)
    have v5 : ∀ k, k < 132 → s5.1 21 k = σ.1 36 k := fun k hk => by
      rw [h5, sR_1, n4.1 36 (by decide)]
      exact sb_cpy0 hk
    have w5 : ∀ x, x ≠ 21 → s5.1 x = s4.1 x := fun x hx => by
      rw [h5]
      exact sR_n _ hx
    clear h5
    refine ⟨s5, rfl, n5, ?_, fun k hk => ?_, fun k hk => ?_, fun k hk => ?_, v5⟩
    · rw [w5 17 (by decide), w4 17 (by decide), w3 17 (by decide), w2 17 (by decide)]
      exact g0
    · rw [w5 18 (by decide), w4 18 (by decide), w3 18 (by decide)]
      exact v2 k hk
    · rw [w5 19 (by decide), w4 19 (by decide)]
      exact v3 k hk
    · rw [w5 20 (by decide)]
      exact v4 k hk
  obtain ⟨τ, e1, e2⟩ := e
  exact ⟨τ, cV_ev mi_176 e1 rfl, e2⟩
theorem s_dbe_17_47 (d : Nat) (σ : ax_S) : ∃ τ, cV sO d 176 [.ref 17, .ref 47] σ = some τ ∧ sm [17, 18, 19, 20, 21] σ τ ∧ τ.1 17 0 = σ.1 47 0 ∧ (∀ j, j < 12 → τ.1 18 j = σ.1 48 j) ∧ (∀ j, j < 12 → τ.1 19 j = σ.1 49 j) ∧ (∀ j, j < 12 → τ.1 20 j = σ.1 50 j) ∧ (∀ j, j < 132 → τ.1 21 j = σ.1 51 j) := by
  have e : ∃ τ, ev sO d 176 0 [.ref 17, .ref 47] [] σ = some (none, τ) ∧ (sm [17, 18, 19, 20, 21] σ τ ∧ τ.1 17 0 = σ.1 47 0 ∧ (∀ j, j < 12 → τ.1 18 j = σ.1 48 j) ∧ (∀ j, j < 12 → τ.1 19 j = σ.1 49 j) ∧ (∀ j, j < 12 → τ.1 20 j = σ.1 50 j) ∧ (∀ j, j < 132 → τ.1 21 j = σ.1 51 j)) := by
    rw [u_176_17_47]
    have n1 : sm [17, 18, 19, 20, 21] σ (sI σ 17 0 (σ.1 47 0)) := (sm.rf _ _).set _ _ (by decide)
    have g0 : (sI σ 17 0 (σ.1 47 0)).1 17 0 = σ.1 47 0 := sI_1 _ _ _ _
    generalize sI σ 17 0 (σ.1 47 0) = s1 at n1 g0 ⊢
    refine lt_st (fun s2 h2 => ?_)
    have n2 : sm [17, 18, 19, 20, 21] σ s2 := by
      rw [h2]
      exact n1.put _ (by decide)
    have v2 : ∀ k, k < 12 → s2.1 18 k = σ.1 48 k := fun k hk => by
      rw [h2, sR_1, n1.1 48 (by decide)]
      exact sb_cpy0 hk
    have w2 : ∀ x, x ≠ 18 → s2.1 x = s1.1 x := fun x hx => by
      rw [h2]
      exact sR_n _ hx
    clear h2
    refine lt_st (fun s3 h3 => ?_)
    have n3 : sm [17, 18, 19, 20, 21] σ s3 := by
      rw [h3]
      exact n2.put _ (by decide)
    have v3 : ∀ k, k < 12 → s3.1 19 k = σ.1 49 k := fun k hk => by
      rw [h3, sR_1, n2.1 49 (by decide)]
      exact sb_cpy0 hk
    have w3 : ∀ x, x ≠ 19 → s3.1 x = s2.1 x := fun x hx => by
      rw [h3]
      exact sR_n _ hx
    clear h3
    refine lt_st (fun s4 h4 => ?_)
    have n4 : sm [17, 18, 19, 20, 21] σ s4 := by
      rw [h4]
      exact n3.put _ (by decide)
    have v4 : ∀ k, k < 12 → s4.1 20 k = σ.1 50 k := fun k hk => by
      rw [h4, sR_1, n3.1 50 (by decide)]
      exact sb_cpy0 hk
    have w4 : ∀ x, x ≠ 20 → s4.1 x = s3.1 x := fun x hx => by
      rw [h4]
      exact sR_n _ hx
    clear h4
    refine lt_st (fun s5 h5 => ?_)
    have n5 : sm [17, 18, 19, 20, 21] σ s5 := by
      rw [h5]
      exact n4.put _ (by decide)
    have v5 : ∀ k, k < 132 → s5.1 21 k = σ.1 51 k := fun k hk => by
      rw [h5, sR_1, n4.1 51 (by decide)]
      exact sb_cpy0 hk
    have w5 : ∀ x, x ≠ 21 → s5.1 x = s4.1 x := fun x hx => by
      rw [h5]
      exact sR_n _ hx
    clear h5
    refine ⟨s5, rfl, n5, ?_, fun k hk => ?_, fun k hk => ?_, fun k hk => ?_, v5⟩
    · rw [w5 17 (by decide), w4 17 (by decide), w3 17 (by decide), w2 17 (by decide)]
      exact g0
    · rw [w5 18 (by decide), w4 18 (by decide), w3 18 (by decide)]
      exact v2 k hk
    · rw [w5 19 (by decide), w4 19 (by decide)]
      exact v3 k hk
    · rw [w5 20 (by decide)]
      exact v4 k hk
  obtain ⟨τ, e1, e2⟩ := e
  exact ⟨τ, cV_ev mi_176 e1 rfl, e2⟩
theorem s_hbe_22_7 (d : Nat) {σ : ax_S} (h : σ.1 8 0 = 0 ∨ σ.1 8 0 = 1) : ∃ τ, cV sO (d + 1) 175 [.ref 22, .ref 7] σ = some τ ∧ sm [23, 24, 25, 26, 27, 28, 29, 30, 31, 32, 33, 34, 35, 36] σ τ ∧ τ.1 23 0 = σ.1 8 0 ∧ kcb τ 23 = kcb σ 8 ∧ τ.1 32 0 = σ.1 17 0 ∧ (∀ j, j < 12 → τ.1 33 j = σ.1 18 j) ∧ (∀ j, j < 12 → τ.1 34 j = σ.1 19 j) ∧ (∀ j, j < 12 → τ.1 35 j = σ.1 20 j) ∧ (∀ j, j < 132 → τ.1 36 j = σ.1 21 j) := by
  obtain ⟨τ, a1, a2, a3, a4⟩ := s_kbe_23_8 d h
  obtain ⟨ρ, b1, b2, b3, b4, b5, b6, b7⟩ := s_dbe_32_17 d τ
  refine ⟨ρ, cV_ev mi_175 ((u_175_22_7 d σ).trans (by rw [a1, Option.bind_some, b1, Option.bind_some])) rfl, (a2.up (by decide)).tr (b2.up (by decide)), ?_, ?_, ?_, fun j hj => ?_, fun j hj => ?_, fun j hj => ?_, fun j hj => ?_⟩
  · rw [b2.1 23 (by decide)]
    exact a3
  · rw [kcb_c (σ := τ) (ρ := ρ) (a := 23) (fun b h1 h2 => b2.1 b (fun q => by simp only [List.mem_cons, List.not_mem_nil, or_false] at q; omega))]
    exact a4
  · rw [b3, a2.1 17 (by decide)]
  · rw [b4 j hj, a2.1 18 (by decide)]
  · rw [b5 j hj, a2.1 19 (by decide)]
  · rw [b6 j hj, a2.1 20 (by decide)]
  · rw [b7 j hj, a2.1 21 (by decide)]
theorem s_hbe_37_7 (d : Nat) {σ : ax_S} (h : σ.1 8 0 = 0 ∨ σ.1 8 0 = 1) : ∃ τ, cV sO (d + 1) 175 [.ref 37, .ref 7] σ = some τ ∧ sm [38, 39, 40, 41, 42, 43, 44, 45, 46, 47, 48, 49, 50, 51] σ τ ∧ τ.1 38 0 = σ.1 8 0 ∧ kcb τ 38 = kcb σ 8 ∧ τ.1 47 0 = σ.1 17 0 ∧ (∀ j, j < 12 → τ.1 48 j = σ.1 18 j) ∧ (∀ j, j < 12 → τ.1 49 j = σ.1 19 j) ∧ (∀ j, j < 12 → τ.1 50 j = σ.1 20 j) ∧ (∀ j, j < 132 → τ.1 51 j = σ.1 21 j) := by
  obtain ⟨τ, a1, a2, a3, a4⟩ := s_kbe_38_8 d h
  obtain ⟨ρ, b1, b2, b3, b4, b5, b6, b7⟩ := s_dbe_47_17 d τ
  refine ⟨ρ, cV_ev mi_175 ((u_175_37_7 d σ).trans (by rw [a1, Option.bind_some, b1, Option.bind_some])) rfl, (a2.up (by decide)).tr (b2.up (by decide)), ?_, ?_, ?_, fun j hj => ?_, fun j hj => ?_, fun j hj => ?_, fun j hj => ?_⟩
  · rw [b2.1 38 (by decide)]
    exact a3
  · rw [kcb_c (σ := τ) (ρ := ρ) (a := 38) (fun b h1 h2 => b2.1 b (fun q => by simp only [List.mem_cons, List.not_mem_nil, or_false] at q; omega))]
    exact a4
  · rw [b3, a2.1 17 (by decide)]
  · rw [b4 j hj, a2.1 18 (by decide)]
  · rw [b5 j hj, a2.1 19 (by decide)]
  · rw [b6 j hj, a2.1 20 (by decide)]
  · rw [b7 j hj, a2.1 21 (by decide)]
theorem s_hbe_7_22 (d : Nat) {σ : ax_S} (h : σ.1 23 0 = 0 ∨ σ.1 23 0 = 1) : ∃ τ, cV sO (d + 1) 175 [.ref 7, .ref 22] σ = some τ ∧ sm [8, 9, 10, 11, 12, 13, 14, 15, 16, 17, 18, 19, 20, 21] σ τ ∧ τ.1 8 0 = σ.1 23 0 ∧ kcb τ 8 = kcb σ 23 ∧ τ.1 17 0 = σ.1 32 0 ∧ (∀ j, j < 12 → τ.1 18 j = σ.1 33 j) ∧ (∀ j, j < 12 → τ.1 19 j = σ.1 34 j) ∧ (∀ j, j < 12 → τ.1 20 j = σ.1 35 j) ∧ (∀ j, j < 132 → τ.1 21 j = σ.1 36 j) := by
  obtain ⟨τ, a1, a2, a3, a4⟩ := s_kbe_8_23 d h
  obtain ⟨ρ, b1, b2, b3, b4, b5, b6, b7⟩ := s_dbe_17_32 d τ
  refine ⟨ρ, cV_ev mi_175 ((u_175_7_22 d σ).trans (by rw [a1, Option.bind_some, b1, Option.bind_some])) rfl, (a2.up (by decide)).tr (b2.up (by decide)), ?_, ?_, ?_, fun j hj => ?_, fun j hj => ?_, fun j hj => ?_, fun j hj => ?_⟩
  · rw [b2.1 8 (by decide)]
    exact a3
  · rw [kcb_c (σ := τ) (ρ := ρ) (a := 8) (fun b h1 h2 => b2.1 b (fun q => by simp only [List.mem_cons, List.not_mem_nil, or_false] at q; omega))]
    exact a4
  · rw [b3, a2.1 32 (by decide)]
  · rw [b4 j hj, a2.1 33 (by decide)]
  · rw [b5 j hj, a2.1 34 (by decide)]
  · rw [b6 j hj, a2.1 35 (by decide)]
  · rw [b7 j hj, a2.1 36 (by decide)]
theorem s_hbe_7_37 (d : Nat) {σ : ax_S} (h : σ.1 38 0 = 0 ∨ σ.1 38 0 = 1) : ∃ τ, cV sO (d + 1) 175 [.ref 7, .ref 37] σ = some τ ∧ sm [8, 9, 10, 11, 12, 13, 14, 15, 16, 17, 18, 19, 20, 21] σ τ ∧ τ.1 8 0 = σ.1 38 0 ∧ kcb τ 8 = kcb σ 38 ∧ τ.1 17 0 = σ.1 47 0 ∧ (∀ j, j < 12 → τ.1 18 j = σ.1 48 j) ∧ (∀ j, j < 12 → τ.1 19 j = σ.1 49 j) ∧ (∀ j, j < 12 → τ.1 20 j = σ.1 50 j) ∧ (∀ j, j < 132 → τ.1 21 j = σ.1 51 j) := by
  obtain ⟨τ, a1, a2, a3, a4⟩ := s_kbe_8_38 d h
  obtain ⟨ρ, b1, b2, b3, b4, b5, b6, b7⟩ := s_dbe_17_47 d τ
  refine ⟨ρ, cV_ev mi_175 ((u_175_7_37 d σ).trans (by rw [a1, Option.bind_some, b1, Option.bind_some])) rfl, (a2.up (by decide)).tr (b2.up (by decide)), ?_, ?_, ?_, fun j hj => ?_, fun j hj => ?_, fun j hj => ?_, fun j hj => ?_⟩
  · rw [b2.1 8 (by decide)]
    exact a3
  · rw [kcb_c (σ := τ) (ρ := ρ) (a := 8) (fun b h1 h2 => b2.1 b (fun q => by simp only [List.mem_cons, List.not_mem_nil, or_false] at q; omega))]
    exact a4
  · rw [b3, a2.1 47 (by decide)]
  · rw [b4 j hj, a2.1 48 (by decide)]
  · rw [b5 j hj, a2.1 49 (by decide)]
  · rw [b6 j hj, a2.1 50 (by decide)]
  · rw [b7 j hj, a2.1 51 (by decide)]
