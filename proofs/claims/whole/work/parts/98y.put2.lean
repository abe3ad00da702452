/-! TREES: the reference puts an end on, 2 -/
theorem m_putOn (d : Nat) {σ : ax_S} {g : MG} {j nd : Nat} (h : MRel σ g j) (h1 : 1 ≤ j) (h6 : j < 6) (hn : vN j nd) : ∃ τ, cV sO d 262 [.ref 82, .int (nI j), .int (nI (5 + j)), .int (nI nd)] σ = some τ ∧ sm [82, 92, 93, 94] σ τ ∧ (∀ f, f ≠ 29 → τ.1 82 f = σ.1 82 f) ∧ MRel τ (putP g j (5 + j) nd) (j + 1) := by
  obtain ⟨hP, h92, h934, h29⟩ := h
  have hP2 := PMr_s hP h1 h6 hn
  obtain ⟨⟨l1, l2, l3⟩, i1, i2, i3⟩ := hP
  have hl : nd < g.1.length := by rw [l1]; omega
  have gnd := nI_g (show nd < 11 by omega) (by omega)
  have gj := nI_g (show j < 11 by omega) (by omega)
  have gf := nI_g (show 5 + j < 11 by omega) (by omega)
  obtain ⟨T, hT⟩ : ∃ T, T = sI (sI (sI (sI (sI σ 92 (5 + j) (σ.1 92 nd)) 93 (5 + j) (nI nd)) 94 (5 + j) (nI j)) 92 nd (nI (5 + j))) 92 j (nI (5 + j)) := ⟨_, rfl⟩
  have sT : sm [92, 93, 94] σ T := by rw [hT]; exact (((((sm.rf _ _).set _ _ (by decide)).set _ _ (by decide)).set _ _ (by decide)).set _ _ (by decide)).set _ _ (by decide)
  have t92 : ∀ i, vN (j + 1) i → T.1 92 i = eM (gN (putP g j (5 + j) nd).1 i) := fun i hi => by
    show T.1 92 i = eM (gN (((g.1.set (5 + j) (gN g.1 nd)).set nd (5 + j)).set j (5 + j)) i)
    rw [gN_set _ _ (by rw [List.length_set, List.length_set]; omega), gN_set _ _ (by rw [List.length_set]; exact hl), gN_set _ _ (by omega), hT]
    by_cases q1 : i = j
    · rw [if_pos q1, q1, sI_1, eM_i (by omega)]
    · rw [if_neg q1, sI_k _ q1]
      by_cases q2 : i = nd
      · rw [if_pos q2, q2, sI_1, eM_i (by omega)]
      · rw [if_neg q2, sI_k _ q2, sI_n _ _ (by decide), sI_n _ _ (by decide)]
        by_cases q3 : i = 5 + j
        · rw [if_pos q3, q3, sI_1]
          exact h92 nd hn
        · rw [if_neg q3, sI_k _ q3]
          exact h92 i (by omega)
  have t93 : ∀ k, 1 ≤ k → k < j + 1 → T.1 93 (5 + k) = nI (gN (g.2.1.set (5 + j) nd) (5 + k)) := fun k k1 k2 => by
    rw [gN_set _ _ (by omega), hT, sI_n _ _ (by decide), sI_n _ _ (by decide), sI_n _ _ (by decide)]
    by_cases q : 5 + k = 5 + j
    · rw [if_pos q, q, sI_1]
    · rw [if_neg q, sI_k _ q, sI_n _ _ (by decide)]
      exact (h934 k k1 (by omega)).1
  have t94 : ∀ k, 1 ≤ k → k < j + 1 → T.1 94 (5 + k) = nI (gN (g.2.2.1.set (5 + j) j) (5 + k)) := fun k k1 k2 => by
    rw [gN_set _ _ (by omega), hT, sI_n _ _ (by decide), sI_n _ _ (by decide)]
    by_cases q : 5 + k = 5 + j
    · rw [if_pos q, q, sI_1]
    · rw [if_neg q, sI_k _ q, sI_n _ _ (by decide), sI_n _ _ (by decide)]
      exact (h934 k k1 (by omega)).2
  have t29 : T.1 82 29 = nI g.2.2.2 := by rw [sT.1 82 (by decide)]; exact h29
  have hnd := h92 nd hn
  have eu := u_262_82 d σ (nI j) (nI (5 + j)) (nI nd)
  simp only [gd_t gnd, gd_t gj, gd_t gf, nI_c (show nd < 2147483648 by omega), nI_c (show j < 2147483648 by omega), nI_c (show 5 + j < 2147483648 by omega), ← hT] at eu
  obtain z | ⟨k, k1, k2, ek⟩ := i1 nd hn
  · have hneg : σ.1 92 nd < 0 := by rw [hnd, z]; decide
    rw [if_pos hneg] at eu
    refine ⟨sI T 82 29 (nI (5 + j)), cV_ev mi_262 eu rfl, (sT.up (by decide)).set _ _ (by decide), fun f hf => by rw [sI_k _ hf, sT.1 82 (by decide)], hP2, fun i hi => by rw [sI_n _ _ (by decide)]; exact t92 i hi, fun m m1 m2 => ⟨?_, ?_⟩, ?_⟩
    · rw [sI_n _ _ (by decide), t93 m m1 m2]
      show _ = nI (gN (if gN g.1 nd = 99 then _ else _) (5 + m))
      rw [if_pos z]
    · rw [sI_n _ _ (by decide), t94 m m1 m2]
      show _ = nI (gN (if gN g.1 nd = 99 then _ else _) (5 + m))
      rw [if_pos z]
    · rw [sI_1]
      show _ = nI (if gN g.1 nd = 99 then 5 + j else _)
      rw [if_pos z]
  · have n99 : ¬ gN g.1 nd = 99 := by omega
    have hnd' : σ.1 92 nd = nI (5 + k) := by rw [hnd, eM_i (by omega), ek]
    have gk := nI_g (show 5 + k < 11 by omega) (by omega)
    have hneg : ¬ σ.1 92 nd < 0 := by rw [hnd']; exact nnl (N := 0) (by omega)
    have c : T.1 93 (5 + k) = nI nd ↔ gN (g.2.1.set (5 + j) nd) (gN g.1 nd) = nd := by
      rw [t93 k k1 (by omega), ek]
      have hb2 : gN (g.2.1.set (5 + j) nd) (5 + k) < 99 := by
        rw [gN_set _ _ (by omega)]
        split
        · omega
        · have := (i2 k k1 k2).1
          omega
      exact ⟨fun z => nI_inj (by omega) (by omega) z, fun z => by rw [z]⟩
    rw [if_neg hneg, hnd', gd_t gk, nI_c (show 5 + k < 2147483648 by omega)] at eu
    by_cases q : gN (g.2.1.set (5 + j) nd) (gN g.1 nd) = nd
    · rw [← hnd'] at eu
      rw [if_pos (c.mpr q), hnd', gd_t gk] at eu
      refine ⟨_, cV_ev mi_262 eu rfl, (sT.up (by decide)).set _ _ (by decide), fun f hf => by rw [sI_n _ _ (by decide), sT.1 82 (by decide)], hP2, fun i hi => by rw [sI_n _ _ (by decide)]; exact t92 i hi, fun m m1 m2 => ⟨?_, ?_⟩, ?_⟩
      · show _ = nI (gN (if gN g.1 nd = 99 then _ else if gN (g.2.1.set (5 + j) nd) (gN g.1 nd) = nd then (g.2.1.set (5 + j) nd).set (gN g.1 nd) (5 + j) else _) (5 + m))
        rw [if_neg n99, if_pos q, gN_set _ _ (by rw [List.length_set]; omega), ek]
        by_cases y : 5 + m = 5 + k
        · rw [if_pos y, y, sI_1]
        · rw [if_neg y, sI_k _ y]
          exact t93 m m1 m2
      · show _ = nI (gN (if gN g.1 nd = 99 then _ else if gN (g.2.1.set (5 + j) nd) (gN g.1 nd) = nd then g.2.2.1.set (5 + j) j else _) (5 + m))
        rw [if_neg n99, if_pos q, sI_n _ _ (by decide)]
        exact t94 m m1 m2
      · show _ = nI (if gN g.1 nd = 99 then 5 + j else g.2.2.2)
        rw [if_neg n99, sI_n _ _ (by decide)]
        exact t29
    · rw [← hnd'] at eu
      rw [if_neg (fun y => q (c.mp y)), hnd', gd_t gk] at eu
      refine ⟨_, cV_ev mi_262 eu rfl, (sT.up (by decide)).set _ _ (by decide), fun f hf => by rw [sI_n _ _ (by decide), sT.1 82 (by decide)], hP2, fun i hi => by rw [sI_n _ _ (by decide)]; exact t92 i hi, fun m m1 m2 => ⟨?_, ?_⟩, ?_⟩
      · show _ = nI (gN (if gN g.1 nd = 99 then _ else if gN (g.2.1.set (5 + j) nd) (gN g.1 nd) = nd then (g.2.1.set (5 + j) nd).set (gN g.1 nd) (5 + j) else g.2.1.set (5 + j) nd) (5 + m))
        rw [if_neg n99, if_neg q, sI_n _ _ (by decide)]
        exact t93 m m1 m2
      · show _ = nI (gN (if gN g.1 nd = 99 then _ else if gN (g.2.1.set (5 + j) nd) (gN g.1 nd) = nd then g.2.2.1.set (5 + j) j else (g.2.2.1.set (5 + j) j).set (gN g.1 nd) (5 + j)) (5 + m))
        rw [if_neg n99, if_neg q, gN_set _ _ (by rw [List.length_set]; omega), ek]
        by_cases y : 5 + m = 5 + k
        · rw [if_pos y, y, sI_1]
        · rw [if_neg y, sI_k _ y]
          exact t94 m m1 m2
      · show _ = nI (if gN g.1 nd = 99 then 5 + j else g.2.2.2)
        rw [if_neg n99, sI_n _ _ (by decide)]
        exact t29
