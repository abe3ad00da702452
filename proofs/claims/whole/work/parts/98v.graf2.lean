/-! TREES: the class grafts, 2 -/
theorem gN_ins (nd fo : Nat) (l : List Nat) (k : Nat) : gN (insP nd fo l) k = if k < plc nd l l.length then gN l k else if k = plc nd l l.length then fo else gN l (k - 1) := by
  have hm := plc_le nd l l.length
  unfold insP
  generalize plc nd l l.length = m at hm ⊢
  unfold gN
  have ht : (l.take m).length = m := by rw [List.length_take, Nat.min_eq_left hm]
  by_cases q : k < m
  · rw [if_pos q, List.getD_eq_getElem?_getD, List.getD_eq_getElem?_getD, List.getElem?_append_left (by rw [ht]; exact q), List.getElem?_take_of_lt q]
  · rw [if_neg q, List.getD_eq_getElem?_getD, List.getElem?_append_right (by rw [ht]; omega), ht]
    by_cases z : k = m
    · rw [if_pos z, z, Nat.sub_self]
      rfl
    · rw [if_neg z, List.getD_eq_getElem?_getD]
      obtain ⟨i, hi⟩ : ∃ i, k = m + (i + 1) := ⟨k - m - 1, by omega⟩
      rw [show k - m = i + 1 by omega, List.getElem?_cons_succ, List.getElem?_drop, show m + i = k - 1 by omega]
theorem eN_i {x : Nat} (h : x < 99) : eN x = nI x := if_neg (by omega)
theorem s_graft (d : Nat) {σ : ax_S} {g : CG} {j nd : Nat} (h : GRel σ g j) (h1 : 1 ≤ j) (h6 : j < 6) (hn : nd < 2 * j - 1) : ∃ τ, cV sO (d + 1) 146 [.ref 66, .int (nI j), .int (nI nd)] σ = some τ ∧ sm [66, 73, 74, 75, 77] σ τ ∧ (∀ f, f ≠ 8 → τ.1 66 f = σ.1 66 f) ∧ GRel τ (graftP g j nd) (j + 1) := by
  obtain ⟨hP, h73, h745, h77, h8⟩ := h
  have hP2 := PGr_s hP h1 h6 hn
  obtain ⟨⟨l1, l2, l3, l4⟩, i1, i2, i3⟩ := hP
  have hlf := leafN_1 h1
  have e2 : (2 : Int32) * nI j = nI (2 * j) := nI_mul (a := 2) (by omega) (by omega) (by omega)
  have g2j := nI_g (show 2 * j < 11 by omega) (by omega)
  have gnd := nI_g (show nd < 11 by omega) (by omega)
  have glf := nI_g (show leafN j < 11 by omega) (by omega)
  have hb : ∃ θ, ev sO (d + 1) 146 0 [.ref 66, .int (nI j), .int (nI nd), .null, .null, .null] [] σ = ev sO (d + 1) 146 104 [.ref 66, .int (nI j), .int (nI nd), .int (nI (2 * j)), .int (σ.1 73 nd), .int (nI (j - 1))] [] θ ∧ sm [73, 74, 75] σ θ ∧ (∀ i, i < 2 * (j + 1) - 1 → θ.1 73 i = eN (gN (graftP g j nd).1 i)) ∧ ∀ k, 1 ≤ k → k < j + 1 → θ.1 74 (2 * k) = nI (gN (graftP g j nd).2.1 (2 * k)) ∧ θ.1 75 (2 * k) = nI (gN (graftP g j nd).2.2.1 (2 * k)) := by
    obtain ⟨T, hT⟩ : ∃ T, T = sI (sI (sI (sI (sI σ 74 (2 * j) (nI nd)) 75 (2 * j) (nI (leafN j))) 73 (2 * j) (σ.1 73 nd)) 73 nd (nI (2 * j))) 73 (leafN j) (nI (2 * j)) := ⟨_, rfl⟩
    have sT : sm [73, 74, 75] σ T := by rw [hT]; exact (((((sm.rf _ _).set _ _ (by decide)).set _ _ (by decide)).set _ _ (by decide)).set _ _ (by decide)).set _ _ (by decide)
    have t66 : T.1 66 8 = nI (j - 1) := by rw [sT.1 66 (by decide)]; exact h8
    have t73 : ∀ i, i < 2 * (j + 1) - 1 → T.1 73 i = eN (gN (graftP g j nd).1 i) := fun i hi => by
      show T.1 73 i = eN (gN (((g.1.set (2 * j) (gN g.1 nd)).set nd (2 * j)).set (leafN j) (2 * j)) i)
      rw [gN_set _ _ (by rw [List.length_set, List.length_set]; omega), gN_set _ _ (by rw [List.length_set]; omega), gN_set _ _ (by omega), hT]
      by_cases q1 : i = leafN j
      · rw [if_pos q1, q1, sI_1, eN_i (by omega)]
      · rw [if_neg q1, sI_k _ q1]
        by_cases q2 : i = nd
        · rw [if_pos q2, q2, sI_1, eN_i (by omega)]
        · rw [if_neg q2, sI_k _ q2]
          by_cases q3 : i = 2 * j
          · rw [if_pos q3, q3, sI_1]
            exact h73 nd hn
          · rw [if_neg q3, sI_k _ q3, sI_n _ _ (by decide), sI_n _ _ (by decide)]
            exact h73 i (by omega)
    have t74 : ∀ k, 1 ≤ k → k < j + 1 → T.1 74 (2 * k) = nI (gN (g.2.1.set (2 * j) nd) (2 * k)) := fun k k1 k2 => by
      rw [gN_set _ _ (by omega), hT, sI_n _ _ (by decide), sI_n _ _ (by decide), sI_n _ _ (by decide), sI_n _ _ (by decide)]
      by_cases q : 2 * k = 2 * j
      · rw [if_pos q, q, sI_1]
      · rw [if_neg q, sI_k _ q]
        exact (h745 k k1 (by omega)).1
    have t75 : ∀ k, 1 ≤ k → k < j + 1 → T.1 75 (2 * k) = nI (gN (g.2.2.1.set (2 * j) (leafN j)) (2 * k)) := fun k k1 k2 => by
      rw [gN_set _ _ (by omega), hT, sI_n _ _ (by decide), sI_n _ _ (by decide), sI_n _ _ (by decide)]
      by_cases q : 2 * k = 2 * j
      · rw [if_pos q, q, sI_1]
      · rw [if_neg q, sI_k _ q, sI_n _ _ (by decide)]
        exact (h745 k k1 (by omega)).2
    have hnd := h73 nd hn
    have eu := u_146_66 d σ (nI j) (nI nd)
    simp only [e2, gd_t gnd, gd_t g2j, nI_c (show nd < 2147483648 by omega), nI_c (show 2 * j < 2147483648 by omega), s_leafOf d _ h6, Option.bind_some, gd_t glf, nI_c (show leafN j < 2147483648 by omega), ← hT, t66] at eu
    obtain z | ⟨k, k1, k2, ek⟩ := i1 nd hn
    · rw [z] at hnd
      have hnd' : σ.1 73 nd = -1000000 := hnd
      rw [if_pos hnd', if_pos hnd'] at eu
      refine ⟨T, eu, sT, t73, fun k k1 k2 => ⟨?_, ?_⟩⟩
      · show _ = nI (gN (if gN g.1 nd = 99 then _ else _) (2 * k))
        rw [if_pos z]
        exact t74 k k1 k2
      · show _ = nI (gN (if gN g.1 nd = 99 then _ else _) (2 * k))
        rw [if_pos z]
        exact t75 k k1 k2
    · have n99 : ¬ gN g.1 nd = 99 := by omega
      have hnd' : σ.1 73 nd = nI (2 * k) := by rw [hnd, eN_i (by omega), ek]
      have nN : ¬ σ.1 73 nd = -1000000 := by rw [hnd']; exact nI_nn (by omega)
      have gk := nI_g (show 2 * k < 11 by omega) (by omega)
      have c : T.1 74 (2 * k) = nI nd ↔ gN (g.2.1.set (2 * j) nd) (gN g.1 nd) = nd := by
        rw [t74 k k1 (by omega), ek]
        have hb2 : gN (g.2.1.set (2 * j) nd) (2 * k) < 99 := by
          rw [gN_set _ _ (by omega)]
          split
          · omega
          · have := (i2 k k1 k2).1
            omega
        exact ⟨fun z => nI_inj (by omega) (by omega) z, fun z => by rw [z]⟩
      rw [if_neg nN, hnd', gd_t gk, nI_c (show 2 * k < 2147483648 by omega)] at eu
      by_cases q : gN (g.2.1.set (2 * j) nd) (gN g.1 nd) = nd
      · rw [if_pos (c.mpr q), gd_t gk, ← hnd', sI_n (x := 66) _ _ (by decide), t66] at eu
        refine ⟨_, eu, sT.set _ _ (by decide), fun i hi => by rw [sI_n _ _ (by decide)]; exact t73 i hi, fun m m1 m2 => ⟨?_, ?_⟩⟩
        · show _ = nI (gN (if gN g.1 nd = 99 then _ else if gN (g.2.1.set (2 * j) nd) (gN g.1 nd) = nd then (g.2.1.set (2 * j) nd).set (gN g.1 nd) (2 * j) else _) (2 * m))
          rw [if_neg n99, if_pos q, gN_set _ _ (by rw [List.length_set]; omega), ek]
          by_cases y : 2 * m = 2 * k
          · rw [if_pos y, y, sI_1]
          · rw [if_neg y, sI_k _ y]
            exact t74 m m1 m2
        · show _ = nI (gN (if gN g.1 nd = 99 then _ else if gN (g.2.1.set (2 * j) nd) (gN g.1 nd) = nd then g.2.2.1.set (2 * j) (leafN j) else _) (2 * m))
          rw [if_neg n99, if_pos q, sI_n _ _ (by decide)]
          exact t75 m m1 m2
      · rw [if_neg (fun y => q (c.mp y)), if_neg (by rw [← hnd']; exact nN), gd_t gk, ← hnd', sI_n (x := 66) _ _ (by decide), t66] at eu
        refine ⟨_, eu, sT.set _ _ (by decide), fun i hi => by rw [sI_n _ _ (by decide)]; exact t73 i hi, fun m m1 m2 => ⟨?_, ?_⟩⟩
        · show _ = nI (gN (if gN g.1 nd = 99 then _ else if gN (g.2.1.set (2 * j) nd) (gN g.1 nd) = nd then (g.2.1.set (2 * j) nd).set (gN g.1 nd) (2 * j) else g.2.1.set (2 * j) nd) (2 * m))
          rw [if_neg n99, if_neg q, sI_n _ _ (by decide)]
          exact t74 m m1 m2
        · show _ = nI (gN (if gN g.1 nd = 99 then _ else if gN (g.2.1.set (2 * j) nd) (gN g.1 nd) = nd then g.2.2.1.set (2 * j) (leafN j) else (g.2.2.1.set (2 * j) (leafN j)).set (gN g.1 nd) (2 * j)) (2 * m))
          rw [if_neg n99, if_neg q, gN_set _ _ (by rw [List.length_set]; omega), ek]
          by_cases y : 2 * m = 2 * k
          · rw [if_pos y, y, sI_1]
          · rw [if_neg y, sI_k _ y]
            exact t75 m m1 m2
  obtain ⟨θ, a1, a2, a3, a4⟩ := hb
  have hlt : ∀ k, k < j - 1 → gN g.2.2.2 k < 99 := fun k hk => by
    have hk' : k < g.2.2.2.length := by rw [l4]; exact hk
    obtain ⟨m, m1, m2, e⟩ := i3 (gN g.2.2.2 k) (by
      unfold gN
      rw [List.getD_eq_getElem?_getD, List.getElem?_eq_getElem hk']
      exact List.getElem_mem hk')
    omega
  obtain ⟨τ, b1', b2, b3, b4, b5⟩ := s_place d (.int (nI j)) (.int (σ.1 73 nd)) rfl rfl (nd := nd) (fo := 2 * j) g.2.2.2 l4 (by omega) hlt (by omega) (j - 1) θ (Nat.le_refl _) (by rw [a2.1 66 (by decide)]; exact h8) (fun k hk => by rw [a2.1 77 (by decide)]; exact h77 k hk) (fun k hk hk2 => absurd hk2 (by omega))
  refine ⟨τ, cV_ev mi_146 (a1.trans b1') rfl, (a2.up (by decide)).tr (b2.up (by decide)), fun f hf => by rw [b3 f hf, a2.1 66 (by decide)], hP2, fun i hi => by rw [b2.1 73 (by decide)]; exact a3 i hi, fun k k1 k2 => by rw [b2.1 74 (by decide), b2.1 75 (by decide)]; exact a4 k k1 k2, fun k hk => ?_, by rw [b4, show j - 1 + 1 = j + 1 - 1 by omega]⟩
  rw [b5 k (by omega)]
  show _ = nI (gN (insP nd (2 * j) g.2.2.2) k)
  rw [gN_ins, l4]
