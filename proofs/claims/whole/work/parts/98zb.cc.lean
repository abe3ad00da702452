/-! TREES: the class counts changes -/
abbrev fF (a b : Int32) : Int32 := if a &&& b = 0 then a ||| b else a &&& b
theorem cP_g {g : CG} {k : Nat} (h : k < g.2.2.2.length) : (cProg g)[k]? = some (gN g.2.2.2 k, gN g.2.1 (gN g.2.2.2 k), gN g.2.2.1 (gN g.2.2.2 k)) := by
  have e : gN g.2.2.2 k = g.2.2.2[k] := by
    unfold gN
    rw [List.getD_eq_getElem?_getD, List.getElem?_eq_getElem h]
    rfl
  show (List.map _ g.2.2.2)[k]? = _
  rw [List.getElem?_map, List.getElem?_eq_getElem h, e]
  rfl
theorem cP_d {g : CG} {k : Nat} (h : k < g.2.2.2.length) : (cProg g).drop k = (gN g.2.2.2 k, gN g.2.1 (gN g.2.2.2 k), gN g.2.2.1 (gN g.2.2.2 k)) :: (cProg g).drop (k + 1) := by
  obtain ⟨h2, e3⟩ := List.getElem?_eq_some_iff.mp (cP_g h)
  rw [List.drop_eq_getElem_cons h2, e3]
theorem GRel_c {σ τ : ax_S} {g : CG} {e : Nat} (h : GRel σ g e) (h1 : τ.1 73 = σ.1 73) (h2 : τ.1 74 = σ.1 74) (h3 : τ.1 75 = σ.1 75) (h4 : τ.1 77 = σ.1 77) (h5 : τ.1 66 8 = σ.1 66 8) : GRel τ g e := by
  obtain ⟨a1, a2, a3, a4, a5⟩ := h
  refine ⟨a1, fun i hi => ?_, fun k k1 k2 => ?_, fun k hk => ?_, ?_⟩
  · rw [h1]; exact a2 i hi
  · rw [h2, h3]; exact a3 k k1 k2
  · rw [h4]; exact a4 k hk
  · rw [h5]; exact a5
/-- what stands at a place of the order -/
theorem GRel_f {σ : ax_S} {g : CG} {e k : Nat} (h : GRel σ g e) (hk : k < e - 1) : ∃ i, 1 ≤ i ∧ i < e ∧ gN g.2.2.2 k = 2 * i ∧ σ.1 77 k = nI (2 * i) ∧ σ.1 74 (2 * i) = nI (gN g.2.1 (2 * i)) ∧ σ.1 75 (2 * i) = nI (gN g.2.2.1 (2 * i)) ∧ gN g.2.1 (2 * i) < 2 * e - 1 ∧ gN g.2.2.1 (2 * i) < 2 * e - 1 := by
  obtain ⟨⟨⟨-, -, -, l4⟩, -, i2, i3⟩, -, a3, a4, -⟩ := h
  have hk' : k < g.2.2.2.length := by rw [l4]; exact hk
  obtain ⟨i, i1, i4, e1⟩ := i3 (gN g.2.2.2 k) (by
    unfold gN
    rw [List.getD_eq_getElem?_getD, List.getElem?_eq_getElem hk']
    exact List.getElem_mem hk')
  exact ⟨i, i1, i4, e1, by rw [← e1]; exact a4 k hk, (a3 i i1 i4).1, (a3 i i1 i4).2, (i2 i i1 i4).1, (i2 i i1 i4).2⟩
theorem s_cc (d : Nat) (x1 : Int32) {g : CG} {e m : Nat} (hm : m < 11) (he : e ≤ 6) : ∀ r k (w4 w5 w6 : Value) (σ : ax_S) (V : Nat → Int32) (c : Nat), c1 w4 → c1 w5 → c1 w6 → k + r = e - 1 → GRel σ g e → (∀ n, n < 11 → σ.1 72 (m * 11 + n) = V n) → σ.1 66 11 = nI c → ∃ (τ : ax_S) (x3 : Int32) (w4' w5' w6' : Value), c1 w4' ∧ c1 w5' ∧ c1 w6' ∧ ev sO d 147 38 [.ref 66, .int x1, .int (nI (m * 11)), .int (nI k), w4, w5, w6] [] σ = ev sO d 147 7 [.ref 66, .int (x1 + 1), .int (nI (m * 11)), .int x3, w4', w5', w6'] [] τ ∧ sm [66, 72] σ τ ∧ (∀ f, f ≠ 11 → τ.1 66 f = σ.1 66 f) ∧ τ.1 66 11 = nI (c + rnN fF ((cProg g).drop k) V) ∧ (∀ n, n < 11 → τ.1 72 (m * 11 + n) = rnV fF ((cProg g).drop k) V n) ∧ (∀ x, (x < m * 11 ∨ m * 11 + 11 ≤ x) → τ.1 72 x = σ.1 72 x)
  | 0, k, w4, w5, w6, σ, V, c, h4, h5, h6, hk, hg, hV, h11 => by
    have e0 : (cProg g).drop k = [] := by
      refine List.drop_eq_nil_of_le ?_
      show (List.map _ g.2.2.2).length ≤ k
      rw [List.length_map, hg.1.1.2.2.2]
      omega
    refine ⟨σ, nI k, w4, w5, w6, h4, h5, h6, ?_, sm.rf _ _, fun _ _ => rfl, ?_, fun n hn => ?_, fun _ _ => rfl⟩
    · rw [u_147_66p38 _ _ _ _ _ _ h4 _ h5 _ h6, hg.2.2.2.2, if_neg (nnl (show e - 1 ≤ k by omega) (by omega))]
    · rw [e0]
      exact h11
    · rw [e0]
      exact hV n hn
  | r + 1, k, w4, w5, w6, σ, V, c, h4, h5, h6, hk, hg, hV, h11 => by
    obtain ⟨i, i1, i2, e1, f77, f74, f75, ha, hb⟩ := GRel_f hg (show k < e - 1 by omega)
    have e0 := cP_d (g := g) (k := k) (by rw [hg.1.1.2.2.2]; omega)
    rw [e1] at e0
    generalize gN g.2.1 (2 * i) = a at f74 ha e0
    generalize gN g.2.2.1 (2 * i) = b at f75 hb e0
    have eu := u_147_66p38 d σ x1 (nI (m * 11)) (nI k) w4 h4 w5 h5 w6 h6
    simp only [hg.2.2.2.2, nI_c (show k < 2147483648 by omega), f77, nI_c (show 2 * i < 2147483648 by omega), f74, f75, nI_pl (show m * 11 + a < 2147483648 by omega), nI_pl (show m * 11 + b < 2147483648 by omega), nI_pl (show m * 11 + 2 * i < 2147483648 by omega), nI_c (show m * 11 + a < 2147483648 by omega), nI_c (show m * 11 + b < 2147483648 by omega), nI_c (show m * 11 + 2 * i < 2147483648 by omega), hV a (by omega), hV b (by omega), nI_add1] at eu
    rw [if_pos (nlt (show k < e - 1 by omega)), gd_t (nI_g (show k < 6 by omega) (by omega)), gd_t (nI_g (show 2 * i < 11 by omega) (by omega)), gd_t (nI_g (show m * 11 + a < 121 by omega) (by omega)), gd_t (nI_g (show 2 * i < 11 by omega) (by omega)), gd_t (nI_g (show m * 11 + b < 121 by omega) (by omega))] at eu
    have key : ∀ T : ax_S, sm [66, 72] σ T → (∀ f, f ≠ 11 → T.1 66 f = σ.1 66 f) → T.1 72 = upd (σ.1 72) (m * 11 + 2 * i) (fF (V a) (V b)) → GRel T g e ∧ (∀ n, n < 11 → T.1 72 (m * 11 + n) = upd V (2 * i) (fF (V a) (V b)) n) ∧ ∀ x, (x < m * 11 ∨ m * 11 + 11 ≤ x) → T.1 72 x = σ.1 72 x := fun T t1 t2 t3 => by
      refine ⟨GRel_c hg (t1.1 73 (by decide)) (t1.1 74 (by decide)) (t1.1 75 (by decide)) (t1.1 77 (by decide)) (t2 8 (by decide)), fun n hn => ?_, fun x hx => ?_⟩
      · rw [t3]
        by_cases q : n = 2 * i
        · rw [q, upd_1, upd_1]
        · rw [upd_n _ _ q, upd_n _ _ (show m * 11 + n ≠ m * 11 + 2 * i by omega)]
          exact hV n hn
      · rw [t3, upd_n _ _ (show x ≠ m * 11 + 2 * i by omega)]
    by_cases q : V a &&& V b = 0
    · rw [if_pos q, gd_t (nI_g (show m * 11 + 2 * i < 121 by omega) (by omega))] at eu
      have ef : fF (V a) (V b) = V a ||| V b := if_pos q
      obtain ⟨T, hT⟩ : ∃ T, T = sI (sI σ 72 (m * 11 + 2 * i) (V a ||| V b)) 66 11 (nI (c + 1)) := ⟨_, rfl⟩
      obtain ⟨k1, k2, k3⟩ := key T (by rw [hT]; exact ((sm.rf _ _).set _ _ (by decide)).set _ _ (by decide)) (fun f hf => by rw [hT, sI_k _ hf, sI_n _ _ (by decide)]) (by rw [hT, sI_n _ _ (by decide), ef]; exact sR_1 _ _ _)
      obtain ⟨τ, x3, w4', w5', w6', c4, c5, c6, g1, g2, g3, g4, g5, g6⟩ := s_cc d x1 hm he r (k + 1) (.int (nI (2 * i))) (.int (V a)) (.int (V b)) T (upd V (2 * i) (fF (V a) (V b))) (c + 1) rfl rfl rfl (by omega) k1 k2 (by rw [hT, sI_1])
      refine ⟨τ, x3, w4', w5', w6', c4, c5, c6, ?_, ?_, fun f hf => ?_, ?_, fun n hn => ?_, fun x hx => ?_⟩
      · rw [eu]
        show ev sO d 147 38 _ [] (sI _ 66 11 ((sI σ 72 _ _).1 66 11 + 1)) = _
        rw [sI_n (x := 66) _ _ (by decide), h11, nI_add1, ← hT]
        exact g1
      · refine sm.tr ?_ g2
        rw [hT]
        exact ((sm.rf _ _).set _ _ (by decide)).set _ _ (by decide)
      · rw [g3 f hf, hT, sI_k _ hf, sI_n _ _ (by decide)]
      · rw [g4, e0]
        show _ = nI (c + ((if V a &&& V b = 0 then 1 else 0) + rnN fF _ _))
        rw [if_pos q, Nat.add_assoc]
      · rw [g5 n hn, e0]
        rfl
      · rw [g6 x hx, k3 x hx]
    · rw [if_neg q, gd_t (nI_g (show m * 11 + 2 * i < 121 by omega) (by omega))] at eu
      have ef : fF (V a) (V b) = V a &&& V b := if_neg q
      obtain ⟨T, hT⟩ : ∃ T, T = sI σ 72 (m * 11 + 2 * i) (V a &&& V b) := ⟨_, rfl⟩
      obtain ⟨k1, k2, k3⟩ := key T (by rw [hT]; exact (sm.rf _ _).set _ _ (by decide)) (fun f hf => by rw [hT, sI_n _ _ (by decide)]) (by rw [hT, ef]; exact sR_1 _ _ _)
      obtain ⟨τ, x3, w4', w5', w6', c4, c5, c6, g1, g2, g3, g4, g5, g6⟩ := s_cc d x1 hm he r (k + 1) (.int (nI (2 * i))) (.int (V a)) (.int (V b)) T (upd V (2 * i) (fF (V a) (V b))) c rfl rfl rfl (by omega) k1 k2 (by rw [hT, sI_n _ _ (by decide)]; exact h11)
      refine ⟨τ, x3, w4', w5', w6', c4, c5, c6, ?_, ?_, fun f hf => ?_, ?_, fun n hn => ?_, fun x hx => ?_⟩
      · rw [eu, ← hT]
        exact g1
      · refine sm.tr ?_ g2
        rw [hT]
        exact (sm.rf _ _).set _ _ (by decide)
      · rw [g3 f hf, hT, sI_n _ _ (by decide)]
      · rw [g4, e0]
        show _ = nI (c + ((if V a &&& V b = 0 then 1 else 0) + rnN fF _ _))
        rw [if_neg q, Nat.zero_add]
      · rw [g5 n hn, e0]
        rfl
      · rw [g6 x hx, k3 x hx]
