/-! TREES: the class gathers -/
theorem vlP_pre (P : Nat → Bool) {k : Nat} : ∀ n, k ≤ n → ∃ l, vlP P n = vlP P k ++ l
  | 0, h => ⟨[], by rw [Nat.le_zero.mp h, List.append_nil]⟩
  | n + 1, h => by
    by_cases q : k = n + 1
    · exact ⟨[], by rw [q, List.append_nil]⟩
    · obtain ⟨l, e⟩ := vlP_pre P (k := k) n (by omega)
      by_cases z : P n = true
      · exact ⟨l ++ [n], by rw [vlP_t z, e, List.append_assoc]⟩
      · exact ⟨l, by rw [vlP_f z, e]⟩
theorem vlP_same {P : Nat → Bool} {k n : Nat} (h : k ≤ n) (e : (vlP P n).length ≤ (vlP P k).length) : vlP P n = vlP P k := by
  obtain ⟨l, q⟩ := vlP_pre P n h
  rw [q, List.length_append] at e
  have : l = [] := List.eq_nil_of_length_eq_zero (by omega)
  rw [q, this, List.append_nil]
theorem vlP_len {P : Nat → Bool} {k n : Nat} (h : k ≤ n) : (vlP P k).length ≤ (vlP P n).length := by
  obtain ⟨l, q⟩ := vlP_pre P n h
  rw [q, List.length_append]
  omega
/-- the cards of a set -/
def enL (X n : Nat) : List Nat := vlP (fun j => X.testBit j) n
abbrev GE (σ τ : ax_S) (X n : Nat) : Prop := sm [67, 68] σ τ ∧ τ.1 67 0 = nI (enL X n).length ∧ ∀ i, i < (enL X n).length → τ.1 68 i = nI (gN (enL X n) i)
theorem s_gt1 (d : Nat) {σ : ax_S} {X n : Nat} (hn : n ≤ 12) (hs : σ.1 17 0 = nI n) (he : (enL X n).length ≤ 6) : ∃ (τ : ax_S) (w4 : Value), c1 w4 ∧ ev sO (d + 2) 137 0 [.ref 67, .ref 17, .int (nI X), .null, .null] [] σ = ev sO (d + 2) 137 60 [.ref 67, .ref 17, .int (nI X), .int 0, w4] [] τ ∧ GE σ τ X n := by
  obtain h := loop_E (E := fun k (τ : ax_S) => ev sO (d + 2) 137 7 [.ref 67, .ref 17, .int (nI X), .int (nI k), .null] [] τ) (N := n) (P := fun k τ => GE σ τ X k) (R := fun r => ∃ (τ : ax_S) (w4 : Value), c1 w4 ∧ r = ev sO (d + 2) 137 60 [.ref 67, .ref 17, .int (nI X), .int 0, w4] [] τ ∧ GE σ τ X n) (fun k τ hk hp => by
    obtain ⟨p1, p2, p3⟩ := hp
    have hlen : (enL X k).length ≤ (enL X n).length := vlP_len (by omega)
    have eu := u_137_67_17p7 d τ (nI X) (nI k) .null rfl
    rw [s_size, Option.bind_some] at eu
    simp only [p1.1 17 (by decide), hs, p2, nI_c (show (enL X k).length < 2147483648 by omega), bt_at (nI X) (show k < 32 by omega), nI_bt X (show k < 32 by omega), nI_add1] at eu
    rw [if_pos (nlt hk)] at eu
    by_cases q : (enL X k).length < 6
    · rw [if_pos (show nI (enL X k).length < (6 : Int32) from nlt (N := 6) q)] at eu
      by_cases z : X.testBit k = true
      · rw [if_neg (by rw [if_pos z]; decide), gd_t (nI_g q (by omega)), sI_n (x := 67) _ _ (by decide), p2, nI_add1] at eu
        have e1 : enL X (k + 1) = enL X k ++ [k] := vlP_t z
        refine Or.inl ⟨_, ⟨(p1.set _ _ (by decide)).set _ _ (by decide), ?_, fun i hi => ?_⟩, eu⟩
        · rw [sI_1, e1, List.length_append, List.length_singleton]
        · rw [e1, List.length_append, List.length_singleton] at hi
          rw [sI_n _ _ (by decide), e1]
          by_cases y : i = (enL X k).length
          · rw [y, sI_1, gN_e]
          · rw [sI_k _ y, gN_l (by omega)]
            exact p3 i (by omega)
      · rw [if_pos (by rw [if_neg z])] at eu
        have e1 : enL X (k + 1) = enL X k := vlP_f z
        exact Or.inl ⟨τ, ⟨p1, by rw [e1]; exact p2, by rw [e1]; exact p3⟩, eu⟩
    · rw [if_neg (show ¬ nI (enL X k).length < (6 : Int32) from nnl (N := 6) (by omega) (by omega))] at eu
      have e1 : enL X n = enL X k := vlP_same (by omega) (show (enL X n).length ≤ (enL X k).length by omega)
      exact Or.inr ⟨τ, .null, rfl, eu, p1, by rw [e1]; exact p2, by rw [e1]; exact p3⟩) (sI σ 67 0 0) ⟨(sm.rf _ _).set _ _ (by decide), sI_1 _ _ _ _, fun i hi => absurd hi (Nat.not_lt_zero i)⟩
  have eu := u_137_67_17 d σ (nI X)
  obtain ⟨τ, ⟨p1, p2, p3⟩, e1⟩ | ⟨τ, w4, r1, r2, r3⟩ := h
  · refine ⟨τ, .null, rfl, eu.trans (Eq.trans e1 ?_), p1, p2, p3⟩
    rw [u_137_67_17p7 d τ (nI X) (nI n) .null rfl, s_size, Option.bind_some]
    (try simp only)
    rw [p1.1 17 (by decide), hs, if_neg (nnl (Nat.le_refl _) (by omega))]
  · exact ⟨τ, w4, r1, eu.trans r2, r3⟩
/-- a mark of the ends, gathered -/
abbrev GM (τ : ax_S) (e : Nat) (u : Nat → Nat → Int32) (m : Nat) : Prop := ∃ (k : Nat) (f : Nat → Nat), RV k f (u m) e ∧ τ.1 70 m = nI k ∧ (∀ i, i < k → τ.1 69 (m * 6 + i) = nI (f i)) ∧ ∀ j, j < e → τ.1 71 (m * 6 + j) = encF f (u m j) k
theorem s_gt2 (d : Nat) {σ : ax_S} {e n m : Nat} {E : Nat → Nat} {u : Nat → Nat → Int32} (w2 : Value) (h2 : c1 w2) (hn : n ≤ 12) (hs : σ.1 17 0 = nI n) (he : e ≤ 6) (hm : m < 11) (h67 : σ.1 67 0 = nI e) (hE : ∀ i, i < e → σ.1 68 i = nI (E i) ∧ E i < n) (hu : ∀ j, j < e → cr σ (E j) m = u m j) (huv : ∀ j, j < e → u m j = -1000000 ∨ ∃ y, y < 10000 ∧ u m j = nI y) (w4 : Value) (h4 : c1 w4) : ∃ (τ : ax_S) (w4' : Value), c1 w4' ∧ ev sO (d + 2) 137 60 [.ref 67, .ref 17, w2, .int (nI m), w4] [] σ = ev sO (d + 2) 137 60 [.ref 67, .ref 17, w2, .int (nI (m + 1)), w4'] [] τ ∧ sm [69, 70, 71] σ τ ∧ (∀ x, x ≠ m → τ.1 70 x = σ.1 70 x) ∧ (∀ x, (x < m * 6 ∨ m * 6 + 6 ≤ x) → τ.1 69 x = σ.1 69 x ∧ τ.1 71 x = σ.1 71 x) ∧ GM τ e u m := by
  have eu := u_137_67_17p60 d σ w2 h2 (nI m) w4 h4
  rw [if_pos (show nI m < (11 : Int32) from nlt (N := 11) hm), gd_t (nI_g hm (by omega)), nI_c (show m < 2147483648 by omega)] at eu
  -- values
  obtain ⟨τ, ⟨p1, p2, p3, k, f, p4, p5, p6⟩, a1⟩ := loop_P (E := fun j (τ : ax_S) => ev sO (d + 2) 137 76 [.ref 67, .ref 17, w2, .int (nI m), .int (nI j)] [] τ) (N := e) (P := fun j τ => sm [69, 70] σ τ ∧ (∀ x, x ≠ m → τ.1 70 x = σ.1 70 x) ∧ (∀ x, (x < m * 6 ∨ m * 6 + 6 ≤ x) → τ.1 69 x = σ.1 69 x) ∧ ∃ (k : Nat) (f : Nat → Nat), RV k f (u m) j ∧ τ.1 70 m = nI k ∧ ∀ i, i < k → τ.1 69 (m * 6 + i) = nI (f i)) (fun j τ hj hp => by
    obtain ⟨p1, p2, p3, k, f, p4, p5, p6⟩ := hp
    obtain ⟨ρ, k', f', g1, g2, g3, g4, g5, g6, g7⟩ := s_meet (d + 1) (σ := τ) hm (show j < 6 by omega) p4 p5 p6 (huv j hj)
    refine ⟨ρ, ⟨p1.tr g2, fun x hx => (g4 x hx).trans (p2 x hx), fun x hx => (g6 x hx).trans (p3 x hx), k', f', g7, g3, g5⟩, ?_⟩
    have hcr : cr τ (E j) m = u m j := by
      rw [← hu j hj]
      unfold cr
      rw [p1.1 21 (by decide)]
    (try simp only)
    rw [u_137_67_17p76 d τ w2 h2 (nI m) (nI j), p1.1 67 (by decide), h67, if_pos (nlt hj), gd_t (nI_g (show j < 6 by omega) (by omega)), nI_c (show j < 2147483648 by omega), p1.1 68 (by decide), (hE j hj).1, s_markAt, Option.bind_some, kMk_in (by rw [p1.1 17 (by decide)]; exact hs) hn (hE j hj).2 hm, hcr]
    (try simp only)
    rw [g1, Option.bind_some, nI_add1]) (sI σ 70 m 0) ⟨(sm.rf _ _).set _ _ (by decide), fun x hx => sI_k _ hx, fun x _ => by rw [sI_n _ _ (by decide)], 0, fun _ => 0, ⟨Nat.le_refl _, fun a b _ h => absurd h (Nat.not_lt_zero b), fun i h => absurd h (Nat.not_lt_zero i), fun x h => absurd h (Nat.not_lt_zero x)⟩, sI_1 _ _ _ _, fun i h => absurd h (Nat.not_lt_zero i)⟩
  have a2 : ev sO (d + 2) 137 76 [.ref 67, .ref 17, w2, .int (nI m), .int (nI e)] [] τ = ev sO (d + 2) 137 111 [.ref 67, .ref 17, w2, .int (nI m), .int 0] [] τ := by
    rw [u_137_67_17p76 d τ w2 h2 (nI m) (nI e), p1.1 67 (by decide), h67, if_neg (nnl (Nat.le_refl _) (by omega))]
  have hk6 : k ≤ 6 := Nat.le_trans p4.1 he
  -- codes
  obtain ⟨ρ, ⟨r1, r2, r3⟩, a3⟩ := loop_P (E := fun j (ρ : ax_S) => ev sO (d + 2) 137 111 [.ref 67, .ref 17, w2, .int (nI m), .int (nI j)] [] ρ) (N := e) (P := fun j ρ => sm [71] τ ρ ∧ (∀ i, i < j → ρ.1 71 (m * 6 + i) = encF f (u m i) k) ∧ ∀ x, (x < m * 6 ∨ m * 6 + 6 ≤ x) → ρ.1 71 x = τ.1 71 x) (fun j ρ hj hp => by
    obtain ⟨r1, r2, r3⟩ := hp
    have hcr : cr ρ (E j) m = u m j := by
      rw [← hu j hj]
      unfold cr
      rw [r1.1 21 (by decide), p1.1 21 (by decide)]
    have hen := s_encode (d + 1) (σ := ρ) (m := m) (k := k) (f := f) (u m j) hm hk6 (by rw [r1.1 70 (by decide)]; exact p5) (fun x hx => by rw [r1.1 69 (by decide)]; exact p6 x hx)
    refine ⟨sI ρ 71 (m * 6 + j) (encF f (u m j) k), ⟨r1.set _ _ (by decide), fun i hi => ?_, fun x hx => ?_⟩, ?_⟩
    · by_cases q : i = j
      · rw [q, sI_1]
      · rw [sI_k _ (by omega)]
        exact r2 i (by omega)
    · rw [sI_k _ (by omega)]
      exact r3 x hx
    · (try simp only)
      rw [u_137_67_17p111 d ρ w2 h2 (nI m) (nI j), r1.1 67 (by decide), p1.1 67 (by decide), h67, if_pos (nlt hj), gd_t (nI_g (show j < 6 by omega) (by omega)), nI_c (show j < 2147483648 by omega), r1.1 68 (by decide), p1.1 68 (by decide), (hE j hj).1, s_markAt, Option.bind_some, kMk_in (by rw [r1.1 17 (by decide), p1.1 17 (by decide)]; exact hs) hn (hE j hj).2 hm, hcr]
      (try simp only)
      rw [hen, Option.bind_some]
      (try simp only)
      rw [show nI m * (6 : Int32) = nI (m * 6) from nI_mul (b := 6) (by omega) (by omega) (by omega), nI_pl (show m * 6 + j < 2147483648 by omega), gd_t (nI_g (show m * 6 + j < 66 by omega) (by omega)), nI_c (show m * 6 + j < 2147483648 by omega), nI_add1]) τ ⟨sm.rf _ _, fun i hi => absurd hi (Nat.not_lt_zero i), fun _ _ => rfl⟩
  refine ⟨ρ, .int (nI e), rfl, eu.trans (Eq.trans a1 (a2.trans (Eq.trans a3 ?_))), (p1.up (by decide)).tr (r1.up (by decide)), fun x hx => by rw [r1.1 70 (by decide)]; exact p2 x hx, fun x hx => ⟨by rw [r1.1 69 (by decide)]; exact p3 x hx, by rw [r3 x hx, p1.1 71 (by decide)]⟩, k, f, p4, by rw [r1.1 70 (by decide)]; exact p5, fun i hi => by rw [r1.1 69 (by decide)]; exact p6 i hi, r2⟩
  (try simp only)
  rw [u_137_67_17p111 d ρ w2 h2 (nI m) (nI e), r1.1 67 (by decide), p1.1 67 (by decide), h67, if_neg (nnl (Nat.le_refl _) (by omega)), nI_add1]
theorem s_gather (d : Nat) {σ : ax_S} {X n : Nat} {u : Nat → Nat → Int32} (hn : n ≤ 12) (hs : σ.1 17 0 = nI n) (he : (enL X n).length ≤ 6) (hu : ∀ m j, m < 11 → j < (enL X n).length → cr σ (gN (enL X n) j) m = u m j) (huv : ∀ m j, m < 11 → j < (enL X n).length → u m j = -1000000 ∨ ∃ y, y < 10000 ∧ u m j = nI y) : ∃ τ : ax_S, cV sO (d + 2) 137 [.ref 67, .ref 17, .int (nI X)] σ = some τ ∧ sm [67, 68, 69, 70, 71] σ τ ∧ τ.1 67 0 = nI (enL X n).length ∧ (∀ i, i < (enL X n).length → τ.1 68 i = nI (gN (enL X n) i)) ∧ ∀ m, m < 11 → GM τ (enL X n).length u m := by
  obtain ⟨a, w4, h4, e1, g1, g2, g3⟩ := s_gt1 d (σ := σ) (X := X) hn hs he
  have hE : ∀ i, i < (enL X n).length → gN (enL X n) i < n := fun i hi => (vlP_lt hi).1
  obtain ⟨⟨w, τ⟩, ⟨q, p1, p2⟩, a1⟩ := loop_P (E := fun k (s : Value × ax_S) => ev sO (d + 2) 137 60 [.ref 67, .ref 17, .int (nI X), .int (nI k), s.1] [] s.2) (N := 11) (P := fun k s => c1 s.1 ∧ sm [69, 70, 71] a s.2 ∧ ∀ m, m < k → GM s.2 (enL X n).length u m) (fun k s hk hp => by
    obtain ⟨w, τ⟩ := s
    obtain ⟨q, p1, p2⟩ := hp
    simp only at q p1 p2 ⊢
    obtain ⟨ρ, w', q', f1, f2, f3, f4, f5⟩ := s_gt2 d (σ := τ) (e := (enL X n).length) (n := n) (m := k) (E := gN (enL X n)) (u := u) (.int (nI X)) rfl hn (by rw [p1.1 17 (by decide), g1.1 17 (by decide)]; exact hs) he hk (by rw [p1.1 67 (by decide)]; exact g2) (fun i hi => ⟨by rw [p1.1 68 (by decide)]; exact g3 i hi, hE i hi⟩) (fun j hj => by
      rw [← hu k j hk hj]
      unfold cr
      rw [p1.1 21 (by decide), g1.1 21 (by decide)]) (fun j hj => huv k j hk hj) w q
    refine ⟨(w', ρ), ⟨q', p1.tr f2, fun m hm => ?_⟩, f1⟩
    by_cases z : m = k
    · rw [z]; exact f5
    · obtain ⟨k', f, r1, r2, r3, r4⟩ := p2 m (by omega)
      have hk6 : k' ≤ 6 := Nat.le_trans r1.1 he
      exact ⟨k', f, r1, by simp only; rw [f3 m z]; exact r2, fun i hi => by simp only; rw [(f4 _ (by omega)).1]; exact r3 i hi, fun j hj => by simp only; rw [(f4 _ (by omega)).2]; exact r4 j hj⟩) (w4, a) ⟨h4, sm.rf _ _, fun m hm => absurd hm (Nat.not_lt_zero m)⟩
  simp only at q p1 p2 a1
  refine ⟨τ, cV_ev mi_137 (e1.trans (Eq.trans a1 ?_)) rfl, (g1.up (by decide)).tr (p1.up (by decide)), by rw [p1.1 67 (by decide)]; exact g2, fun i hi => by rw [p1.1 68 (by decide)]; exact g3 i hi, p2⟩
  rw [u_137_67_17p60 d τ (.int (nI X)) rfl (nI 11) w q, if_neg (show ¬ nI 11 < (11 : Int32) from nnl (N := 11) (Nat.le_refl _))]
