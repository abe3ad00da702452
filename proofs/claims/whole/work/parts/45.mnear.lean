/-! THE REFERENCE'S CARDS: the least unlike ones -/
def skF (yr : Nat → Int32) (row : Nat → Nat → Int32) (c k : Nat) (s : Int32 × Int32 × Int32) : Int32 × Int32 × Int32 := if erP yr k c then (if s.2.1 = 0 ∨ unl (row k) (row c) < s.1 then (unl (row k) (row c), 1, nI k) else if unl (row k) (row c) = s.1 then (s.1, s.2.1 + 1, s.2.2) else s) else s
def skm (yr : Nat → Int32) (row : Nat → Nat → Int32) (c n : Nat) : Int32 × Int32 × Int32 := it (skF yr row c) n (0, 0, -1000000)
theorem ltb {H : Type} (x : H) (f : H → Option (Option Value × H)) : ax_lt x f = f x := rfl
/-- three places of the reference are new -/
abbrev sk3 (σ τ : ax_S) (s : Int32 × Int32 × Int32) : Prop := sm [82] σ τ ∧ (∀ k, k ≠ 21 → k ≠ 22 → k ≠ 23 → τ.1 82 k = σ.1 82 k) ∧ τ.1 82 21 = s.1 ∧ τ.1 82 22 = s.2.1 ∧ τ.1 82 23 = s.2.2
theorem sk3_put {σ τ : ax_S} {s : Int32 × Int32 × Int32} (h : sk3 σ τ s) (x y z : Int32) : sk3 σ (sI (sI (sI τ 82 22 y) 82 23 z) 82 21 x) (x, y, z) := by
  refine ⟨((h.1.set _ _ (by decide)).set _ _ (by decide)).set _ _ (by decide), fun k h1 h2 h3 => ?_, ?_, ?_, ?_⟩
  · rw [sI_k _ h1, sI_k _ h3, sI_k _ h2]
    exact h.2.1 k h1 h2 h3
  · rw [sI_1]
  · rw [sI_k _ (by decide), sI_k _ (by decide), sI_1]
  · rw [sI_k _ (by decide), sI_1]
theorem m_seekMother (d : Nat) {σ : ax_S} {n c : Nat} (hs : σ.1 88 0 = nI n) (hn : n ≤ 12) (hi : mI σ n) (hc : c < n) : ∃ τ, cV sO (d + 4) 252 [.ref 82, .int (nI c)] σ = some τ ∧ sk3 σ τ (skm (my σ) (mr σ) c n) := by
  obtain ⟨⟨w3, w4, τ⟩, ⟨p1, p2, p3⟩, e⟩ := loop_P (E := fun k (s : Value × Value × ax_S) => ev sO (d + 4) 252 18 [.ref 82, .int (nI c), .int (nI k), s.1, s.2.1] [] s.2.2) (N := n) (P := fun k s => c1 s.1 ∧ c1 s.2.1 ∧ sk3 σ s.2.2 (it (skF (my σ) (mr σ) c) k (0, 0, -1000000))) (fun k s hk hp => by
    obtain ⟨w3, w4, τ⟩ := s
    obtain ⟨p1, p2, p3⟩ := hp
    simp only at p1 p2 p3 ⊢
    have e88 : τ.1 88 = σ.1 88 := p3.1.1 88 (by decide)
    have ey : my τ = my σ := by
      funext j
      unfold my
      rw [e88]
    have er : mr τ = mr σ := by
      funext j m
      unfold mr ms mk
      rw [e88]
    have hi2 : mI τ n := by
      intro j hj
      have := hi j hj
      unfold mk ms at this ⊢
      rw [e88]
      exact this
    rw [u_252_82p18 _ _ _ _ _ p1 _ p2, e88, hs, if_pos (nlt hk)]
    simp only [m_isEarlier _ (σ := τ) hn hk hc, m_unlikeOf _ (σ := τ) hn hi2 hk hc, Option.bind_some, bi_0, nI_add1, ltb, ey, er]
    rw [it_s]
    obtain ⟨q1, q2, q3, q4, q5⟩ := p3
    have p3 : sk3 σ τ (it (skF (my σ) (mr σ) c) k (0, 0, -1000000)) := ⟨q1, q2, q3, q4, q5⟩
    generalize hg : it (skF (my σ) (mr σ) c) k (0, 0, -1000000) = s at q3 q4 q5 p3 ⊢
    unfold skF
    by_cases h1 : erP (my σ) k c
    · rw [if_pos h1, if_neg (show ¬ ¬ erP (my σ) k c from fun q => q h1), q4, q3]
      by_cases h2 : s.2.1 = 0
      · rw [if_pos h2, if_pos (Or.inl h2)]
        exact ⟨(_, _, _), ⟨rfl, rfl, sk3_put p3 _ _ _⟩, rfl⟩
      · rw [if_neg h2]
        by_cases h3 : unl (mr σ k) (mr σ c) < s.1
        · rw [if_pos h3, if_pos (Or.inr h3)]
          exact ⟨(_, _, _), ⟨rfl, rfl, sk3_put p3 _ _ _⟩, rfl⟩
        · rw [if_neg h3, if_neg (fun q => q.elim h2 h3)]
          by_cases h4 : unl (mr σ k) (mr σ c) = s.1
          · rw [if_pos h4, if_pos h4, sI_k _ (by decide), sI_k _ (by decide), sI_k _ (by decide), q3, q5]
            exact ⟨(_, _, _), ⟨rfl, rfl, sk3_put p3 _ _ _⟩, rfl⟩
          · rw [if_neg h4, if_neg h4, sI_k _ (by decide), sI_k _ (by decide), sI_k _ (by decide), q3, q5]
            exact ⟨(_, _, _), ⟨rfl, rfl, sk3_put p3 _ _ _⟩, rfl⟩
    · rw [if_pos h1, if_neg h1]
      exact ⟨(w3, w4, τ), ⟨p1, p2, p3⟩, rfl⟩) (.null, .null, sI (sI (sI σ 82 21 0) 82 22 0) 82 23 (-1000000)) ⟨rfl, rfl, ⟨(((sm.rf _ _).set _ _ (by decide)).set _ _ (by decide)).set _ _ (by decide), fun k h1 h2 h3 => by rw [sI_k _ h3, sI_k _ h2, sI_k _ h1], by rw [sI_k _ (by decide), sI_k _ (by decide), sI_1]; rfl, by rw [sI_k _ (by decide), sI_1]; rfl, by rw [sI_1]; rfl⟩⟩
  refine ⟨τ, cV_ev mi_252 ((u_252_82 d σ _).trans (e.trans ?_)) rfl, p3⟩
  have e88 : τ.1 88 = σ.1 88 := p3.1.1 88 (by decide)
  simp only at p1 p2 ⊢
  rw [u_252_82p18 _ _ _ _ _ p1 _ p2, e88, hs, if_neg (nnl (Nat.le_refl n))]
/-- the class's nearest one and the reference's least unlike ones are the same -/
abbrev nrP (yr : Nat → Int32) (row : Nat → Nat → Int32) (c : Nat) (v : Int32) (k : Nat) : Prop := erP yr k c ∧ unl (row k) (row c) = v
theorem unl_12 (f g : Nat → Int32) : unl f g < 12 ∧ 0 ≤ (unl f g).toInt := by
  rw [unl_n]
  have := cn_le (ulP f g) 11
  exact ⟨nlt (N := 12) (by omega), by rw [nI_i (by omega)]; omega⟩
theorem cn_0 {P : Nat → Prop} [DecidablePred P] : ∀ {n : Nat}, (∀ i, i < n → ¬ P i) → cn P n = 0
  | 0, _ => rfl
  | n + 1, h => by rw [cn_s, if_neg (h n (Nat.lt_succ_self n)), cn_0 (fun i hi => h i (by omega))]
theorem sk_nmo (yr : Nat → Int32) (row : Nat → Nat → Int32) (c : Nat) : ∀ n, n ≤ 12 → (nmo yr row c n = (-1000000, 12) ∧ skm yr row c n = (0, 0, -1000000)  ∧ (∀ i, i < n → ¬ erP yr i c)) ∨ ∃ j v, j < n ∧ nmo yr row c n = (nI j, v) ∧ skm yr row c n = (v, nI (cn (nrP yr row c v) n), nI j) ∧ 0 < cn (nrP yr row c v) n ∧ (∀ i, i < n → erP yr i c → ¬ unl (row i) (row c) < v) := by
  intro n
  induction n with
  | zero => intro _; exact Or.inl ⟨rfl, rfl, fun i hi => absurd hi (Nat.not_lt_zero i)⟩
  | succ n ih =>
    intro hn
    have e1 : nmo yr row c (n + 1) = nmF yr row c n (nmo yr row c n) := rfl
    have e2 : skm yr row c (n + 1) = skF yr row c n (skm yr row c n) := rfl
    obtain ⟨f1, f2, f3⟩ | ⟨j, v, hj, f1, f2, hp, hl⟩ := ih (by omega)
    · rw [e1, e2, f1, f2]
      unfold nmF skF
      by_cases h1 : erP yr n c
      · right
        rw [if_pos h1, if_pos (Or.inl rfl), if_pos ⟨h1, (unl_12 _ _).1⟩]
        have e3 : cn (nrP yr row c (unl (row n) (row c))) (n + 1) = 1 := by
          rw [cn_s, if_pos ⟨h1, rfl⟩, cn_0 (fun i hi q => f3 i hi q.1)]
        refine ⟨n, unl (row n) (row c), Nat.lt_succ_self n, rfl, by rw [e3]; rfl, by rw [e3]; exact Nat.one_pos, fun i hi he => ?_⟩
        by_cases hi2 : i = n
        · rw [hi2, i_lt]
          omega
        · exact absurd he (f3 i (by omega))
      · left
        rw [if_neg h1, if_neg (fun q => h1 q.1)]
        refine ⟨rfl, rfl, fun i hi => ?_⟩
        by_cases hi2 : i = n
        · rw [hi2]
          exact h1
        · exact f3 i (by omega)
    · rw [e1, e2, f1, f2]
      right
      have hm := cn_le (nrP yr row c v) n
      have hz : nI (cn (nrP yr row c v) n) ≠ 0 := fun q => by
        have := nI_inj (b := 0) (by omega) (by omega) q
        omega
      unfold nmF skF
      simp only
      by_cases h1 : erP yr n c
      · rw [if_pos h1]
        by_cases h2 : unl (row n) (row c) < v
        · rw [if_pos ⟨h1, h2⟩, if_pos (Or.inr h2)]
          have e3 : cn (nrP yr row c (unl (row n) (row c))) (n + 1) = 1 := by
            rw [cn_s, if_pos ⟨h1, rfl⟩, cn_0 (fun i hi q => hl i hi q.1 (by rw [q.2]; exact h2))]
          refine ⟨n, unl (row n) (row c), Nat.lt_succ_self n, rfl, by rw [e3]; rfl, by rw [e3]; exact Nat.one_pos, fun i hi he => ?_⟩
          by_cases hi2 : i = n
          · rw [hi2, i_lt]
            omega
          · have := hl i (by omega) he
            rw [i_lt] at this h2 ⊢
            omega
        · rw [if_neg (fun q => h2 q.2), if_neg (fun q => q.elim hz h2)]
          have hl2 : ∀ i, i < n + 1 → erP yr i c → ¬ unl (row i) (row c) < v := fun i hi he => by
            by_cases hi2 : i = n
            · rw [hi2]
              exact h2
            · exact hl i (by omega) he
          by_cases h3 : unl (row n) (row c) = v
          · rw [if_pos h3]
            refine ⟨j, v, by omega, rfl, ?_, ?_, hl2⟩
            · rw [cn_s (nrP yr row c v) n, if_pos ⟨h1, h3⟩, nI_add1]
            · rw [cn_s (nrP yr row c v) n, if_pos ⟨h1, h3⟩]
              omega
          · rw [if_neg h3]
            refine ⟨j, v, by omega, rfl, ?_, ?_, hl2⟩
            · rw [cn_s (nrP yr row c v) n, if_neg (fun q => h3 q.2)]
            · rw [cn_s (nrP yr row c v) n, if_neg (fun q => h3 q.2)]
              exact hp
      · rw [if_neg h1, if_neg (fun q => h1 q.1)]
        refine ⟨j, v, by omega, rfl, ?_, ?_, fun i hi he => ?_⟩
        · rw [cn_s (nrP yr row c v) n, if_neg (fun q => h1 q.1)]
        · rw [cn_s (nrP yr row c v) n, if_neg (fun q => h1 q.1)]
          exact hp
        · by_cases hi2 : i = n
          · rw [hi2] at he
            exact absurd he h1
          · exact hl i (by omega) he
theorem asn_n (yr : Nat → Int32) (row : Nat → Nat → Int32) (c : Nat) (v : Int32) (n : Nat) : asn yr row c v n = nI (cn (nrP yr row c v) n) := (it_cn (nrP yr row c v) 0 n).trans (by rw [Nat.zero_add])
