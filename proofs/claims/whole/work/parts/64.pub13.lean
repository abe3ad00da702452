/-! THE PUBLIC METHODS, 13: mend -/
abbrev alk (f g : Nat → Int32) (k : Nat) : Prop := f k ≠ -1000000 ∧ g k ≠ -1000000 ∧ f k = g k
theorem agr_1 {f g h : Nat → Int32} {k : Nat} (q : alk f g k ∨ alk f h k) : agr (f k) (g k) (h k) = f k ∧ f k ≠ -1000000 := by
  have h1 : f k ≠ -1000000 ∧ (f k = g k ∨ f k = h k) := q.elim (fun z => ⟨z.1, Or.inl z.2.2⟩) (fun z => ⟨z.1, Or.inr z.2.2⟩)
  exact ⟨if_pos h1, h1.1⟩
theorem agr_2 {f g h : Nat → Int32} {k : Nat} (q : ¬ (alk f g k ∨ alk f h k)) : ¬ (f k ≠ -1000000 ∧ (f k = g k ∨ f k = h k)) := by
  rintro ⟨h1, h2 | h2⟩
  · exact q (Or.inl ⟨h1, h2 ▸ h1, h2⟩)
  · exact q (Or.inr ⟨h1, h2 ▸ h1, h2⟩)
theorem agr_3 {f g h : Nat → Int32} {k : Nat} (q : ¬ (alk f g k ∨ alk f h k)) (q2 : alk g h k) : agr (f k) (g k) (h k) = g k ∧ g k ≠ -1000000 := by
  refine ⟨?_, q2.1⟩
  unfold agr
  rw [if_neg (agr_2 q), if_pos q2.2.2]
theorem agr_4 {f g h : Nat → Int32} {k : Nat} (q : ¬ (alk f g k ∨ alk f h k)) (q2 : ¬ alk g h k) : agr (f k) (g k) (h k) = -1000000 := by
  unfold agr
  rw [if_neg (agr_2 q)]
  by_cases h1 : g k = h k
  · rw [if_pos h1]
    apply Decidable.byContradiction
    intro h2
    exact q2 ⟨h2, h1 ▸ h2, h1⟩
  · rw [if_neg h1]
/-- a mark that is mended -/
abbrev mdP (row : Nat → Nat → Int32) (c x y z m : Nat) : Prop := row c m = -1000000 ∧ agr (row x m) (row y m) (row z m) ≠ -1000000
/-- the reference's row so far -/
abbrev mdN (σ τ : ax_S) (c x y z k : Nat) : Prop := (∀ i, (∀ m, m < 11 → i ≠ 15 * c + 5 + m) → i ≠ 15 * c + 4 → τ.1 88 i = σ.1 88 i) ∧ (∀ m, m < 32 → bt (ms τ c) m = if m < k ∧ mdP (mr σ) c x y z m then false else bt (ms σ c) m) ∧ (∀ m, m < 11 → mk τ c m = if m < k ∧ mdP (mr σ) c x y z m then agr (mr σ x m) (mr σ y m) (mr σ z m) else mk σ c m)
theorem bt_off (x : Int32) {j k : Nat} (hj : j < 32) (hk : k < 32) : bt (x &&& (b1 j ^^^ (-1))) k = (bt x k && !decide (k = j)) := by
  rw [bt_and, bt_xor, bt_1 hj hk, bt_m1 hk, Bool.xor_true]
/-- of one mark more -/
theorem mdN_put {σ τ : ax_S} {c x y z k : Nat} (hk : k < 11) (h : mdN σ τ c x y z k) (hp : mdP (mr σ) c x y z k) : mdN σ (sI (sI τ 88 (15 * c + 4) (τ.1 88 (15 * c + 4) &&& (b1 k ^^^ (-1)))) 88 (15 * c + 5 + k) (agr (mr σ x k) (mr σ y k) (mr σ z k))) c x y z (k + 1) := by
  obtain ⟨h1, h2, h3⟩ := h
  refine ⟨fun i hi1 hi2 => ?_, fun m hm => ?_, fun m hm => ?_⟩
  · rw [sI_k _ (hi1 k hk), sI_k _ hi2]
    exact h1 i hi1 hi2
  · have e : ms (sI (sI τ 88 (15 * c + 4) (τ.1 88 (15 * c + 4) &&& (b1 k ^^^ (-1)))) 88 (15 * c + 5 + k) (agr (mr σ x k) (mr σ y k) (mr σ z k))) c = ms τ c &&& (b1 k ^^^ (-1)) := by
      unfold ms
      rw [sI_k _ (by omega), sI_1]
    rw [e, bt_off _ (by omega) hm, h2 m hm]
    by_cases q : m = k
    · subst q
      rw [decide_eq_true rfl, Bool.not_true, Bool.and_false, if_pos ⟨Nat.lt_succ_self m, hp⟩]
    · rw [decide_eq_false q, Bool.not_false, Bool.and_true]
      by_cases q2 : m < k ∧ mdP (mr σ) c x y z m
      · rw [if_pos q2, if_pos ⟨by omega, q2.2⟩]
      · rw [if_neg q2, if_neg (fun q3 => q2 ⟨by have := q3.1; omega, q3.2⟩)]
  · have e : ∀ v w, mk (sI (sI τ 88 (15 * c + 4) w) 88 (15 * c + 5 + k) v) c m = if m = k then v else mk τ c m := by
      intro v w
      unfold mk
      by_cases q : m = k
      · rw [if_pos q, q, sI_1]
      · rw [if_neg q, sI_k _ (by omega), sI_k _ (by omega)]
    rw [e, h3 m hm]
    by_cases q : m = k
    · subst q
      rw [if_pos rfl, if_pos ⟨Nat.lt_succ_self m, hp⟩]
    · rw [if_neg q]
      by_cases q2 : m < k ∧ mdP (mr σ) c x y z m
      · rw [if_pos q2, if_pos ⟨by omega, q2.2⟩]
      · rw [if_neg q2, if_neg (fun q3 => q2 ⟨by have := q3.1; omega, q3.2⟩)]
theorem mdN_skip {σ τ : ax_S} {c x y z k : Nat} (h : mdN σ τ c x y z k) (hp : ¬ mdP (mr σ) c x y z k) : mdN σ τ c x y z (k + 1) := by
  obtain ⟨h1, h2, h3⟩ := h
  refine ⟨h1, fun m hm => ?_, fun m hm => ?_⟩
  · rw [h2 m hm]
    by_cases q2 : m < k ∧ mdP (mr σ) c x y z m
    · rw [if_pos q2, if_pos ⟨by omega, q2.2⟩]
    · rw [if_neg q2, if_neg (fun q3 => q2 ⟨by
        have := q3.1
        have : m ≠ k := fun q => hp (q ▸ q3.2)
        omega, q3.2⟩)]
  · rw [h3 m hm]
    by_cases q2 : m < k ∧ mdP (mr σ) c x y z m
    · rw [if_pos q2, if_pos ⟨by omega, q2.2⟩]
    · rw [if_neg q2, if_neg (fun q3 => q2 ⟨by
        have := q3.1
        have : m ≠ k := fun q => hp (q ▸ q3.2)
        omega, q3.2⟩)]
theorem m_mend (d : Nat) {σ : ax_S} {n c x y z : Nat} (hn : n ≤ 12) (hi : mI σ n) (hc : c < n) (hx : x < n) (hy : y < n) (hz : z < n) (cx : x ≠ c) (cy : y ≠ c) (cz : z ≠ c) : ∃ ρ, ev sO (d + 3) 276 81 [.ref 82, .int (nI c), .int (nI x), .int (nI y), .int (nI z), .int 0, .int 0, .null] [] σ = some (some (.long (nI (mdn (mr σ) c x y z)).toInt64), ρ) ∧ sm [88] σ ρ ∧ mdN σ ρ c x y z 11 := by
  obtain ⟨⟨u, w, ρ⟩, ⟨p1, p2, p3, p4⟩, e⟩ := loop_P (E := fun k (s : Int32 × Value × ax_S) => ev sO (d + 3) 276 81 [.ref 82, .int (nI c), .int (nI x), .int (nI y), .int (nI z), .int s.1, .int (nI k), s.2.1] [] s.2.2) (N := 11) (P := fun k s => s.1 = nI (cn (mdP (mr σ) c x y z) k) ∧ c1 s.2.1 ∧ sm [88] σ s.2.2 ∧ mdN σ s.2.2 c x y z k) (fun k s hk hp => by
    obtain ⟨u, w, τ⟩ := s
    obtain ⟨p1, p2, p3, p4⟩ := hp
    simp only at p1 p2 p3 p4 ⊢
    have oth : ∀ j, j < n → j ≠ c → mk τ j = mk σ j ∧ ms τ j = ms σ j := fun j hj hjc => by
      refine ⟨?_, ?_⟩
      · sorry
      · unfold ms
        exact p4.1 _ (fun m hm => by omega) (by omega)
    sorry) (0, .null, σ) ⟨rfl, rfl, sm.rf _ _, fun i _ _ => rfl, fun m hm => by rw [if_neg (fun q => Nat.not_lt_zero m q.1)], fun m hm => by rw [if_neg (fun q => Nat.not_lt_zero m q.1)]⟩
  refine ⟨ρ, e.trans ?_, p3, p4⟩
  simp only at p1 p2 ⊢
  rw [u_276_82p81 _ _ _ _ _ _ _ _ _ p2, if_neg g11, p1]
  rfl
