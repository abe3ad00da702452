/-! TREES: the class builds one, all of it -/
theorem nI_dv {r b : Nat} (hr : r < 2147483648) (hb : 1 ≤ b) (hb2 : b < 2147483648) : nI r / nI b = nI (r / b) := by
  apply Int32.toInt_inj.mp
  have : r / b ≤ r := Nat.div_le_self r b
  rw [Int32.toInt_div_of_ne_right _ _ (fun z => by
    have : (nI b).toInt = (-1 : Int32).toInt := by rw [z]
    rw [nI_i hb2, show (-1 : Int32).toInt = -1 from rfl] at this
    omega), nI_i hr, nI_i hb2, nI_i (by omega), Int.tdiv_eq_ediv_of_nonneg (by omega)]
  rfl
theorem nI_md {r b : Nat} (hr : r < 2147483648) (hb : 1 ≤ b) (hb2 : b < 2147483648) : nI r - nI r / nI b * nI b = nI (r % b) := by
  have h1 : r / b ≤ r := Nat.div_le_self r b
  have h2 : r / b * b ≤ r := Nat.div_mul_le_self r b
  rw [nI_dv hr hb hb2, nI_mul (show r / b * b < 2147483648 by omega) (show r / b < 2147483648 by omega) hb2]
  apply Int32.toInt_inj.mp
  have h3 := Nat.mod_add_div' r b
  rw [i_sub (by rw [nI_i hr, nI_i (by omega)]; omega) (by rw [nI_i hr, nI_i (by omega)]; omega), nI_i hr, nI_i (by omega), nI_i (by omega)]
  omega
theorem s_bld (d : Nat) (w1 : Value) (h1 : c1 w1) {e : Nat} (he : e ≤ 6) : ∀ k j r (w4 : Value) (σ : ax_S) (g : CG), c1 w4 → j + k = e → 1 ≤ j → r < 2147483648 → σ.1 66 1 = nI e → GRel σ g j → ∃ τ, ev sO (d + 2) 145 17 [.ref 66, w1, .int (nI r), .int (nI j), w4] [] σ = some (none, τ) ∧ sm [66, 73, 74, 75, 77] σ τ ∧ (∀ f, f ≠ 8 → τ.1 66 f = σ.1 66 f) ∧ GRel τ (bldP k j r g) e
  | 0, j, r, w4, σ, g, h4, hk, hj, hr, h66, h => by
    refine ⟨σ, ?_, sm.rf _ _, fun _ _ => rfl, by rw [← hk]; exact h⟩
    rw [u_145_66p17 _ _ _ h1 _ _ _ h4, h66, if_neg (nnl (show e ≤ j by omega) (by omega))]
  | k + 1, j, r, w4, σ, g, h4, hk, hj, hr, h66, h => by
    have hb : (2 : Int32) * nI j - 1 = nI (2 * j - 1) := by
      rw [show (2 : Int32) * nI j = nI (2 * j) from nI_mul (a := 2) (by omega) (by omega) (by omega)]
      exact nI_sub1 (X := 2 * j) (by omega) (by omega)
    have hz : ¬ nI (2 * j - 1) = 0 := fun z => by
      have := nI_inj (b := 0) (by omega) (by omega) z
      omega
    have hmod : r % (2 * j - 1) < 2 * j - 1 := Nat.mod_lt _ (by omega)
    have hdiv : r / (2 * j - 1) ≤ r := Nat.div_le_self _ _
    obtain ⟨τ, e1, e2, e3, e4⟩ := s_graft d h hj (by omega) hmod
    obtain ⟨ρ, f1, f2, f3, f4⟩ := s_bld d w1 h1 he k (j + 1) (r / (2 * j - 1)) (.int (nI (2 * j - 1))) τ (graftP g j (r % (2 * j - 1))) rfl (by omega) (by omega) (by omega) (by rw [e3 1 (by decide)]; exact h66) e4
    refine ⟨ρ, ?_, e2.tr f2, fun f hf => (f3 f hf).trans (e3 f hf), f4⟩
    rw [u_145_66p17 _ _ _ h1 _ _ _ h4, h66, if_pos (nlt (show j < e by omega)), if_pos (show nI j < (6 : Int32) from nlt (N := 6) (by omega)), hb, gd_t hz, nI_md hr (by omega) (by omega), e1, Option.bind_some, gd_t hz, nI_dv hr (by omega) (by omega), nI_add1]
    exact f1
theorem s_build (d : Nat) {σ : ax_S} {e t : Nat} (h1 : 1 ≤ e) (he : e ≤ 6) (ht : t < 2147483648) (h66 : σ.1 66 1 = nI e) : ∃ τ, cV sO (d + 2) 145 [.ref 66, .int (nI t)] σ = some τ ∧ sm [66, 73, 74, 75, 77] σ τ ∧ (∀ f, f ≠ 8 → τ.1 66 f = σ.1 66 f) ∧ GRel τ (cTree e t) e := by
  obtain ⟨τ, e1, e2, e3, e4⟩ := s_bld d (.int (nI t)) rfl he (e - 1) 1 t .null (sI (sI σ 73 0 (-1000000)) 66 8 0) (n11, n11, n11, []) rfl (by omega) (by omega) ht (by rw [sI_k _ (by decide), sI_n _ _ (by decide)]; exact h66) ⟨⟨⟨rfl, rfl, rfl, rfl⟩, fun i hi => Or.inl (by
    have : i = 0 := by omega
    rw [this]
    rfl), fun k k1 k2 => absurd k2 (by omega), fun x hx => absurd hx (by simp)⟩, fun i hi => by
    have : i = 0 := by omega
    rw [this, sI_n _ _ (by decide), sI_1]
    rfl, fun k k1 k2 => absurd k2 (by omega), fun k hk => absurd hk (by omega), by rw [sI_1]; rfl⟩
  exact ⟨τ, cV_ev mi_145 ((u_145_66 d σ _).trans e1) rfl, (((sm.rf _ _).set _ _ (by decide)).set _ _ (by decide)).tr e2, fun f hf => by rw [e3 f hf, sI_k _ hf, sI_n _ _ (by decide)], e4⟩
