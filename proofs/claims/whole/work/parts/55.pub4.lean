/-! THE PUBLIC METHODS, 4: the fewest changes in all -/
theorem Sc_sk2 {σ τ ρ : ax_S} {s : Int32 × Int32 × Int32} (q : Sc σ τ) (h : sk3 τ ρ s) : Sc σ ρ := by
  obtain ⟨h1, h2, -⟩ := h
  refine ⟨q.1.tr (h1.up (by decide)), ?_, ?_, ?_, ?_, ?_⟩
  · rw [h2 1 (by decide) (by decide) (by decide)]; exact q.2.1
  · rw [h2 7 (by decide) (by decide) (by decide)]; exact q.2.2.1
  · rw [h2 10 (by decide) (by decide) (by decide)]; exact q.2.2.2.1
  · rw [h2 11 (by decide) (by decide) (by decide)]; exact q.2.2.2.2.1
  · rw [h2 43 (by decide) (by decide) (by decide)]; exact q.2.2.2.2.2
theorem L_add {a b : Nat} (h : a + b < 2147483648) : (nI a).toInt64 + (nI b).toInt64 = (nI (a + b)).toInt64 := by
  apply Int64.toInt_inj.mp
  rw [Int64.toInt_add, l_i, l_i, l_i, nI_i (by omega), nI_i (by omega), nI_i (by omega)]
  exact (Int.bmod_eq_of_le (by omega) (by omega)).trans (by omega)
/-- the sums: in ints, and in longs -/
theorem lcs_L (yr : Nat → Int32) (row : Nat → Nat → Int32) {n : Nat} (hn : n ≤ 12) : it (fun c u => u + (skm yr row c n).1.toInt64) n 0 = (lcs yr row n).toInt64 := by
  have h := it_two (f := fun c (u : Int64) => u + (skm yr row c n).1.toInt64) (g := fun c (u : Int32) => if (nmo yr row c n).1 = -1000000 then u else u + (nmo yr row c n).2) (N := n) (P := fun k a b => ∃ s, s ≤ 11 * k ∧ a = (nI s).toInt64 ∧ b = nI s) (s := 0) (t := 0) ⟨0, by omega, rfl, rfl⟩ (fun k a b hk h => by
    obtain ⟨s, h1, h2, h3⟩ := h
    obtain ⟨f1, f2, -⟩ | ⟨j, v, hj, f1, f2, -⟩ := sk_nmo yr row k n hn
    · refine ⟨s, by omega, ?_, ?_⟩
      · show a + (skm yr row k n).1.toInt64 = _
        rw [f2, h2]
        exact L_add (b := 0) (by omega)
      · show (if (nmo yr row k n).1 = -1000000 then b else _) = _
        rw [f1, if_pos rfl, h3]
    · obtain g | ⟨i, hi, g⟩ := nmo_c yr row k n
      · rw [f1] at g
        exact absurd (congrArg Prod.fst g) (nI_nn (by omega))
      · rw [f1] at g
        have g2 : v = unl (row i) (row k) := congrArg Prod.snd g
        have g3 := cn_le (ulP (row i) (row k)) 11
        rw [unl_n] at g2
        refine ⟨s + cn (ulP (row i) (row k)) 11, by omega, ?_, ?_⟩
        · show a + (skm yr row k n).1.toInt64 = _
          rw [f2, h2, g2]
          exact L_add (by omega)
        · show (if (nmo yr row k n).1 = -1000000 then b else b + (nmo yr row k n).2) = _
          rw [f1, if_neg (nI_nn (by omega)), h3, g2]
          exact nI_pl (by omega)) n (Nat.le_refl n)
  obtain ⟨s, -, h2, h3⟩ := h
  exact h2.trans (by
    unfold lcs
    rw [h3])
theorem lrs_L (yr : Nat → Int32) (row : Nat → Nat → Int32) {n : Nat} (hn : n ≤ 12) : it (fun c u => if (skm yr row c n).2.1 = 0 then u else u * (skm yr row c n).2.1.toInt64) n 1 = lrs yr row n := it_congr (fun k u hk => by
  obtain ⟨f1, f2, -⟩ | ⟨j, v, hj, f1, f2, f3, -⟩ := sk_nmo yr row k n hn
  · rw [f1, f2, if_pos rfl, if_pos rfl]
  · have := cn_le (nrP yr row k v) n
    rw [f1, f2, if_neg (nI_nn (by omega)), if_neg (fun q => by
      have := nI_inj (b := 0) (by omega) (by omega) q
      omega), asn_n])
theorem m_mothers (d : Nat) {σ : ax_S} {n : Nat} (x : Int32) (hs : σ.1 88 0 = nI n) (hn : n ≤ 12) (hi : mI σ n) : ∃ ρ, Sc σ ρ ∧ ev sO (d + 5) 251 40 [.ref 82, .int x, .long 0, .null, .long 1, .null, .int 0] [] σ = some (some (.long (if x = 0 then (lcs (my σ) (mr σ) n).toInt64 else lrs (my σ) (mr σ) n)), ρ) := by
  obtain ⟨⟨a, b, ρ⟩, ⟨p1, p2, p3⟩, e⟩ := loop_P (E := fun k (s : Int64 × Int64 × ax_S) => ev sO (d + 5) 251 40 [.ref 82, .int x, .long s.1, .null, .long s.2.1, .null, .int (nI k)] [] s.2.2) (N := n) (P := fun k s => s.1 = it (fun c u => u + (skm (my σ) (mr σ) c n).1.toInt64) k 0 ∧ s.2.1 = it (fun c u => if (skm (my σ) (mr σ) c n).2.1 = 0 then u else u * (skm (my σ) (mr σ) c n).2.1.toInt64) k 1 ∧ Sc σ s.2.2) (fun k s hk hp => by
    obtain ⟨a, b, τ⟩ := s
    obtain ⟨p1, p2, p3⟩ := hp
    simp only at p1 p2 p3 ⊢
    have e88 : τ.1 88 = σ.1 88 := p3.1.1 88 (by decide)
    obtain ⟨er, ey, -, -, -, -, hI⟩ := m88 e88
    have hs2 : τ.1 88 0 = nI n := by rw [e88]; exact hs
    obtain ⟨υ, g1, g2⟩ := m_seekMother d hs2 hn (hI n hi) hk
    rw [er, ey] at g2
    rw [u_251_82p40, hs2, if_pos (nlt hk), g1, Option.bind_some, g2.2.2.1, g2.2.2.2.1, nI_add1]
    refine ⟨(a + (skm (my σ) (mr σ) k n).1.toInt64, (if (skm (my σ) (mr σ) k n).2.1 = 0 then b else b * (skm (my σ) (mr σ) k n).2.1.toInt64), υ), ⟨?_, ?_, Sc_sk2 p3 g2⟩, ?_⟩
    · rw [it_s, ← p1]
    · rw [it_s, ← p2]
    · split
      · rw [Int64.mul_one]
      · rfl) (0, 1, σ) ⟨rfl, rfl, sm.rf _ _, rfl, rfl, rfl, rfl, rfl⟩
  refine ⟨ρ, p3, e.trans ?_⟩
  have e88 : ρ.1 88 = σ.1 88 := p3.1.1 88 (by decide)
  simp only at p1 p2 ⊢
  rw [u_251_82p40, e88, hs, if_neg (nnl (Nat.le_refl n)), p1, p2, lcs_L _ _ hn, lrs_L _ _ hn]
  split <;> rfl
