/-! THE PUBLIC METHODS, 1: cards held against one another -/
theorem m88 {σ ρ : ax_S} (h : ρ.1 88 = σ.1 88) : mr ρ = mr σ ∧ my ρ = my σ ∧ mm ρ = mm σ ∧ ml ρ = ml σ ∧ ms ρ = ms σ ∧ mk ρ = mk σ ∧ ∀ n, mI σ n → mI ρ n := by
  have e1 : mk ρ = mk σ := by
    funext j k
    unfold mk
    rw [h]
  have e2 : ms ρ = ms σ := by
    funext j
    unfold ms
    rw [h]
  have e3 : mo ρ = mo σ := by
    funext j
    unfold mo
    rw [h]
  refine ⟨?_, ?_, ?_, ?_, e2, e1, fun n hi => ?_⟩
  · funext j k
    unfold mr
    rw [e1, e2]
  · funext j
    unfold my
    rw [h]
  · funext j
    unfold mm
    rw [e3]
  · funext j
    unfold ml
    rw [h]
  · unfold mI at hi ⊢
    rw [e1, e2]
    exact hi
/-- what the reference's cards are, at a heap whose row 88 is the same -/
theorem rd_m {σ ρ : ax_S} {n : Nat} (h : RD (σ.1 17 0) (σ.1 18) (σ.1 19) (σ.1 20) (σ.1 21) (σ.1 88) n) (e : ρ.1 88 = σ.1 88) : ρ.1 88 0 = nI n ∧ mI ρ n ∧ moP (mm ρ) n ∧ eqD (σ.1 19) (my ρ) (cr σ) (mr ρ) n ∧ (∀ j, j < n → σ.1 20 j = mm ρ j) ∧ (∀ j, j < n → σ.1 18 j = ml ρ j) := by
  obtain ⟨hn, hs, hs2, hi, hm, hm2, he, hmo, hla⟩ := rd_of h
  obtain ⟨e1, e2, e3, e4, -, -, e7⟩ := m88 e
  rw [e, e1, e2, e3, e4]
  exact ⟨hs2, e7 n hi, hm2, he, hmo, hla⟩
/-- one ask: what the class answers and what the reference answers -/
abbrev AK (d : Nat) (σ : ax_S) (c m : Nat) (as : List Value) : Prop := ∃ v ρ, cL sO (d + 20) c (.ref 0 :: as) σ = some (v, σ) ∧ cL sO (d + 20) m (.ref 82 :: as) σ = some (v, ρ) ∧ Sc σ ρ
theorem t_unlike (d : Nat) {σ : ax_S} (x y : Int32) (r : Rd σ) : AK d σ 107 243 [.int x, .int y] := by
  obtain ⟨n, h⟩ := r
  obtain ⟨hn, hs, -⟩ := rd_of h
  obtain ⟨ms0, mi0, -, he, -⟩ := rd_m h (ρ := sI σ 82 0 0) (sI_n _ _ (by decide))
  refine ⟨if hasP (nI n) x ∧ hasP (nI n) y then (unl (cr σ x.toNatClampNeg) (cr σ y.toNatClampNeg)).toInt64 else -9000000000000000001, _, cL_ev mi_107 ((u_107_0 _ σ _ _).trans ?_) rfl, cL_ev mi_243 ((u_243_82 _ σ _ _).trans ?_) rfl, Sc_0 σ⟩
  · simp only [s_has, hs, Option.bind_some, bi_0]
    by_cases h1 : hasP (nI n) x
    · rw [if_neg (fun q => q h1)]
      by_cases h2 : hasP (nI n) y
      · rw [if_neg (fun q => q h2), if_pos ⟨h1, h2⟩]
        obtain ⟨a, ha, e1⟩ := hasP_of hn h1
        obtain ⟨b, hb, e2⟩ := hasP_of hn h2
        rw [e1, e2, s_apart _ hs hn ha hb, Option.bind_some, nI_c (by omega), nI_c (by omega)]
      · rw [if_pos h2, if_neg (fun q => h2 q.2)]
    · rw [if_pos h1, if_neg (fun q => h1 q.1)]
  · simp only [m_isCard _ _ ms0 hn, Option.bind_some, bi_0]
    by_cases h1 : hasP (nI n) x
    · rw [if_neg (fun q => q h1)]
      by_cases h2 : hasP (nI n) y
      · rw [if_neg (fun q => q h2), if_pos ⟨h1, h2⟩]
        obtain ⟨a, ha, e1⟩ := hasP_of hn h1
        obtain ⟨b, hb, e2⟩ := hasP_of hn h2
        rw [e1, e2, m_unlikeOf _ hn mi0 ha hb, Option.bind_some, nI_c (by omega), nI_c (by omega), unl_c (he a ha).2 (he b hb).2]
      · rw [if_pos h2, if_neg (fun q => h2 q.2)]
    · rw [if_pos h1, if_neg (fun q => h1 q.1)]
