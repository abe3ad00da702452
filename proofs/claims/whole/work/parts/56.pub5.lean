/-! THE PUBLIC METHODS, 5: mothers; two -/
theorem t_mothers (d : Nat) {σ : ax_S} (x : Int32) (r : Rd σ) : AK d σ 123 251 [.int x] := by
  obtain ⟨n, h⟩ := r
  obtain ⟨hn, hs, -⟩ := rd_of h
  obtain ⟨ms0, mi0, -, he, -⟩ := rd_m h (ρ := sI σ 82 0 0) (sI_n _ _ (by decide))
  by_cases h1 : rgP 0 1 x
  · have hx0 : ¬ x < 0 := rg01 h1
    have hx1 : ¬ (1 : Int32) < x := by
      rw [i_lt, i_1]
      have := h1.2
      omega
    by_cases h2 : n = 0
    · subst h2
      refine ⟨-9000000000000000002, _, cL_ev mi_123 ((u_123_0 _ σ _).trans ?_) rfl, cL_ev mi_251 ((u_251_82 _ σ _).trans ?_) rfl, Sc_0 σ⟩
      · simp only [s_size, hs, Option.bind_some]
        rw [if_neg hx0, if_neg hx1, if_pos (show nI 0 = 0 from rfl)]
      · simp only [m_in, l_i, l_0, show (1 : Int64).toInt = 1 by decide, Option.bind_some, bi_0, ms0]
        rw [if_neg (fun q => q h1), if_pos (show nI 0 = 0 from rfl)]
    · have hz : nI n ≠ 0 := fun q => h2 (nI_inj (b := 0) (by omega) (by omega) q)
      obtain ⟨ρ, e1, e2⟩ := m_mothers (d + 15) x ms0 hn mi0
      refine ⟨if x = 0 then (lcs (σ.1 19) (cr σ) n).toInt64 else lrs (σ.1 19) (cr σ) n, ρ, cL_ev mi_123 ((u_123_0 _ σ _).trans ?_) rfl, cL_ev mi_251 ((u_251_82 _ σ _).trans ?_) rfl, ?_⟩
      · simp only [s_size, s_leastChanges _ hs hn, s_leastRows _ hs hn, Option.bind_some]
        rw [if_neg hx0, if_neg hx1, hs, if_neg hz]
        split <;> rfl
      · simp only [m_in, l_i, l_0, show (1 : Int64).toInt = 1 by decide, Option.bind_some, bi_0, ms0]
        rw [if_neg (fun q => q h1), if_neg hz, e2, lcs_e he, lrs_e he]
      · have q := Sc_0 σ
        exact ⟨q.1.tr e1.1, e1.2.1.trans q.2.1, e1.2.2.1.trans q.2.2.1, e1.2.2.2.1.trans q.2.2.2.1, e1.2.2.2.2.1.trans q.2.2.2.2.1, e1.2.2.2.2.2.trans q.2.2.2.2.2⟩
  · refine ⟨BADv, _, cL_ev mi_123 ((u_123_0 _ σ _).trans ?_) rfl, cL_ev mi_251 ((u_251_82 _ σ _).trans ?_) rfl, Sc_0 σ⟩
    · by_cases h3 : x < 0
      · rw [if_pos h3]
      · rw [if_neg h3]
        by_cases h4 : (1 : Int32) < x
        · rw [if_pos h4]
        · exfalso
          rw [i_lt, i_0] at h3
          rw [i_lt, i_1] at h4
          exact h1 ⟨by omega, by omega⟩
    · simp only [m_in, l_i, l_0, show (1 : Int64).toInt = 1 by decide, Option.bind_some, bi_0]
      rw [if_pos h1]
