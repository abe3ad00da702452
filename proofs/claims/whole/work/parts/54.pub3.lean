/-! THE PUBLIC METHODS, 3: baked, the nearest mother, the fewest changes -/
theorem rg01 {x : Int32} {b : Int} (h : rgP 0 b x) : ¬ x < 0 := by
  rw [i_lt, i_0]
  have := h.1
  omega
theorem t_baked (d : Nat) {σ : ax_S} (x y : Int32) (r : Rd σ) (rk : Rk σ) : AK d σ 110 246 [.int x, .int y] := by
  obtain ⟨n, h⟩ := r
  obtain ⟨hn, hs, -⟩ := rd_of h
  obtain ⟨ms0, mi0, -, he, -⟩ := rd_m h (ρ := sI σ 82 0 0) (sI_n _ _ (by decide))
  have hK := rk_K rk (ρ := sI σ 82 0 0) (sI_n _ _ (by decide))
  refine ⟨if hasP (nI n) x ∧ rgP 0 1 y then (if y = 0 then (rse (kc σ) (cr σ x.toNatClampNeg)).toInt64 else if rse (kc σ) (cr σ x.toNatClampNeg) < kc σ 101 then 1 else 0) else BADv, _, cL_ev mi_110 ((u_110_0 _ σ _ _).trans ?_) rfl, cL_ev mi_246 ((u_246_82 _ σ _ _).trans ?_) rfl, Sc_0 σ⟩
  · simp only [s_has, hs, Option.bind_some, bi_0]
    by_cases h1 : hasP (nI n) x
    · rw [if_neg (fun q => q h1)]
      by_cases h2 : rgP 0 1 y
      · rw [if_neg (show ¬ y < 0 from rg01 h2), if_neg (show ¬ (1 : Int32) < y by rw [i_lt, i_1]; have := h2.2; omega), if_pos (show hasP (nI n) x ∧ rgP 0 1 y from ⟨h1, h2⟩)]
        obtain ⟨a, ha, e1⟩ := hasP_of hn h1
        rw [e1, nI_c (by omega)]
        simp only [s_riseOf _ hs hn ha, s_sinks _ hs hn ha, Option.bind_some, bi_0]
        by_cases h3 : y = 0
        · rw [if_pos h3, if_pos h3]
        · rw [if_neg h3, if_neg h3]
          by_cases h4 : rse (kc σ) (cr σ a) < kc σ 101
          · rw [if_neg (fun q => q h4), if_pos h4]
          · rw [if_pos h4, if_neg h4]
      · rw [if_neg (show ¬ (hasP (nI n) x ∧ rgP 0 1 y) from fun q => h2 q.2)]
        by_cases h3 : y < 0
        · rw [if_pos h3]
        · rw [if_neg h3]
          by_cases h4 : (1 : Int32) < y
          · rw [if_pos h4]
          · exfalso
            rw [i_lt, i_0] at h3
            rw [i_lt, i_1] at h4
            exact h2 ⟨by omega, by omega⟩
    · rw [if_pos h1, if_neg (fun q => h1 q.1)]
  · simp only [m_isCard _ _ ms0 hn, m_in, l_i, l_0, show (1 : Int64).toInt = 1 by decide, Option.bind_some, bi_0]
    by_cases h1 : hasP (nI n) x
    · rw [if_neg (fun q => q h1)]
      by_cases h2 : rgP 0 1 y
      · rw [if_neg (show ¬ ¬ rgP 0 1 y from fun q => q h2), if_pos (show hasP (nI n) x ∧ rgP 0 1 y from ⟨h1, h2⟩)]
        obtain ⟨a, ha, e1⟩ := hasP_of hn h1
        rw [e1, nI_c (by omega)]
        simp only [m_riseOf _ 0 hn mi0 ha ha, m_sinks _ 0 hn mi0 ha ha, Option.bind_some, bi_0, rsx_0]
        rw [rse_c hK (he a ha).2, hK 101 (by omega) (by omega)]
        by_cases h3 : y = 0
        · rw [if_pos h3, if_pos h3]
        · rw [if_neg h3, if_neg h3]
          by_cases h4 : rse ((sI σ 82 0 0).1 86) (mr (sI σ 82 0 0) a) < (sI σ 82 0 0).1 86 101
          · rw [if_neg (fun q => q h4), if_pos h4]
          · rw [if_pos h4, if_neg h4]
      · rw [if_pos h2, if_neg (fun q => h2 q.2)]
    · rw [if_pos h1, if_neg (fun q => h1 q.1)]
theorem Sc_sk {σ τ : ax_S} {s : Int32 × Int32 × Int32} (h : sk3 (sI σ 82 0 0) τ s) : Sc σ τ := by
  obtain ⟨h1, h2, -⟩ := h
  have q := Sc_0 σ
  refine ⟨q.1.tr (h1.up (by decide)), ?_, ?_, ?_, ?_, ?_⟩
  · rw [h2 1 (by decide) (by decide) (by decide)]; exact q.2.1
  · rw [h2 7 (by decide) (by decide) (by decide)]; exact q.2.2.1
  · rw [h2 10 (by decide) (by decide) (by decide)]; exact q.2.2.2.1
  · rw [h2 11 (by decide) (by decide) (by decide)]; exact q.2.2.2.2.1
  · rw [h2 43 (by decide) (by decide) (by decide)]; exact q.2.2.2.2.2
theorem t_mother (d : Nat) {σ : ax_S} (x : Int32) (r : Rd σ) : AK d σ 130 254 [.int x] := by
  obtain ⟨n, h⟩ := r
  obtain ⟨hn, hs, -⟩ := rd_of h
  obtain ⟨ms0, mi0, -, he, -⟩ := rd_m h (ρ := sI σ 82 0 0) (sI_n _ _ (by decide))
  by_cases h1 : hasP (nI n) x
  · obtain ⟨a, ha, e1⟩ := hasP_of hn h1
    obtain ⟨τ, e2, e3⟩ := m_seekMother (d + 15) ms0 hn mi0 ha
    refine ⟨(nmo (σ.1 19) (cr σ) a n).1.toInt64, τ, cL_ev mi_130 ((u_130_0 _ σ _).trans ?_) rfl, cL_ev mi_254 ((u_254_82 _ σ _).trans ?_) rfl, Sc_sk e3⟩
    · simp only [s_has, hs, Option.bind_some, bi_0]
      rw [if_neg (fun q => q h1), e1, s_nearestMother _ hs hn ha, Option.bind_some]
    · simp only [m_isCard _ _ ms0 hn, Option.bind_some, bi_0]
      rw [if_neg (fun q => q h1), e1, e2, Option.bind_some, e3.2.2.2.2, nmo_e he ha]
      obtain ⟨f1, f2, -⟩ | ⟨j, v, -, f1, f2, -⟩ := sk_nmo (my (sI σ 82 0 0)) (mr (sI σ 82 0 0)) a n hn
      · rw [f1, f2]
      · rw [f1, f2]
  · refine ⟨BADv, _, cL_ev mi_130 ((u_130_0 _ σ _).trans ?_) rfl, cL_ev mi_254 ((u_254_82 _ σ _).trans ?_) rfl, Sc_0 σ⟩
    · simp only [s_has, hs, Option.bind_some, bi_0]
      rw [if_pos h1]
    · simp only [m_isCard _ _ ms0 hn, Option.bind_some, bi_0]
      rw [if_pos h1]
