/-! THE PUBLIC METHODS, 14: mend -/
theorem mdn_e {row row' : Nat → Nat → Int32} {n c x y z : Nat} (h : ∀ j, j < n → eqR (row j) (row' j)) (hc : c < n) (hx : x < n) (hy : y < n) (hz : z < n) : mdn row c x y z = mdn row' c x y z := cn_congr (fun k hk => by rw [h c hc k hk, h x hx k hk, h y hy k hk, h z hz k hk])
theorem t_mend (d : Nat) {σ : ax_S} (x1 x2 x3 x4 : Int32) (r : RA σ) : PB d σ 167 276 [.int x1, .int x2, .int x3, .int x4] := by
  obtain ⟨n, h⟩ := r.1
  obtain ⟨hn, hs, hs88, hi, -, -, hE, -⟩ := rd_of h
  by_cases hb : mdG n x1 x2 x3 x4
  · obtain ⟨h1, h2, h3, h4, q1, q2, q3, q4, q5, q6⟩ := hb
    obtain ⟨c, hc, e1⟩ := hasP_of hn h1
    obtain ⟨x, hx, e2⟩ := hasP_of hn h2
    obtain ⟨y, hy, e3⟩ := hasP_of hn h3
    obtain ⟨z, hz, e4⟩ := hasP_of hn h4
    have cx : x ≠ c := fun q => q1 (by rw [e1, e2, q])
    have cy : y ≠ c := fun q => q2 (by rw [e1, e3, q])
    have cz : z ≠ c := fun q => q3 (by rw [e1, e4, q])
    obtain ⟨τ, ht, sτ, hm⟩ := s_mendFrom (d + 17) hs hn hc hx hy hz cx cy cz
    have e88 : (sI τ 82 0 0).1 88 = σ.1 88 := by rw [sI_n _ _ (by decide), sτ.1 88 (by decide)]
    have hs2 : (sI τ 82 0 0).1 88 0 = nI n := by rw [e88]; exact hs88
    obtain ⟨emr, -, -, -, ems, emk, hmi⟩ := m88 e88
    obtain ⟨ρ, hr, sρ, hN⟩ := m_mend (d + 17) hn (hmi n hi) hc hx hy hz cx cy cz
    have hN2 : mdN σ ρ c x y z 11 := by
      obtain ⟨n1, n2, n3⟩ := hN
      refine ⟨fun i a1 a2 => (n1 i a1 a2).trans (by rw [e88]), fun m hm => (n2 m hm).trans ?_, fun m hm => (n3 m hm).trans ?_⟩
      · rw [emr, ems]
      · rw [emr, emk]
    have hSd : Sd σ ρ := by
      refine ⟨((sτ.up (by decide)).set 0 0 (by decide)).tr (sρ.up (by decide)), ?_, ?_, ?_, ?_, ?_⟩
      all_goals rw [sρ.1 82 (by decide), sI_k _ (by decide), sτ.1 82 (by decide)]
    refine ⟨(nI (mdn (cr σ) c x y z)).toInt64, τ, ρ, cL_ev mi_167 ((u_167_0 _ σ _ _ _ _).trans ?_) rfl, cL_ev mi_276 ((u_276_82 _ τ _ _ _ _).trans ?_) rfl, RA_Sd hSd ⟨n, ?_⟩ r, Fo_Sd hSd⟩
    · simp only [s_has, hs, Option.bind_some, bi_0]
      rw [if_neg (fun q => q h1), if_neg (fun q => q h2), if_neg (fun q => q h3), if_neg (fun q => q h4), if_neg q1, if_neg q2, if_neg q3, if_neg q4, if_neg q5, if_neg q6, e1, e2, e3, e4, ht, Option.bind_some]
    · simp only [m_isCard _ _ hs2 hn, Option.bind_some, bi_0]
      rw [if_neg (fun q => q h1), if_neg (fun q => q h2), if_neg (fun q => q h3), if_neg (fun q => q h4), if_neg q1, if_neg q2, if_neg q3, if_neg q4, if_neg q5, if_neg q6, e1, e2, e3, e4, hr, emr, mdn_e (fun j hj => (hE j hj).2) hc hx hy hz]
    · rw [sρ.1 17 (by decide), sρ.1 18 (by decide), sρ.1 19 (by decide), sρ.1 20 (by decide), sρ.1 21 (by decide), sI_n _ _ (by decide), sI_n _ _ (by decide), sI_n _ _ (by decide), sI_n _ _ (by decide), sI_n _ _ (by decide), sτ.1 17 (by decide), sτ.1 18 (by decide), sτ.1 19 (by decide), sτ.1 20 (by decide)]
      exact RD_mend h hc hx hy hz cx cy cz hm hN2
  · refine AK.pb ⟨BADv, sI σ 82 0 0, cL_ev mi_167 ((u_167_0 _ σ _ _ _ _).trans ?_) rfl, cL_ev mi_276 ((u_276_82 _ σ _ _ _ _).trans ?_) rfl, Sc_0 σ⟩ r
    · simp only [s_has, hs, Option.bind_some, bi_0]
      repeat (split; · rfl)
      rename_i a1 a2 a3 a4 a5 a6 a7 a8 a9 b1
      exact absurd ⟨Decidable.not_not.mp a1, Decidable.not_not.mp a2, Decidable.not_not.mp a3, Decidable.not_not.mp a4, a5, a6, a7, a8, a9, b1⟩ hb
    · obtain ⟨ms0, -⟩ := rd_m h (ρ := sI σ 82 0 0) (sI_n _ _ (by decide))
      simp only [m_isCard _ _ ms0 hn, Option.bind_some, bi_0]
      repeat (split; · rfl)
      rename_i a1 a2 a3 a4 a5 a6 a7 a8 a9 b1
      exact absurd ⟨Decidable.not_not.mp a1, Decidable.not_not.mp a2, Decidable.not_not.mp a3, Decidable.not_not.mp a4, a5, a6, a7, a8, a9, b1⟩ hb
