/-! THE PUBLIC METHODS, 6: fault, status, trace -/
abbrev AI (d : Nat) (σ : ax_S) (c m : Nat) (as : List Value) : Prop := ∃ v ρ, cI sO (d + 20) c (.ref 0 :: as) σ = some (v, σ) ∧ cI sO (d + 20) m (.ref 82 :: as) σ = some (v, ρ) ∧ Sc σ ρ
theorem t_status (d : Nat) {σ : ax_S} (r : Rf σ) : AI d σ 194 292 [] := by
  refine ⟨σ.1 0 10, sI σ 82 0 0, cI_ev mi_194 (u_194_0 _ σ) rfl, cI_ev mi_292 ((u_292_82 _ σ).trans ?_) rfl, Sc_0 σ⟩
  rw [sI_k _ (by decide)]
  unfold Rf at r
  rw [r]
theorem s_latestFault (d : Nat) (σ : ax_S) : cI sO d 86 [.ref 5] σ = some (σ.1 5 2, σ) := cI_ev mi_86 (u_86_5 d σ) rfl
theorem t_fault (d : Nat) {σ : ax_S} (r : Rt σ) : AI d σ 85 227 [] := by
  refine ⟨σ.1 5 2, sI σ 82 0 0, cI_ev mi_85 ((u_85_0 _ σ).trans ?_) rfl, cI_ev mi_227 ((u_227_82 _ σ).trans ?_) rfl, Sc_0 σ⟩
  · rw [s_latestFault, Option.bind_some]
  · rw [sI_k _ (by decide), r.1]
theorem t_trace (d : Nat) {σ : ax_S} (x : Int32) (r : Rtr σ) : AI d σ 188 290 [.int x] := by
  obtain ⟨n, hn, h1, h2, h3⟩ := r
  have e : (nI n - 1).toInt = n - 1 := by
    rw [i_sub, nI_i (by omega), i_1]
    · rw [nI_i (by omega), i_1]; omega
    · rw [nI_i (by omega), i_1]; omega
  by_cases h : 0 ≤ x.toInt ∧ x.toInt ≤ (n : Int) - 1
  · obtain ⟨k, k1, k2, k3⟩ := i_nI h.1
    have hk : k < n := by omega
    refine ⟨σ.1 81 k, sI σ 82 0 0, cI_ev mi_188 ((u_188_0 _ σ _).trans ?_) rfl, cI_ev mi_290 ((u_290_82 _ σ _).trans ?_) rfl, Sc_0 σ⟩
    · rw [cI_ev (v := σ.1 81 k) (h' := σ) mi_189 ((u_189_80 _ σ _).trans ?_) rfl, Option.bind_some]
      rw [k2, h1, if_neg (by rw [i_lt, nI_i (by omega), i_0]; omega), if_pos (nlt hk), if_pos (show nI k < (16 : Int32) from nlt (N := 16) (by omega)), gd_t (by rw [nI_i (by omega)]; omega), nI_c (by omega)]
    · rw [sI_k _ (by decide), h2]
      simp only [m_in, l_i, l_0, e, Option.bind_some, bi_0]
      rw [if_neg (fun q => q h), k2, gd_t (by rw [nI_i (by omega)]; omega), nI_c (by omega), sI_n _ _ (by decide), h3 k hk]
  · refine ⟨-1000000, sI σ 82 0 0, cI_ev mi_188 ((u_188_0 _ σ _).trans ?_) rfl, cI_ev mi_290 ((u_290_82 _ σ _).trans ?_) rfl, Sc_0 σ⟩
    · rw [cI_ev (v := -1000000) (h' := σ) mi_189 ((u_189_80 _ σ _).trans ?_) rfl, Option.bind_some]
      rw [h1]
      by_cases q1 : x < 0
      · rw [if_pos q1]
      · rw [if_neg q1]
        by_cases q2 : x < nI n
        · exfalso
          rw [i_lt, i_0] at q1
          rw [i_lt, nI_i (by omega)] at q2
          exact h ⟨by omega, by omega⟩
        · rw [if_neg q2]
    · rw [sI_k _ (by decide), h2]
      simp only [m_in, l_i, l_0, e, Option.bind_some, bi_0]
      rw [if_pos h]
