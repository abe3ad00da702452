/-! THE PUBLIC METHODS, 10: findings; as -/
/-- what a call with a finding may leave changed beside: the class's finding, the reference's status and scratch -/
abbrev Sf (σ ρ : ax_S) : Prop := sm [0, 82, 87, 90, 91, 92, 93, 94, 95, 96, 97, 98, 99, 100] σ ρ ∧ (ρ.1 82 7 = σ.1 82 7 ∧ ρ.1 82 10 = σ.1 82 10 ∧ ρ.1 82 11 = σ.1 82 11 ∧ ρ.1 82 43 = σ.1 82 43) ∧ ρ.1 82 1 = ρ.1 0 10
theorem RA_Sf {σ ρ : ax_S} (h : Sf σ ρ) (r : RA σ) : RA ρ := by
  obtain ⟨⟨h1, -⟩, ⟨f7, f10, f11, f43⟩, ff⟩ := h
  obtain ⟨r1, r2, r3, r4, r5, r6, r7, r8⟩ := r
  refine ⟨Rd_c (fun a ha => h1 a ?_) r1, Rk_c (fun a ha => h1 a ?_) f7 r2, Rs_c (fun a ha => h1 a ?_) r3, Rt_c (fun a ha => h1 a ?_) (by rw [h1 5 (by decide)]) (by rw [h1 5 (by decide)]) f10 f11 r4, Ri_c (fun a ha => h1 a ?_) r5, Ri_c (fun a ha => h1 a ?_) r6, Rtr_c (fun a ha => h1 a ?_) (by rw [h1 80 (by decide)]) f43 r7, ff⟩
  all_goals (simp only [List.mem_cons, List.not_mem_nil, or_false] at ha ⊢; omega)
/-- the class's trees are as they were -/
abbrev Fo (σ ρ : ax_S) : Prop := (∀ a, 66 ≤ a → a ≤ 79 → ρ.1 a = σ.1 a) ∧ ρ.2 = σ.2
/-- one call of both -/
abbrev PB (d : Nat) (σ : ax_S) (c m : Nat) (as : List Value) : Prop := ∃ v τ ρ, cL sO (d + 20) c (.ref 0 :: as) σ = some (v, τ) ∧ cL sO (d + 20) m (.ref 82 :: as) τ = some (v, ρ) ∧ RA ρ ∧ Fo σ ρ
theorem Fo_sm {A : List Nat} {σ ρ : ax_S} (h : sm A σ ρ) (hA : ∀ a, 66 ≤ a → a ≤ 79 → a ∉ A) : Fo σ ρ := ⟨fun a h1 h2 => h.1 a (hA a h1 h2), h.2⟩
theorem AK.pb {d : Nat} {σ : ax_S} {c m : Nat} {as : List Value} (h : AK d σ c m as) (r : RA σ) : PB d σ c m as := by
  obtain ⟨v, ρ, h1, h2, h3⟩ := h
  refine ⟨v, σ, ρ, h1, h2, RA_Sc h3 r, Fo_sm h3.1 (fun a h1 h2 => ?_)⟩
  simp only [List.mem_cons, List.not_mem_nil, or_false]
  omega
theorem Fo_Sf {σ ρ : ax_S} (h : Sf σ ρ) : Fo σ ρ := Fo_sm h.1 (fun a h1 h2 => by
  simp only [List.mem_cons, List.not_mem_nil, or_false]
  omega)
theorem s_found (d : Nat) (σ : ax_S) (x : Int32) : cL sO d 14 [.ref 0, .int x] σ = some ((-9000000000000000010 : Int64) - x.toInt64, sI σ 0 10 x) := cL_ev mi_14 (u_14_0 d σ x) rfl
theorem s_clean (d : Nat) (σ : ax_S) (x : Int64) : cL sO d 16 [.ref 0, .long x] σ = some (x, sI σ 0 10 0) := cL_ev mi_16 (u_16_0 d σ x) rfl
theorem m_finding (d : Nat) (σ : ax_S) (x : Int32) : cL sO d 199 [.ref 82, .int x] σ = some ((-9000000000000000010 : Int64) - x.toInt64, sI σ 82 1 x) := cL_ev mi_199 (u_199_82 d σ x) rfl
theorem Sf_1 (σ : ax_S) (x : Int32) : Sf σ (sI (sI (sI σ 0 10 x) 82 0 0) 82 1 x) := by
  refine ⟨((((sm.rf _ _).set _ _ (by decide)).set _ _ (by decide)).set _ _ (by decide)), ⟨?_, ?_, ?_, ?_⟩, ?_⟩
  · rw [sI_k _ (by decide), sI_k _ (by decide), sI_n _ _ (by decide)]
  · rw [sI_k _ (by decide), sI_k _ (by decide), sI_n _ _ (by decide)]
  · rw [sI_k _ (by decide), sI_k _ (by decide), sI_n _ _ (by decide)]
  · rw [sI_k _ (by decide), sI_k _ (by decide), sI_n _ _ (by decide)]
  · rw [sI_1, sI_n _ _ (by decide), sI_n _ _ (by decide), sI_1]
theorem Sf_2 (σ : ax_S) (x : Int32) : Sf σ (sI (sI (sI (sI σ 0 10 x) 82 0 0) 82 1 0) 82 1 x) := by
  refine ⟨(((((sm.rf _ _).set _ _ (by decide)).set _ _ (by decide)).set _ _ (by decide)).set _ _ (by decide)), ⟨?_, ?_, ?_, ?_⟩, ?_⟩
  · rw [sI_k _ (by decide), sI_k _ (by decide), sI_k _ (by decide), sI_n _ _ (by decide)]
  · rw [sI_k _ (by decide), sI_k _ (by decide), sI_k _ (by decide), sI_n _ _ (by decide)]
  · rw [sI_k _ (by decide), sI_k _ (by decide), sI_k _ (by decide), sI_n _ _ (by decide)]
  · rw [sI_k _ (by decide), sI_k _ (by decide), sI_k _ (by decide), sI_n _ _ (by decide)]
  · rw [sI_1, sI_n _ _ (by decide), sI_n _ _ (by decide), sI_n _ _ (by decide), sI_1]
