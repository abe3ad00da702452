/-! THE PUBLIC METHODS, 11: as -/
abbrev alP (t k : Int32) : Prop := k = 0 ∨ t = k ∨ (k = 1 ∧ (t = 3 ∨ t = 4)) ∨ (k = 2 ∧ t = 5)
theorem s_isAlso (d : Nat) (σ : ax_S) (t k : Int32) : cI sO d 181 [.int t, .int k] σ = some (bi (alP t k), σ) := by
  refine cI_ev mi_181 ((u_181 d σ t k).trans ?_) rfl
  unfold bi alP
  by_cases h0 : k = 0
  · rw [if_pos h0, if_pos (Or.inl h0)]
  · rw [if_neg h0]
    by_cases h1 : k = 1
    · subst h1
      rw [if_pos rfl]
      by_cases t1 : t = 1
      · rw [if_pos t1, if_pos (Or.inr (Or.inl t1))]
      · rw [if_neg t1]
        by_cases t3 : t = 3
        · rw [if_pos t3, if_pos (Or.inr (Or.inr (Or.inl ⟨rfl, Or.inl t3⟩)))]
        · rw [if_neg t3]
          by_cases t4 : t = 4
          · rw [if_pos t4, if_pos (Or.inr (Or.inr (Or.inl ⟨rfl, Or.inr t4⟩)))]
          · rw [if_neg t4, if_neg]
            rintro (q | q | ⟨-, q | q⟩ | ⟨q, -⟩)
            · exact h0 q
            · exact t1 q
            · exact t3 q
            · exact t4 q
            · exact absurd q (by decide)
    · rw [if_neg h1]
      by_cases h2 : k = 2
      · subst h2
        rw [if_pos rfl]
        by_cases t2 : t = 2
        · rw [if_pos t2, if_pos (Or.inr (Or.inl t2))]
        · rw [if_neg t2]
          by_cases t5 : t = 5
          · rw [if_pos t5, if_pos (Or.inr (Or.inr (Or.inr ⟨rfl, t5⟩)))]
          · rw [if_neg t5, if_neg]
            rintro (q | q | ⟨q, -⟩ | ⟨-, q⟩)
            · exact h0 q
            · exact t2 q
            · exact h1 q
            · exact t5 q
      · rw [if_neg h2]
        by_cases t6 : t = k
        · rw [if_pos t6, if_pos (Or.inr (Or.inl t6))]
        · rw [if_neg t6, if_neg]
          rintro (q | q | ⟨q, -⟩ | ⟨q, -⟩)
          · exact h0 q
          · exact t6 q
          · exact h1 q
          · exact h2 q
theorem m_isOf (d : Nat) (σ : ax_S) (t k : Int32) : cI sO d 283 [.int t, .int k] σ = some (bi (alP t k), σ) := by
  refine cI_ev mi_283 ((u_283 d σ t k).trans ?_) rfl
  unfold bi alP
  by_cases h0 : k = 0
  · rw [if_pos h0, if_pos (Or.inl h0)]
  · rw [if_neg h0]
    by_cases h1 : t = k
    · rw [if_pos h1, if_pos (Or.inr (Or.inl h1))]
    · rw [if_neg h1]
      by_cases k1 : k = 1
      · subst k1
        rw [if_pos rfl]
        by_cases t3 : t = 3
        · rw [if_pos t3, if_pos (Or.inr (Or.inr (Or.inl ⟨rfl, Or.inl t3⟩)))]
        · rw [if_neg t3]
          by_cases t4 : t = 4
          · rw [if_pos t4, if_pos (Or.inr (Or.inr (Or.inl ⟨rfl, Or.inr t4⟩)))]
          · rw [if_neg t4, if_neg (show ¬ (1 : Int32) = 2 by decide), if_neg]
            rintro (q | q | ⟨-, q | q⟩ | ⟨q, -⟩)
            · exact h0 q
            · exact h1 q
            · exact t3 q
            · exact t4 q
            · exact absurd q (by decide)
      · rw [if_neg k1]
        by_cases k2 : k = 2
        · subst k2
          rw [if_pos rfl]
          by_cases t5 : t = 5
          · rw [if_pos t5, if_pos (Or.inr (Or.inr (Or.inr ⟨rfl, t5⟩)))]
          · rw [if_neg t5, if_neg]
            rintro (q | q | ⟨q, -⟩ | ⟨-, q⟩)
            · exact h0 q
            · exact h1 q
            · exact k1 q
            · exact t5 q
        · rw [if_neg k2, if_neg]
          rintro (q | q | ⟨q, -⟩ | ⟨q, -⟩)
          · exact h0 q
          · exact h1 q
          · exact k1 q
          · exact k2 q
theorem t_as (d : Nat) {σ : ax_S} (x y : Int32) (r : RA σ) : PB d σ 180 282 [.int x, .int y] := by
  obtain ⟨n, h⟩ := r.1
  obtain ⟨hn, hs, -, -, hm, -⟩ := rd_of h
  by_cases hb : hasP (nI n) x ∧ rgP 0 5 y
  · obtain ⟨h1, h2⟩ := hb
    obtain ⟨a, ha, e1⟩ := hasP_of hn h1
    have hy0 : ¬ y < 0 := rg01 h2
    have hy5 : ¬ (5 : Int32) < y := by
      rw [i_lt, lit_i 5 (by decide)]
      have := h2.2
      omega
    have go : ∀ f : Int32, ∃ ρ, Sf σ ρ ∧ ρ = sI (sI (sI (sI σ 0 10 f) 82 0 0) 82 1 0) 82 1 f := fun f => ⟨_, Sf_2 σ f, rfl⟩
    have e88 : ∀ f, (sI (sI (sI σ 0 10 f) 82 0 0) 82 1 0).1 88 = σ.1 88 := fun f => by rw [sI_n _ _ (by decide), sI_n _ _ (by decide), sI_n _ _ (by decide)]
    have e880 : ∀ f, (sI (sI σ 0 10 f) 82 0 0).1 88 = σ.1 88 := fun f => by rw [sI_n _ _ (by decide), sI_n _ _ (by decide)]
    have e86 : ∀ f, (sI (sI (sI σ 0 10 f) 82 0 0) 82 1 0).1 86 = σ.1 86 := fun f => by rw [sI_n _ _ (by decide), sI_n _ _ (by decide), sI_n _ _ (by decide)]
    have kM : ∀ f, cI sO (d + 19) 281 [.ref 82, .int (nI a)] (sI (sI (sI σ 0 10 f) 82 0 0) 82 1 0) = some (knd (kc σ) (σ.1 20) (cr σ) a, sI (sI (sI σ 0 10 f) 82 0 0) 82 1 0) := fun f => by
      obtain ⟨ms0, mi0, hm2, he, hmo, -⟩ := rd_m h (e88 f)
      rw [m_kindOf (d + 15) hn mi0 hm2 ha, knd_e hn hm (rk_K r.2.1 (e86 f)) (fun j hj => ⟨hmo j hj, (he j hj).2⟩) ha]
    by_cases h3 : alP (knd (kc σ) (σ.1 20) (cr σ) a) y
    · refine ⟨x.toInt64, sI σ 0 10 0, sI (sI (sI σ 0 10 0) 82 0 0) 82 1 0, cL_ev mi_180 ((u_180_0 _ σ _ _).trans ?_) rfl, cL_ev mi_282 ((u_282_82 _ _ _ _).trans ?_) rfl, RA_Sf (Sf_1 σ 0) r, Fo_Sf (Sf_1 σ 0)⟩
      · simp only [s_has, hs, Option.bind_some, bi_0]
        rw [if_neg (fun q => q h1), if_neg hy0, if_neg hy5, e1, s_kindOf _ hs hn hm ha, Option.bind_some]
        simp only [s_isAlso, Option.bind_some, bi_0, s_clean]
        rw [if_neg (fun q => q h3)]
      · obtain ⟨ms0, -⟩ := rd_m h (e880 0)
        simp only [m_isCard _ _ ms0 hn, m_in, l_i, l_0, show (5 : Int64).toInt = 5 by decide, Option.bind_some, bi_0]
        rw [if_neg (fun q => q h1), if_neg (fun q => q h2), e1, kM 0, Option.bind_some]
        simp only [m_isOf, Option.bind_some, bi_0]
        rw [if_neg (fun q => q h3)]
    · refine ⟨(-9000000000000000010 : Int64) - (3 : Int32).toInt64, sI σ 0 10 3, sI (sI (sI (sI σ 0 10 3) 82 0 0) 82 1 0) 82 1 3, cL_ev mi_180 ((u_180_0 _ σ _ _).trans ?_) rfl, cL_ev mi_282 ((u_282_82 _ _ _ _).trans ?_) rfl, RA_Sf (Sf_2 σ 3) r, Fo_Sf (Sf_2 σ 3)⟩
      · simp only [s_has, hs, Option.bind_some, bi_0]
        rw [if_neg (fun q => q h1), if_neg hy0, if_neg hy5, e1, s_kindOf _ hs hn hm ha, Option.bind_some]
        simp only [s_isAlso, Option.bind_some, bi_0, s_found]
        rw [if_pos h3]
      · obtain ⟨ms0, -⟩ := rd_m h (e880 3)
        simp only [m_isCard _ _ ms0 hn, m_in, l_i, l_0, show (5 : Int64).toInt = 5 by decide, Option.bind_some, bi_0]
        rw [if_neg (fun q => q h1), if_neg (fun q => q h2), e1, kM 3, Option.bind_some]
        simp only [m_isOf, m_finding, Option.bind_some, bi_0]
        rw [if_pos h3]
  · refine AK.pb ⟨BADv, sI σ 82 0 0, cL_ev mi_180 ((u_180_0 _ σ _ _).trans ?_) rfl, cL_ev mi_282 ((u_282_82 _ σ _ _).trans ?_) rfl, Sc_0 σ⟩ r
    · simp only [s_has, hs, Option.bind_some, bi_0]
      by_cases q1 : hasP (nI n) x
      · rw [if_neg (fun q => q q1)]
        by_cases q3 : y < 0
        · rw [if_pos q3]
        · rw [if_neg q3]
          by_cases q4 : (5 : Int32) < y
          · rw [if_pos q4]
          · exfalso
            rw [i_lt, i_0] at q3
            rw [i_lt, lit_i 5 (by decide)] at q4
            exact hb ⟨q1, by omega, by omega⟩
      · rw [if_pos q1]
    · obtain ⟨ms0, -⟩ := rd_m h (ρ := sI σ 82 0 0) (sI_n _ _ (by decide))
      simp only [m_isCard _ _ ms0 hn, m_in, l_i, l_0, show (5 : Int64).toInt = 5 by decide, Option.bind_some, bi_0]
      by_cases q1 : hasP (nI n) x
      · rw [if_neg (fun q => q q1), if_pos (show ¬ rgP 0 5 y from fun q => hb ⟨q1, q⟩)]
      · rw [if_pos q1]
