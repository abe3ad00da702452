/-! THE PUBLIC METHODS, 11: as -/
abbrev alP (t k : Int32) : Prop := k = 0 ∨ t = k ∨ (k = 1 ∧ (t = 3 ∨ t = 4)) ∨ (k = 2 ∧ t = 5)
theorem s_isAlso (d : Nat) (σ : ax_S) (t k : Int32) : cI sO d 181 [.int t, .int k] σ = some (bi (alP t k), σ) := by
  refine cI_ev mi_181 ((u_181 d σ t k).trans ?_) rfl
  unfold bi alP
  by_cases h0 : k = 0
  · rw [if_pos h0, if_pos (Or.inl h0)]
  · rw [if_neg h0]
    by_cases h1 : k = 1
    · subst h1
      rw [if_pos rfl]
      by_cases t1 : t = 1
      · rw [if_pos t1, if_pos (Or.inr (Or.inl t1))]
      · rw [if_neg t1]
        by_cases t3 : t = 3
        · rw [if_pos t3, if_pos (Or.inr (Or.inr (Or.inl ⟨rfl, Or.inl t3⟩)))]
        · rw [if_neg t3]
          by_cases t4 : t = 4
          · rw [if_pos t4, if_pos (Or.inr (Or.inr (Or.inl ⟨rfl, Or.inr t4⟩)))]
          · rw [if_neg t4, if_neg]
            rintro (q | q | ⟨-, q | q⟩ | ⟨q, -⟩)
            · exact h0 q
            · exact t1 q
            · exact t3 q
            · exact t4 q
            · exact absurd q (by decide)
    · rw [if_neg h1]
      by_cases h2 : k = 2
      · subst h2
        rw [if_pos rfl]
        by_cases t2 : t = 2
        · rw [if_pos t2, if_pos (Or.inr (Or.inl t2))]
        · rw [if_neg t2]
          by_cases t5 : t = 5
          · rw [if_pos t5, if_pos (Or.inr (Or.inr (Or.inr ⟨rfl, t5⟩)))]
          · rw [if_neg t5, if_neg]
            rintro (q | q | ⟨q, -⟩ | ⟨-, q⟩)
            · exact h0 q
            · exact t2 q
            · exact h1 q
            · exact t5 q
      · rw [if_neg h2]
        by_cases t6 : t = k
        · rw [if_pos t6, if_pos (Or.inr (Or.inl t6))]
        · rw [if_neg t6, if_neg]
          rintro (q | q | ⟨q, -⟩ | ⟨q, -⟩)
          · exact h0 q
          · exact t6 q
          · exact h1 q
          · exact h2 q
theorem m_isOf (d : Nat) (σ : ax_S) (t k : Int32) : cI sO d 283 [.int t, .int k] σ = some (bi (alP t k), σ) := by
  refine cI_ev mi_283 ((u_283 d σ t k).trans ?_) rfl
  unfold bi alP
  by_cases h0 : k = 0
  · rw [if_pos h0, if_pos (Or.inl h0)]
  · rw [if_neg h0]
    by_cases h1 : t = k
    · rw [if_pos h1, if_pos (Or.inr (Or.inl h1))]
    · rw [if_neg h1]
      by_cases k1 : k = 1
      · subst k1
        rw [if_pos rfl]
        by_cases t3 : t = 3
        · rw [if_pos t3, if_pos (Or.inr (Or.inr (Or.inl ⟨rfl, Or.inl t3⟩)))]
        · rw [if_neg t3]
          by_cases t4 : t = 4
          · rw [if_pos t4, if_pos (Or.inr (Or.inr (Or.inl ⟨rfl, Or.inr t4⟩)))]
          · rw [if_neg t4, if_neg (show ¬ (1 : Int32) = 2 by decide), if_neg]
            rintro (q | q | ⟨-, q | q⟩ | ⟨q, -⟩)
            · exact h0 q
            · exact h1 q
            · exact t3 q
            · exact t4 q
            · exact absurd q (by decide)
      · rw [if_neg k1]
        by_cases k2 : k = 2
        · subst k2
          rw [if_pos rfl]
          by_cases t5 : t = 5
          · rw [if_pos t5, if_pos (Or.inr (Or.inr (Or.inr ⟨rfl, t5⟩)))]
          · rw [if_neg t5, if_neg]
            rintro (q | q | ⟨q, -⟩ | ⟨-, q⟩)
            · exact h0 q
            · exact h1 q
            · exact k1 q
            · exact t5 q
        · rw [if_neg k2, if_neg]
          rintro (q | q | ⟨q, -⟩ | ⟨q, -⟩)
          · exact h0 q
          · exact h1 q
          · exact k1 q
          · exact k2 q
