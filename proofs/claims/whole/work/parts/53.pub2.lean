/-! THE PUBLIC METHODS, 2: marks, kinds, baked, left out, mothers -/
abbrev BADv : Int64 := -9000000000000000001
theorem rgP_of {x : Int32} {b : Nat} (hb : b < 2147483647) (h : rgP 0 b x) : ∃ k, k ≤ b ∧ x = nI k := by
  obtain ⟨k, h1, e, e2⟩ := i_nI h.1
  exact ⟨k, by have := h.2; omega, e⟩
theorem t_mark (d : Nat) {σ : ax_S} (x y : Int32) (r : Rd σ) : AK d σ 99 236 [.int x, .int y] := by
  obtain ⟨n, h⟩ := r
  obtain ⟨hn, hs, -⟩ := rd_of h
  obtain ⟨ms0, mi0, -, he, -⟩ := rd_m h (ρ := sI σ 82 0 0) (sI_n _ _ (by decide))
  refine ⟨if hasP (nI n) x ∧ mkP y then (cr σ x.toNatClampNeg y.toNatClampNeg).toInt64 else BADv, _, cL_ev mi_99 ((u_99_0 _ σ _ _).trans ?_) rfl, cL_ev mi_236 ((u_236_82 _ σ _ _).trans ?_) rfl, Sc_0 σ⟩
  · simp only [s_has, s_isMark, hs, Option.bind_some, bi_0]
    by_cases h1 : hasP (nI n) x
    · rw [if_neg (fun q => q h1)]
      by_cases h2 : mkP y
      · rw [if_neg (fun q => q h2), if_pos ⟨h1, h2⟩]
        obtain ⟨a, ha, e1⟩ := hasP_of hn h1
        obtain ⟨k, hk, e2⟩ := mkP_of h2
        rw [e1, e2, s_mark _ hs hn ha hk, Option.bind_some, nI_c (by omega), nI_c (by omega)]
      · rw [if_pos h2, if_neg (fun q => h2 q.2)]
    · rw [if_pos h1, if_neg (fun q => h1 q.1)]
  · simp only [m_isCard _ _ ms0 hn, m_isMark, Option.bind_some, bi_0]
    by_cases h1 : hasP (nI n) x
    · rw [if_neg (fun q => q h1)]
      by_cases h2 : mkP y
      · rw [if_neg (fun q => q h2), if_pos ⟨h1, h2⟩]
        obtain ⟨a, ha, e1⟩ := hasP_of hn h1
        obtain ⟨k, hk, e2⟩ := mkP_of h2
        rw [e1, e2, m_isKnown _ _ (show a < 12 by omega) hk, Option.bind_some, nI_c (by omega), nI_c (by omega), (he a ha).2 k hk]
        simp only [bi_0, m_mark _ _ (show a < 12 by omega) hk, Option.bind_some]
        cases hb : bt (ms (sI σ 82 0 0) a) k
        · rw [if_neg (by decide), mr_f hb]
        · rw [if_pos (by decide), mr_t hb]
          rfl
      · rw [if_pos h2, if_neg (fun q => h2 q.2)]
    · rw [if_pos h1, if_neg (fun q => h1 q.1)]
theorem t_left (d : Nat) {σ : ax_S} (x y : Int32) (r : Rd σ) : AK d σ 164 271 [.int x, .int y] := by
  obtain ⟨n, h⟩ := r
  obtain ⟨hn, hs, -, -, hm, -⟩ := rd_of h
  obtain ⟨ms0, mi0, hm2, he, hmo, -⟩ := rd_m h (ρ := sI σ 82 0 0) (sI_n _ _ (by decide))
  refine ⟨if hasP (nI n) x ∧ rgP 0 7 y then (lo (σ.1 20) (cr σ) x.toNatClampNeg y.toNatClampNeg n).toInt64 else BADv, _, cL_ev mi_164 ((u_164_0 _ σ _ _).trans ?_) rfl, cL_ev mi_271 ((u_271_82 _ σ _ _).trans ?_) rfl, Sc_0 σ⟩
  · simp only [s_has, s_isThing, hs, Option.bind_some, bi_0]
    by_cases h1 : hasP (nI n) x
    · rw [if_neg (fun q => q h1)]
      by_cases h2 : rgP 0 7 y
      · rw [if_neg (fun q => q h2), if_pos ⟨h1, h2⟩]
        obtain ⟨a, ha, e1⟩ := hasP_of hn h1
        obtain ⟨k, hk, e2⟩ := rgP_of (b := 7) (by omega) h2
        rw [e1, e2, s_leftOut _ hs hn hm ha (show k < 8 by omega), Option.bind_some, nI_c (by omega), nI_c (by omega)]
      · rw [if_pos h2, if_neg (fun q => h2 q.2)]
    · rw [if_pos h1, if_neg (fun q => h1 q.1)]
  · simp only [m_isCard _ _ ms0 hn, m_isThing, Option.bind_some, bi_0]
    by_cases h1 : hasP (nI n) x
    · rw [if_neg (fun q => q h1)]
      by_cases h2 : rgP 0 7 y
      · rw [if_neg (fun q => q h2), if_pos ⟨h1, h2⟩]
        obtain ⟨a, ha, e1⟩ := hasP_of hn h1
        obtain ⟨k, hk, e2⟩ := rgP_of (b := 7) (by omega) h2
        rw [e1, e2, m_leftOut _ ms0 hn mi0 hm2 ha (show k < 8 by omega), Option.bind_some, nI_c (by omega), nI_c (by omega), lo_e hn hm (fun j hj => ⟨hmo j hj, (he j hj).2⟩) ha (show k < 8 by omega)]
      · rw [if_pos h2, if_neg (fun q => h2 q.2)]
    · rw [if_pos h1, if_neg (fun q => h1 q.1)]
/-- what RISE asks of the kitchen is the same -/
theorem rk_K {σ ρ : ax_S} (r : Rk σ) (e : ρ.1 86 = σ.1 86) : eqK (kc σ) (ρ.1 86) := by
  obtain ⟨-, -, m, p, -, -, -, -, -, -, -, -, h, -⟩ := r
  intro k h1 h2
  rw [e]
  exact (h k h1 h2).1
theorem t_kind (d : Nat) {σ : ax_S} (x : Int32) (r : Rd σ) (rk : Rk σ) : AK d σ 178 280 [.int x] := by
  obtain ⟨n, h⟩ := r
  obtain ⟨hn, hs, -, -, hm, -⟩ := rd_of h
  obtain ⟨ms0, mi0, hm2, he, hmo, -⟩ := rd_m h (ρ := sI σ 82 0 0) (sI_n _ _ (by decide))
  refine ⟨if hasP (nI n) x then (knd (kc σ) (σ.1 20) (cr σ) x.toNatClampNeg).toInt64 else BADv, _, cL_ev mi_178 ((u_178_0 _ σ _).trans ?_) rfl, cL_ev mi_280 ((u_280_82 _ σ _).trans ?_) rfl, Sc_0 σ⟩
  · simp only [s_has, hs, Option.bind_some, bi_0]
    by_cases h1 : hasP (nI n) x
    · rw [if_neg (fun q => q h1), if_pos h1]
      obtain ⟨a, ha, e1⟩ := hasP_of hn h1
      rw [e1, s_kindOf _ hs hn hm ha, Option.bind_some, nI_c (by omega)]
    · rw [if_pos h1, if_neg h1]
  · simp only [m_isCard _ _ ms0 hn, Option.bind_some, bi_0]
    by_cases h1 : hasP (nI n) x
    · rw [if_neg (fun q => q h1), if_pos h1]
      obtain ⟨a, ha, e1⟩ := hasP_of hn h1
      rw [e1, m_kindOf _ hn mi0 hm2 ha, Option.bind_some, nI_c (by omega), knd_e hn hm (rk_K rk (ρ := sI σ 82 0 0) (sI_n _ _ (by decide))) (fun j hj => ⟨hmo j hj, (he j hj).2⟩) ha]
    · rw [if_pos h1, if_neg h1]
