/-! THE PUBLIC METHODS, 9: of -/
theorem m_mother2 (d : Nat) {σ : ax_S} {j : Nat} (hj : j < 12) : cI sO (d + 1) 239 [.ref 82, .int (nI j), .int (-1000000)] σ = some (mm σ j, σ) := by
  refine cI_ev mi_239 ((u_239_82 d σ _ _).trans ?_) rfl
  rw [m_of3 _ σ hj, Option.bind_some]
  simp only
  unfold mm
  split <;> rfl
/-- what is asked of a card -/
def ofv (la ye mo : Nat → Int32) (row : Nat → Nat → Int32) (c n : Nat) (w : Int32) : Int32 := if w = 0 then la c else if w = 1 then ye c else if w = 2 then mo c else if w = 3 then sts (row c) else dtr mo n (nI c)
theorem m_ofv (d : Nat) {σ : ax_S} {n c w : Nat} (hs : σ.1 88 0 = nI n) (hn : n ≤ 12) (hi : mI σ n) (hm : moP (mm σ) n) (hc : c < n) (hw : w < 5) : ev sO (d + 2) 238 34 [.ref 82, .int (nI c), .int (nI w), .int 0, .int 0] [] σ = some (some (.long (ofv (ml σ) (my σ) (mm σ) (mr σ) c n (nI w)).toInt64), σ) := by
  refine (loop_it (E := fun k (u : Int32) => ev sO (d + 2) 238 34 [.ref 82, .int (nI c), .int (nI w), .int u, .int (nI k)] [] σ) (f := fun k u => if mm σ k = nI c then u + 1 else u) (N := n) (fun k u hk => ?_) 0).trans ?_
  · rw [u_238_82p34, hs, if_pos (nlt hk), m_of3 _ σ (show k < 12 by omega), Option.bind_some]
    simp only [nI_add1, Int32.add_zero]
    have e : mo σ k = nI c ↔ mm σ k = nI c := by
      obtain ⟨e1, e2⟩ | ⟨i, hi2, e1, e2, e3⟩ := mm_c hm hk
      · constructor
        · intro q
          rw [q, i_lt, nI_i (by omega), i_0] at e1
          omega
        · intro q
          rw [e2] at q
          exact absurd q.symm (nI_nn (by omega))
      · rw [e1, e2]
    by_cases h : mm σ k = nI c
    · rw [if_pos (e.mpr h), if_pos h]
    · rw [if_neg (fun q => h (e.mp q)), if_neg h]
  · rw [u_238_82p34, hs, if_neg (nnl (Nat.le_refl n))]
    have hc2 : c < 12 := by omega
    unfold ofv
    have w0 : nI w = (0 : Int32) ↔ w = 0 := nI_lit 0 (by omega) (by omega)
    have w1 : nI w = (1 : Int32) ↔ w = 1 := nI_lit 1 (by omega) (by omega)
    have w2 : nI w = (2 : Int32) ↔ w = 2 := nI_lit 2 (by omega) (by omega)
    have w3 : nI w = (3 : Int32) ↔ w = 3 := nI_lit 3 (by omega) (by omega)
    simp only [w0, w1, w2, w3, m_mother2 _ hc2, m_of4 _ σ hc2, Option.bind_some]
    by_cases h0 : w = 0
    · rw [if_pos h0, if_pos h0, h0, show (1 : Int32) + nI 0 = nI 1 from rfl, m_of _ σ hc2 (by omega)]
      rfl
    · rw [if_neg h0, if_neg h0]
      by_cases h1 : w = 1
      · rw [if_pos h1, if_pos h1, h1, show (1 : Int32) + nI 1 = nI 2 from rfl, m_of _ σ hc2 (by omega)]
        rfl
      · rw [if_neg h1, if_neg h1]
        by_cases h2 : w = 2
        · rw [if_pos h2, if_pos h2]
        · rw [if_neg h2, if_neg h2]
          by_cases h3 : w = 3
          · rw [if_pos h3, if_pos h3]
            obtain ⟨X, e1, e2, e3⟩ := ms_few hi hc
            rw [e2, e3, m_bits _ _ (show X < 4096 by omega)]
            rfl
          · rw [if_neg h3, if_neg h3]
            rfl
theorem t_of (d : Nat) {σ : ax_S} (x y : Int32) (r : Rd σ) : AK d σ 100 238 [.int x, .int y] := by
  obtain ⟨n, h⟩ := r
  obtain ⟨hn, hs, -⟩ := rd_of h
  obtain ⟨ms0, mi0, hm2, he, hmo, hla⟩ := rd_m h (ρ := sI σ 82 0 0) (sI_n _ _ (by decide))
  refine ⟨if hasP (nI n) x ∧ rgP 0 4 y then (ofv (σ.1 18) (σ.1 19) (σ.1 20) (cr σ) x.toNatClampNeg n y).toInt64 else BADv, _, cL_ev mi_100 ((u_100_0 _ σ _ _).trans ?_) rfl, cL_ev mi_238 ((u_238_82 _ σ _ _).trans ?_) rfl, Sc_0 σ⟩
  · simp only [s_has, hs, Option.bind_some, bi_0]
    by_cases h1 : hasP (nI n) x
    · rw [if_neg (show ¬ ¬ hasP (nI n) x from fun q => q h1)]
      obtain ⟨a, ha, e1⟩ := hasP_of hn h1
      have est := s_stainsOf (d + 17) hs hn ha
      rw [e1, nI_c (by omega), s_daughtersOf _ _ hs hn]
      simp only [s_landOf _ hs hn ha, s_yearOf _ hs hn ha, s_motherOf _ hs hn ha, Option.bind_some]
      have e0 : hasP (nI n) (nI a) := hasP_nI hn ha
      by_cases h2 : rgP 0 4 y
      · rw [if_pos (show hasP (nI n) (nI a) ∧ rgP 0 4 y from ⟨e0, h2⟩)]
        unfold ofv
        by_cases k0 : y = 0
        · rw [if_pos k0, if_pos k0]
        · rw [if_neg k0, if_neg k0]
          by_cases k1 : y = 1
          · rw [if_pos k1, if_pos k1]
          · rw [if_neg k1, if_neg k1]
            by_cases k2 : y = 2
            · rw [if_pos k2, if_pos k2]
            · rw [if_neg k2, if_neg k2]
              by_cases k3 : y = 3
              · rw [if_pos k3, if_pos k3, est]
                rfl
              · rw [if_neg k3, if_neg k3]
                by_cases k4 : y = 4
                · rw [if_pos k4]
                · exfalso
                  rw [i_eq] at k0 k1 k2 k3 k4
                  rw [lit_i 2 (by decide)] at k2
                  rw [lit_i 3 (by decide)] at k3
                  rw [lit_i 4 (by decide)] at k4
                  rw [i_0] at k0
                  rw [i_1] at k1
                  have := h2.1
                  have := h2.2
                  omega
      · rw [if_neg (show ¬ (hasP (nI n) (nI a) ∧ rgP 0 4 y) from fun q => h2 q.2)]
        have kk : ∀ j, j ≤ 4 → y ≠ nI j := fun j hj q => h2 (by
          rw [q]
          exact ⟨by rw [nI_i (by omega)]; omega, by rw [nI_i (by omega)]; omega⟩)
        rw [if_neg (show ¬ y = 0 from kk 0 (by omega)), if_neg (show ¬ y = 1 from kk 1 (by omega)), if_neg (show ¬ y = 2 from kk 2 (by omega)), if_neg (show ¬ y = 3 from kk 3 (by omega)), if_neg (show ¬ y = 4 from kk 4 (by omega))]
    · rw [if_pos h1, if_neg (fun q => h1 q.1)]
  · simp only [m_isCard _ _ ms0 hn, m_in, l_i, l_0, show (4 : Int64).toInt = 4 by decide, Option.bind_some, bi_0]
    by_cases h1 : hasP (nI n) x
    · rw [if_neg (show ¬ ¬ hasP (nI n) x from fun q => q h1)]
      by_cases h2 : rgP 0 4 y
      · rw [if_neg (show ¬ ¬ rgP 0 4 y from fun q => q h2), if_pos (show hasP (nI n) x ∧ rgP 0 4 y from ⟨h1, h2⟩)]
        obtain ⟨a, ha, e1⟩ := hasP_of hn h1
        obtain ⟨w, hw, e2⟩ := rgP_of (b := 4) (by omega) h2
        rw [e1, e2, nI_c (by omega), m_ofv _ ms0 hn mi0 hm2 ha (show w < 5 by omega)]
        unfold ofv
        rw [hla a ha, (he a ha).1, hmo a ha, sts_c (he a ha).2, dtr_e (nI a) hmo]
      · rw [if_pos h2, if_neg (fun q => h2 q.2)]
    · rw [if_pos h1, if_neg (fun q => h1 q.1)]
