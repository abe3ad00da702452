/-! THE PUBLIC METHODS, 27: an ask, of both -/
theorem RA_tr {σ ρ : ax_S} (h : sm [80, 81, 82, 104] σ ρ) (f1 : ρ.1 82 1 = σ.1 82 1) (f7 : ρ.1 82 7 = σ.1 82 7) (f10 : ρ.1 82 10 = σ.1 82 10) (f11 : ρ.1 82 11 = σ.1 82 11) (t : Rtr ρ) (r : RA σ) : RA ρ ∧ Fo σ ρ := by
  obtain ⟨r1, r2, r3, r4, r5, r6, -, r8⟩ := r
  obtain ⟨h1, h2⟩ := h
  refine ⟨⟨Rd_c (fun a ha => h1 a ?_) r1, Rk_c (fun a ha => h1 a ?_) f7 r2, Rs_c (fun a ha => h1 a ?_) r3, Rt_c (fun a ha => h1 a ?_) (by rw [h1 5 (by decide)]) (by rw [h1 5 (by decide)]) f10 f11 r4, Ri_c (fun a ha => h1 a ?_) r5, Ri_c (fun a ha => h1 a ?_) r6, t, ?_⟩, fun a h3 h4 => h1 a ?_, h2⟩
  all_goals first | (simp only [List.mem_cons, List.not_mem_nil, or_false] at *; omega) | skip
  unfold Rf
  rw [f1, h1 0 (by decide)]
  exact r8
theorem t_ask (d : Nat) {σ : ax_S} (x y : Int32) (r : RA σ) : PB d σ 182 284 [.int x, .int y] := by
  obtain ⟨n, h⟩ := r.1
  obtain ⟨hn, hs, hs88, hi, hm, hm2, hE, hmo, -⟩ := rd_of h
  have i1n : ∀ {y : Int32}, rgP 0 1 y → ¬ (1 : Int32) < y := fun q => by rw [i_lt, i_1]; have := q.2; omega
  by_cases hb : hasP (nI n) x ∧ rgP 0 1 y
  · obtain ⟨h1, h2⟩ := hb
    obtain ⟨c, hc, e1⟩ := hasP_of hn h1
    obtain ⟨τ, a1, a2, a3, a4⟩ := s_answer (d + 12) y hs hn hm hc
    have e88 : (sI (sI τ 82 0 0) 82 43 0).1 88 = σ.1 88 := by rw [sI_n _ _ (by decide), sI_n _ _ (by decide), a2.1 88 (by decide)]
    have e86 : (sI (sI τ 82 0 0) 82 43 0).1 86 = σ.1 86 := by rw [sI_n _ _ (by decide), sI_n _ _ (by decide), a2.1 86 (by decide)]
    have hs2 : (sI τ 82 0 0).1 88 0 = nI n := by rw [sI_n _ _ (by decide), a2.1 88 (by decide)]; exact hs88
    have eK : eqK (kc σ) (σ.1 86) := rk_K r.2.1 rfl
    have ek : knd (σ.1 86) (mm σ) (mr σ) c = knd (kc σ) (σ.1 20) (cr σ) c := (knd_e hn hm eK (fun j hj => ⟨hmo j hj, (hE j hj).2⟩) hc).symm
    have kk := knd_15 (kc σ) (σ.1 20) (cr σ) c
    have kM : cI sO (d + 19) 281 [.ref 82, .int (nI c)] (sI (sI τ 82 0 0) 82 43 0) = some (knd (kc σ) (σ.1 20) (cr σ) c, sI (sI τ 82 0 0) 82 43 0) := by
      obtain ⟨emr, -, emm, -, -, -, hmi⟩ := m88 e88
      rw [m_kindOf (d + 15) hn (hmi n hi) (by rw [emm]; exact hm2) hc, emr, emm, e86, ek]
    have eV : ∀ w, askV (nI c) (knd (kc σ) (σ.1 20) (cr σ) c) (my σ c) (ths (mr σ c)) (sts (mr σ c)) (rse (σ.1 86) (mr σ c)) w = askV (nI c) (knd (kc σ) (σ.1 20) (cr σ) c) (σ.1 19 c) (ths (cr σ c)) (sts (cr σ c)) (rse (kc σ) (cr σ c)) w := fun w => by
      rw [(hE c hc).1, ths_c (hE c hc).2, sts_c (hE c hc).2, rse_c eK (hE c hc).2]
    generalize knd (kc σ) (σ.1 20) (cr σ) c = ki at a1 a3 a4 kk kM eV
    -- what the reference does
    have fin : ∀ (w : Int32) (f : ax_S → Option (Int32 × ax_S)), askV (nI c) ki (my σ c) (ths (mr σ c)) (sts (mr σ c)) (rse (σ.1 86) (mr σ c)) w = askV (nI c) ki (my σ c) (ths (mr σ c)) (sts (mr σ c)) (rse (σ.1 86) (mr σ c)) y → askL ki w = askL ki y → MC σ f (askV (nI c) ki (my σ c) (ths (mr σ c)) (sts (mr σ c)) (rse (σ.1 86) (mr σ c)) w) (askL ki w) → (∀ v ρ, f (sI (sI τ 82 0 0) 82 43 0) = some (v, ρ) → ev sO (d + 20) 284 0 [.ref 82, .int x, .int y] [] τ = some (some (.long v.toInt64), ρ)) → PB d σ 182 284 [.int x, .int y] := by
      intro w f eq1 eq2 hM hE2
      have l16 : (askL ki w).length ≤ 16 := by
        unfold askL
        repeat' split
        all_goals decide
      obtain ⟨ρ, b1', b2, b3, b4, b5, b6⟩ := hM _ 0 e88 e86 (sI_1 _ _ _ _) (by omega)
      have g82 : ∀ j, j ≠ 0 → j ≠ 43 → ρ.1 82 j = σ.1 82 j := fun j h1 h2 => by rw [b3 j h2, sI_k _ h2, sI_k _ h1, a2.1 82 (by decide)]
      have tr : Rtr ρ := by
        refine ⟨(askL ki w).length, l16, ?_, ?_, fun i hi2 => ?_⟩
        · rw [b2.1 80 (by decide), sI_n _ _ (by decide), sI_n _ _ (by decide), a3, eq2]
        · rw [b4, Nat.zero_add]
        · have q := b6 i hi2
          rw [Nat.zero_add] at q
          rw [q, b2.1 81 (by decide), sI_n _ _ (by decide), sI_n _ _ (by decide), a4 i (by rw [← eq2]; exact hi2), eq2]
      obtain ⟨z1, z2⟩ := RA_tr (((a2.up (by decide)).set _ _ (by decide)).set _ _ (by decide) |>.tr (b2.up (by decide))) (g82 1 (by decide) (by decide)) (g82 7 (by decide) (by decide)) (g82 10 (by decide) (by decide)) (g82 11 (by decide) (by decide)) tr r
      refine ⟨(askV (nI c) ki (my σ c) (ths (mr σ c)) (sts (mr σ c)) (rse (σ.1 86) (mr σ c)) y).toInt64, τ, ρ, cL_ev mi_182 ((u_182_0 _ σ _ _).trans ?_) rfl, cL_ev mi_284 (by rw [← eq1]; exact hE2 _ _ b1') rfl, z1, z2⟩
      simp only [s_has, hs, Option.bind_some, bi_0]
      rw [if_neg (fun q => q h1), if_neg (rg01 h2), if_neg (i1n h2), e1, a1, Option.bind_some, eV y]
    by_cases y0 : y = 0
    · refine fin 0 (cI sO (d + 19) 285 [.ref 82, .int (nI c), .int ki]) (by rw [y0]) (by rw [y0]) (m_siz (d + 13) hn hi hc kk) (fun v ρ hv => ?_)
      rw [u_284_82 (d + 13) τ]
      simp only [m_isCard _ _ hs2 hn, m_in, l_i, l_0, show (1 : Int64).toInt = 1 by decide, Option.bind_some, bi_0]
      rw [if_neg (fun q => q h1), if_neg (fun q => q h2), if_pos y0, e1, kM, Option.bind_some]
      (try simp only)
      rw [hv, Option.bind_some]
    · have y1 : y = 1 := by
        have a := h2.1
        have b := h2.2
        have : y.toInt ≠ 0 := fun q => y0 ((i_eq y 0).mpr q)
        exact (i_eq y 1).mpr (by rw [i_1]; omega)
      refine fin 1 (cI sO (d + 19) 289 [.ref 82, .int (nI c), .int ki]) (by rw [y1]) (by rw [y1]) (m_mrk (d + 14) hn hi hc kk) (fun v ρ hv => ?_)
      rw [u_284_82 (d + 13) τ]
      simp only [m_isCard _ _ hs2 hn, m_in, l_i, l_0, show (1 : Int64).toInt = 1 by decide, Option.bind_some, bi_0]
      rw [if_neg (fun q => q h1), if_neg (fun q => q h2), if_neg y0, e1, kM, Option.bind_some]
      (try simp only)
      rw [hv, Option.bind_some]
  · refine AK.pb ⟨BADv, sI σ 82 0 0, cL_ev mi_182 ((u_182_0 _ σ _ _).trans ?_) rfl, cL_ev mi_284 ((u_284_82 _ σ _ _).trans ?_) rfl, Sc_0 σ⟩ r
    · simp only [s_has, hs, Option.bind_some, bi_0]
      split
      · rfl
      · split
        · rfl
        · split
          · rfl
          · rename_i a1 a2 a3
            rw [i_lt, i_0] at a2
            rw [i_lt, i_1] at a3
            exact absurd ⟨Decidable.not_not.mp a1, by omega, by omega⟩ hb
    · obtain ⟨ms0, -⟩ := rd_m h (ρ := sI σ 82 0 0) (sI_n _ _ (by decide))
      simp only [m_isCard _ _ ms0 hn, m_in, l_i, l_0, show (1 : Int64).toInt = 1 by decide, Option.bind_some, bi_0]
      split
      · rfl
      · split
        · rfl
        · rename_i a1 a2
          exact absurd ⟨Decidable.not_not.mp a1, Decidable.not_not.mp a2⟩ hb
