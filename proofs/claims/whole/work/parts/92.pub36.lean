/-! THE PUBLIC METHODS, 36: blame -/
theorem tkB_s (C : Nat → Prop) [DecidablePred C] (k : Nat) : tkB C (k + 1) = if C (k + 1) then tkF (k + 1) (tkB C k) else tkB C k := rfl
theorem tk_sh (C : Nat → Prop) [DecidablePred C] : ∀ k, k ≤ 4095 → tkB C k = (-1000000, 13, 0) ∨ ∃ S t, 0 < S ∧ S ≤ k ∧ 0 < t ∧ t ≤ k ∧ tkB C k = (nI S, nI (pcN S), nI t)
  | 0, _ => Or.inl rfl
  | k + 1, hk => by
    have ih := tk_sh C k (by omega)
    rw [tkB_s]
    have p1 := pc_12 (k + 1)
    by_cases c : C (k + 1)
    · rw [if_pos c]
      unfold tkF
      obtain a | ⟨S, t, s1, s2, t1, t2, a⟩ := ih
      · rw [a, if_pos (show nI (pcN (k + 1)) < (13 : Int32) from nlt (N := 13) (by omega))]
        exact Or.inr ⟨k + 1, 1, by omega, by omega, by omega, by omega, rfl⟩
      · have p2 := pc_12 S
        rw [a]
        (try simp only)
        by_cases l : pcN (k + 1) < pcN S
        · rw [if_pos (nlt l)]
          exact Or.inr ⟨k + 1, 1, by omega, by omega, by omega, by omega, rfl⟩
        · rw [if_neg (nnl (show pcN S ≤ pcN (k + 1) by omega))]
          by_cases q : nI (pcN (k + 1)) = nI (pcN S)
          · rw [if_pos q, nI_add1]
            exact Or.inr ⟨S, t + 1, s1, by omega, by omega, by omega, rfl⟩
          · rw [if_neg q]
            exact Or.inr ⟨S, t, s1, by omega, t1, by omega, rfl⟩
    · rw [if_neg c]
      obtain a | ⟨S, t, s1, s2, t1, t2, a⟩ := ih
      · exact Or.inl a
      · exact Or.inr ⟨S, t, s1, by omega, t1, by omega, a⟩
def blV (T : Int32 × Int32 × Int32) (x : Int32) : Int64 := if x = 2 then T.2.2.toInt64 else if T.1 = -1000000 then -1000000 else if x = 0 then T.1.toInt64 else T.2.1.toInt64
theorem m_blame (d : Nat) {σ : ax_S} {n a b : Nat} (x : Int32) (hn : n ≤ 12) (hi : mI σ n) (ha : a < n) (hb : b < n) : ev sO (d + 3) 250 67 [.ref 82, .int (nI a), .int (nI b), .int x, .int 0, .int 0, .null, .null, .null] [] σ = some (some (.long (blV (tkB (blP (σ.1 86) (mr σ a) (mr σ b)) 2047) x)), σ) := by
  refine (loop_it (E := fun k (u : Int32) => ev sO (d + 3) 250 67 [.ref 82, .int (nI a), .int (nI b), .int x, .int u, .int (nI k), .null, .null, .null] [] σ) (f := fun k u => if ulP (mr σ a) (mr σ b) k then u ||| b1 k else u) (N := 11) (fun k u hk => ?_) 0).trans ?_
  · rw [u_250_82p67 _ _ _ _ _ _ _ _ rfl _ rfl _ rfl, if_pos (l11 hk), m_isUnlike d hn hi ha hb hk, Option.bind_some]
    simp only [bi_0, nI_add1]
    by_cases q : ulP (mr σ a) (mr σ b) k
    · rw [if_neg (fun z => z q), if_pos q]
      rfl
    · rw [if_pos q, if_neg q, or_z]
  · rw [u_250_82p67 _ _ _ _ _ _ _ _ rfl _ rfl _ rfl, if_neg g11]
    have hp := loop_P (E := fun k (s : Int32 × Int32 × Value) => ev sO (d + 3) 250 114 [.ref 82, .int (nI a), .int (nI b), .int x, .int (unlS (mr σ a) (mr σ b)), .int s.1, .int s.2.1, .int (nI (k + 1)), s.2.2] [] σ) (N := 2047) (P := fun k s => c1 s.2.2 ∧ ((tkB (blP (σ.1 86) (mr σ a) (mr σ b)) k = (-1000000, 13, 0) ∧ s.1 = -1000000 ∧ s.2.1 = 0) ∨ ∃ S t, 0 < S ∧ S ≤ k ∧ 0 < t ∧ t ≤ k ∧ tkB (blP (σ.1 86) (mr σ a) (mr σ b)) k = (nI S, nI (pcN S), nI t) ∧ s.1 = nI S ∧ s.2.1 = nI t)) (fun k s hk hp => by
      obtain ⟨u, v, w⟩ := s
      obtain ⟨hw, hp⟩ := hp
      simp only at hw hp ⊢
      have p1 := pc_12 (k + 1)
      rw [u_250_82p114 _ _ _ _ _ _ _ _ _ _ hw, if_pos (show nI (k + 1) < (2048 : Int32) from nlt (N := 2048) (by omega)), tkB_s]
      by_cases c : nI (k + 1) &&& (unlS (mr σ a) (mr σ b) ^^^ (-1)) = 0
      · rw [if_pos c, m_sinks (d) (nI (k + 1)) hn hi ha hb, Option.bind_some]
        simp only [bi_0, nI_add1]
        by_cases cs : rsx (σ.1 86) (mr σ a) (mr σ b) (nI (k + 1)) < σ.1 86 101
        · rw [if_pos (show blP (σ.1 86) (mr σ a) (mr σ b) (k + 1) from ⟨c, cs⟩), if_neg (show ¬ ¬ rsx (σ.1 86) (mr σ a) (mr σ b) (nI (k + 1)) < σ.1 86 101 from fun z => z cs)]
          unfold tkF
          obtain ⟨t0, u0, v0⟩ | ⟨S, t, s1, s2, t1, t2, t0, u0, v0⟩ := hp
          · rw [u0, if_pos rfl, t0, if_pos (show nI (pcN (k + 1)) < (13 : Int32) from nlt (N := 13) (by omega))]
            exact ⟨(nI (k + 1), 1, .int 1), ⟨rfl, Or.inr ⟨k + 1, 1, by omega, by omega, by omega, by omega, rfl, rfl, rfl⟩⟩, rfl⟩
          · have p2 := pc_12 S
            rw [u0, v0, if_neg (show ¬ nI S = -1000000 from nI_nn (by omega)), t0]
            simp only [m_bits _ _ (show k + 1 < 4096 by omega), m_bits _ _ (show S < 4096 by omega), Option.bind_some, nI_add1]
            by_cases l : pcN (k + 1) < pcN S
            · rw [if_pos (nlt l), if_pos (nlt l)]
              exact ⟨(nI (k + 1), 1, .int 1), ⟨rfl, Or.inr ⟨k + 1, 1, by omega, by omega, by omega, by omega, rfl, rfl, rfl⟩⟩, rfl⟩
            · rw [if_neg (nnl (show pcN S ≤ pcN (k + 1) by omega)), if_neg (nnl (show pcN S ≤ pcN (k + 1) by omega))]
              by_cases q : nI (pcN (k + 1)) = nI (pcN S)
              · rw [if_pos q, if_pos q]
                exact ⟨(nI S, nI (t + 1), .int 0), ⟨rfl, Or.inr ⟨S, t + 1, s1, by omega, by omega, by omega, rfl, rfl, rfl⟩⟩, rfl⟩
              · rw [if_neg q, if_neg q]
                exact ⟨(nI S, nI t, .int 0), ⟨rfl, Or.inr ⟨S, t, s1, by omega, t1, by omega, rfl, rfl, rfl⟩⟩, rfl⟩
        · rw [if_pos cs, if_neg (show ¬ blP (σ.1 86) (mr σ a) (mr σ b) (k + 1) from fun z => cs z.2)]
          refine ⟨(u, v, w), ⟨hw, ?_⟩, rfl⟩
          obtain h | ⟨S, t, s1, s2, t1, t2, h⟩ := hp
          · exact Or.inl h
          · exact Or.inr ⟨S, t, s1, by omega, t1, by omega, h⟩
      · rw [if_neg c, if_neg (show ¬ blP (σ.1 86) (mr σ a) (mr σ b) (k + 1) from fun z => c z.1), nI_add1]
        refine ⟨(u, v, w), ⟨hw, ?_⟩, rfl⟩
        obtain h | ⟨S, t, s1, s2, t1, t2, h⟩ := hp
        · exact Or.inl h
        · exact Or.inr ⟨S, t, s1, by omega, t1, by omega, h⟩) (-1000000, 0, .null) ⟨rfl, Or.inl ⟨rfl, rfl, rfl⟩⟩
    obtain ⟨⟨u, v, w⟩, ⟨hw, hp⟩, e⟩ := hp
    simp only at hw hp e
    refine Eq.trans e ?_
    rw [u_250_82p114 _ _ _ _ _ _ _ _ _ _ hw, if_neg (show ¬ nI (2047 + 1) < (2048 : Int32) from nnl (N := 2048) (Nat.le_refl _))]
    unfold blV
    obtain ⟨t0, u0, v0⟩ | ⟨S, t, s1, s2, t1, t2, t0, u0, v0⟩ := hp
    · rw [t0, u0, v0]
      by_cases x2 : x = 2
      · rw [if_pos x2, if_pos x2]
      · rw [if_neg x2, if_neg x2, if_pos rfl, if_pos rfl]
    · have nn : ¬ nI S = -1000000 := nI_nn (by omega)
      rw [t0, u0, v0]
      by_cases x2 : x = 2
      · rw [if_pos x2, if_pos x2]
      · rw [if_neg x2, if_neg x2, if_neg nn, if_neg nn]
        by_cases x0 : x = 0
        · rw [if_pos x0, if_pos x0]
        · rw [if_neg x0, if_neg x0, m_bits _ _ (show S < 4096 by omega), Option.bind_some]
theorem rsx_c {K K' f f' g g' : Nat → Int32} (S : Int32) (hK : eqK K K') (hf : eqR f f') (hg : eqR g g') : rsx K f g S = rsx K' f' g' S := rse_c hK (fun k hk => by
  (try simp only)
  split
  · exact hg k hk
  · exact hf k hk)
theorem unlS_c {f g f' g' : Nat → Int32} (hf : eqR f f') (hg : eqR g g') : unlS f g = unlS f' g' := it_congr (fun k u hk => by
  have e : ulP f g k ↔ ulP f' g' k := by
    unfold ulP
    rw [hf k hk, hg k hk]
  by_cases q : ulP f g k
  · rw [if_pos q, if_pos (e.mp q)]
  · rw [if_neg q, if_neg (fun z => q (e.mpr z))])
theorem t_blame (d : Nat) {σ : ax_S} (x y z : Int32) (r : RA σ) : PB d σ 115 250 [.int x, .int y, .int z] := by
  obtain ⟨n, h⟩ := r.1
  obtain ⟨hn, hs, hs88, hi, hm, hm2, hE, hmo, -⟩ := rd_of h
  have eK : eqK (kc σ) (σ.1 86) := rk_K r.2.1 rfl
  have hK : kI (kc σ) := by
    obtain ⟨-, -, m, p, -, -, -, -, -, -, -, -, q, -⟩ := r.2.1
    intro i h1 h2
    rw [eK i h1 h2]
    exact (q i h1 h2).2
  have hv : ∀ c, c < n → ∀ k, k < 11 → mkV (cr σ c k) k := fun c hc k hk => by
    have e := (hE c hc).2 k hk
    have q := (hi c hc).1 k hk
    obtain ⟨-, -, -, h4⟩ := h
    obtain ⟨-, -, -, -, h5, -⟩ := h4 c hc
    obtain ⟨-, q1, q2, -⟩ := h5 k hk
    cases hb : bt (ms σ c) k
    · rw [e, mr_f hb]
      exact Or.inr ⟨q1, q2⟩
    · rw [e, mr_t hb]
      exact Or.inl rfl
  have i2n : ∀ {y : Int32}, rgP 0 2 y → ¬ (2 : Int32) < y := fun q => by rw [i_nlt _ 2 (by omega)]; have := q.2; omega
  by_cases hb : hasP (nI n) x ∧ hasP (nI n) y ∧ rgP 0 2 z
  · obtain ⟨h1, h2, h3⟩ := hb
    obtain ⟨a, ha, e1⟩ := hasP_of hn h1
    obtain ⟨b, hb, e2⟩ := hasP_of hn h2
    have sM : ∀ τ : ax_S, τ.1 88 = σ.1 88 → τ.1 86 = σ.1 86 → ∀ c, c < n → cI sO (d + 19) 249 [.ref 82, .int (nI c), .int (nI c), .int 0] τ = some (bi (rse (kc σ) (cr σ c) < kc σ 101), τ) := fun τ t1 t2 c hc => by
      obtain ⟨emr, -, -, -, -, -, hmi⟩ := m88 t1
      rw [m_sinks (d + 17) 0 hn (hmi n hi) hc hc, rsx_0, emr, t2, ← rse_c eK (hE c hc).2, eK 101 (by omega) (by omega)]
    by_cases hst : rse (kc σ) (cr σ a) < kc σ 101 ∨ ¬ rse (kc σ) (cr σ b) < kc σ 101
    · refine AK.pb ⟨-9000000000000000002, sI σ 82 0 0, cL_ev mi_115 ((u_115_0 _ σ _ _ _).trans ?_) rfl, cL_ev mi_250 ((u_250_82 _ σ _ _ _).trans ?_) rfl, Sc_0 σ⟩ r
      · simp only [s_has, hs, Option.bind_some, bi_0]
        rw [if_neg (fun q => q h1), if_neg (fun q => q h2), if_neg (rg01 h3), if_neg (i2n h3), e1, e2, s_sinks (d + 16) hs hn ha, Option.bind_some]
        simp only [bi_0]
        by_cases q : rse (kc σ) (cr σ a) < kc σ 101
        · rw [if_neg (fun z => z q)]
        · rw [if_pos q, s_sinks (d + 16) hs hn hb, Option.bind_some]
          simp only [bi_0]
          rw [if_pos (hst.resolve_left q)]
      · obtain ⟨ms0, -⟩ := rd_m h (ρ := sI σ 82 0 0) (sI_n _ _ (by decide))
        simp only [m_isCard _ _ ms0 hn, m_in, l_i, l_0, show (2 : Int64).toInt = 2 by decide, Option.bind_some, bi_0]
        rw [if_neg (fun q => q h1), if_neg (fun q => q h2), if_neg (fun q => q h3), e1, e2, sM _ (sI_n _ _ (by decide)) (sI_n _ _ (by decide)) a ha, Option.bind_some]
        simp only [bi_0]
        by_cases q : rse (kc σ) (cr σ a) < kc σ 101
        · rw [if_neg (fun z => z q)]
        · rw [if_pos q, sM _ (sI_n _ _ (by decide)) (sI_n _ _ (by decide)) b hb, Option.bind_some]
          simp only [bi_0]
          rw [if_pos (hst.resolve_left q)]
    · have qa : ¬ rse (kc σ) (cr σ a) < kc σ 101 := fun q => hst (Or.inl q)
      have qb : rse (kc σ) (cr σ b) < kc σ 101 := Decidable.not_not.mp (fun q => hst (Or.inr q))
      obtain ⟨τ, f1, f2, f3⟩ := s_findBlame (d + 16) hs hn ha hb hK (hv a ha) (hv b hb)
      have e88 : (sI τ 82 0 0).1 88 = σ.1 88 := by rw [sI_n _ _ (by decide), f2.1 88 (by decide)]
      have e86 : (sI τ 82 0 0).1 86 = σ.1 86 := by rw [sI_n _ _ (by decide), f2.1 86 (by decide)]
      have hs2 : (sI τ 82 0 0).1 88 0 = nI n := by rw [e88]; exact hs88
      obtain ⟨emr, -, -, -, -, -, hmi⟩ := m88 e88
      have hM := m_blame (d + 17) z hn (hmi n hi) ha hb
      have eT : tkB (blP ((sI τ 82 0 0).1 86) (mr (sI τ 82 0 0) a) (mr (sI τ 82 0 0) b)) 2047 = tkS τ := by
        rw [f3]
        unfold tkB
        refine it_congr (fun k s hk => ?_)
        rw [emr, e86]
        have : blP (σ.1 86) (mr σ a) (mr σ b) (k + 1) ↔ blP (kc σ) (cr σ a) (cr σ b) (k + 1) := by
          unfold blP
          rw [unlS_c (hE a ha).2 (hE b hb).2, rsx_c (nI (k + 1)) eK (hE a ha).2 (hE b hb).2, eK 101 (by omega) (by omega)]
        by_cases q : blP (kc σ) (cr σ a) (cr σ b) (k + 1)
        · rw [if_pos q, if_pos (this.mpr q)]
        · rw [if_neg q, if_neg (fun w => q (this.mp w))]
      rw [eT] at hM
      have hSb : Sb σ (sI τ 82 0 0) := by
        refine ⟨(f2.up (by decide)).set _ _ (by decide), ?_, ?_, ?_, ?_, ?_⟩
        all_goals rw [sI_k _ (by decide), f2.1 82 (by decide)]
      refine ⟨blV (tkS τ) z, τ, sI τ 82 0 0, cL_ev mi_115 ((u_115_0 _ σ _ _ _).trans ?_) rfl, cL_ev mi_250 ((u_250_82 _ τ _ _ _).trans ?_) rfl, RA_Sb hSb r, Fo_Sb hSb⟩
      · simp only [s_has, hs, Option.bind_some, bi_0]
        rw [if_neg (fun q => q h1), if_neg (fun q => q h2), if_neg (rg01 h3), if_neg (i2n h3), e1, e2, s_sinks (d + 16) hs hn ha, Option.bind_some]
        simp only [bi_0]
        rw [if_pos qa, s_sinks (d + 16) hs hn hb, Option.bind_some]
        simp only [bi_0]
        have ew : cI sO (d + 19) 121 [.ref 63] τ = some (τ.1 63 4, τ) := cI_ev mi_121 (u_121_63 _ τ) rfl
        have ef : cI sO (d + 19) 122 [.ref 63] τ = some (τ.1 63 2, τ) := cI_ev mi_122 (u_122_63 _ τ) rfl
        rw [if_neg (fun q => q qb), f1, Option.bind_some, ew, Option.bind_some, Option.bind_some, ef, Option.bind_some, Option.bind_some]
        unfold blV
        by_cases z2 : z = 2
        · rw [if_pos z2, if_pos z2]
        · rw [if_neg z2, if_neg z2]
          simp only [s_bitCount, Option.bind_some]
          obtain q | ⟨S, t, s1, s2, t1, t2, q⟩ := tk_sh (blP (kc σ) (cr σ a) (cr σ b)) 2047 (by omega)
          · rw [q] at f3
            have q1 : τ.1 63 2 = -1000000 := congrArg (fun p => p.1) f3
            have q2 : τ.1 63 4 = 0 := congrArg (fun p => p.2.2) f3
            rw [q1, q2, if_pos rfl, if_pos rfl]
          · rw [q] at f3
            have q1 : τ.1 63 2 = nI S := congrArg (fun p => p.1) f3
            have q2 : τ.1 63 4 = nI t := congrArg (fun p => p.2.2) f3
            have q3 : τ.1 63 3 = nI (pcN S) := congrArg (fun p => p.2.1) f3
            rw [q1, q2, q3, if_neg (fun w => by have := nI_inj (b := 0) (by omega) (by omega) w; omega), if_neg (show ¬ nI S = -1000000 from nI_nn (by omega)), bc_n (show S < 4096 by omega)]
            by_cases z0 : z = 0
            · rw [if_pos z0, if_pos z0]
            · rw [if_neg z0, if_neg z0]
      · simp only [m_isCard _ _ hs2 hn, m_in, l_i, l_0, show (2 : Int64).toInt = 2 by decide, Option.bind_some, bi_0]
        rw [if_neg (fun q => q h1), if_neg (fun q => q h2), if_neg (fun q => q h3), e1, e2, sM _ e88 e86 a ha, Option.bind_some]
        simp only [bi_0]
        rw [if_pos qa, sM _ e88 e86 b hb, Option.bind_some]
        simp only [bi_0]
        rw [if_neg (fun q => q qb), hM]
  · refine AK.pb ⟨BADv, sI σ 82 0 0, cL_ev mi_115 ((u_115_0 _ σ _ _ _).trans ?_) rfl, cL_ev mi_250 ((u_250_82 _ σ _ _ _).trans ?_) rfl, Sc_0 σ⟩ r
    · simp only [s_has, hs, Option.bind_some, bi_0]
      by_cases h1 : hasP (nI n) x
      · rw [if_neg (fun q => q h1)]
        by_cases h2 : hasP (nI n) y
        · rw [if_neg (fun q => q h2)]
          by_cases q : z < 0
          · rw [if_pos q]
          · rw [if_neg q, if_pos]
            rw [i_lt, i_0] at q
            rw [i_nlt _ 2 (by omega)]
            apply Int.lt_of_not_ge
            exact fun w => hb ⟨h1, h2, by omega, w⟩
        · rw [if_pos h2]
      · rw [if_pos h1]
    · obtain ⟨ms0, -⟩ := rd_m h (ρ := sI σ 82 0 0) (sI_n _ _ (by decide))
      simp only [m_isCard _ _ ms0 hn, m_in, l_i, l_0, show (2 : Int64).toInt = 2 by decide, Option.bind_some, bi_0]
      by_cases h1 : hasP (nI n) x
      · rw [if_neg (fun q => q h1)]
        by_cases h2 : hasP (nI n) y
        · rw [if_neg (fun q => q h2), if_pos (fun q => hb ⟨h1, h2, q⟩)]
        · rw [if_pos h2]
      · rw [if_pos h1]
