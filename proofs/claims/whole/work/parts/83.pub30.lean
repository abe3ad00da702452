/-! THE PUBLIC METHODS, 30: items are copied -/
theorem s_carry (d : Nat) {σ : ax_S} {a b n m i j k : Nat} (ha : a < 8) (hb : b < 8) (hn : n ≤ 40) (hm : m ≤ 40) (ea : σ.1 3 a = nI n) (eb : σ.1 3 b = nI m) (hi : i + k ≤ n) (hj : j + k ≤ m) : ∃ τ, cV sO (d + 3) 24 [.ref 1, .int (nI a), .int (nI i), .int (nI b), .int (nI j), .int (nI k)] σ = some τ ∧ sm [4] σ τ ∧ ∀ x, τ.1 4 x = if 40 * b + j ≤ x ∧ x < 40 * b + j + k then σ.1 4 (40 * a + i + (x - (40 * b + j))) else σ.1 4 x := by
  have e1 : nI a * (40 : Int32) + nI i = nI (40 * a + i) := by
    rw [show (40 : Int32) = nI 40 from rfl, nI_mul (by omega) (by omega) (by omega), nI_pl (by omega), Nat.mul_comm]
  have e2 : nI b * (40 : Int32) + nI j = nI (40 * b + j) := by
    rw [show (40 : Int32) = nI 40 from rfl, nI_mul (by omega) (by omega) (by omega), nI_pl (by omega), Nat.mul_comm]
  have s1 : spP n (nI i) (nI k) := by
    have := nI_i (n := i) (by omega)
    have := nI_i (n := k) (by omega)
    exact ⟨by omega, by omega, by omega⟩
  have s2 : spP m (nI j) (nI k) := by
    have := nI_i (n := j) (by omega)
    have := nI_i (n := k) (by omega)
    exact ⟨by omega, by omega, by omega⟩
  have ok : cpOk 320 320 (nI a * 40 + nI i) (nI b * 40 + nI j) (nI k) := by
    rw [e1, e2]
    refine ⟨nnl (N := 0) (by omega), nnl (N := 0) (by omega), nnl (N := 0) (by omega), ?_, ?_⟩
    · rw [nI_c (by omega), nI_c (by omega)]; omega
    · rw [nI_c (by omega), nI_c (by omega)]; omega
  refine ⟨sR σ 4 (va_cpy (σ.1 4) (σ.1 4) (40 * a + i) (40 * b + j) k), cV_ev mi_24 ((u_24_1 d σ _ _ _ _ _ ok).trans ?_) rfl, (sm.rf _ _).put _ (by decide), fun x => by rw [sR_1]; rfl⟩
  rw [s_spans d _ _ ha hn ea, Option.bind_some]
  simp only [bi_0]
  rw [if_neg (fun q => q s1), s_spans d _ _ hb hm eb, Option.bind_some]
  simp only [bi_0]
  rw [if_neg (fun q => q s2), e1, e2, nI_c (by omega), nI_c (by omega), nI_c (by omega)]
/-- what is copied, as it was ahead -/
abbrev cpd (f g : Nat → Int32) (p q k : Nat) : Prop := ∀ x, g x = if q ≤ x ∧ x < q + k then f (p + (x - q)) else f x
theorem m_copy (d : Nat) {σ : ax_S} {a b i j k : Nat} (ha : a < 8) (hb : b < 8) (hi : i + k ≤ 40) (hj : j + k ≤ 40) (up : Int32) (hu : (up = 0 ∧ i < j) ∨ (up = 1 ∧ j ≤ i)) : ∃ ρ, ev sO (d + 2) 201 144 [.ref 82, .int (nI a), .int (nI i), .int (nI b), .int (nI j), .int (nI k), .int up, .int 0, .null] [] σ = some (some (.long (nI k).toInt64), ρ) ∧ sm [85] σ ρ ∧ cpd (σ.1 85) (ρ.1 85) (40 * a + i) (40 * b + j) k := by
  have e1 : (40 : Int32) * nI a + nI i = nI (40 * a + i) := by
    rw [show (40 : Int32) = nI 40 from rfl, nI_mul (by omega) (by omega) (by omega), nI_pl (by omega)]
  have e2 : (40 : Int32) * nI b + nI j = nI (40 * b + j) := by
    rw [show (40 : Int32) = nI 40 from rfl, nI_mul (by omega) (by omega) (by omega), nI_pl (by omega)]
  obtain ⟨u0, hij⟩ | ⟨u1, hij⟩ := hu
  · -- from the end down
    subst u0
    obtain ⟨⟨w, τ⟩, ⟨p0, p1, p2⟩, e⟩ := loop_P (E := fun t (s : Value × ax_S) => ev sO (d + 2) 201 144 [.ref 82, .int (nI a), .int (nI i), .int (nI b), .int (nI j), .int (nI k), .int 0, .int (nI t), s.1] [] s.2) (N := k) (P := fun t s => c1 s.1 ∧ sm [85] σ s.2 ∧ ∀ x, s.2.1 85 x = if 40 * b + j + (k - t) ≤ x ∧ x < 40 * b + j + k then σ.1 85 (40 * a + i + (x - (40 * b + j))) else σ.1 85 x) (fun t s ht hp => by
      obtain ⟨w, τ⟩ := s
      obtain ⟨p0, p1, p2⟩ := hp
      simp only at p0 p1 p2 ⊢
      have e3 : nI k - 1 - nI t = nI (k - 1 - t) := by
        rw [nI_sub1 (by omega) (by omega)]
        apply Int32.toInt_inj.mp
        rw [i_sub (by rw [nI_i (by omega), nI_i (by omega)]; omega) (by rw [nI_i (by omega), nI_i (by omega)]; omega), nI_i (by omega), nI_i (by omega), nI_i (by omega)]
        omega
      have e4 : nI (40 * a + i) + nI (k - 1 - t) = nI (40 * a + i + (k - 1 - t)) := nI_pl (by omega)
      have e5 : nI (40 * b + j) + nI (k - 1 - t) = nI (40 * b + j + (k - 1 - t)) := nI_pl (by omega)
      refine ⟨(.int (nI (k - 1 - t)), sI τ 85 (40 * b + j + (k - 1 - t)) (τ.1 85 (40 * a + i + (k - 1 - t)))), ⟨rfl, p1.set _ _ (by decide), fun x => ?_⟩, ?_⟩
      · simp only
        have src : τ.1 85 (40 * a + i + (k - 1 - t)) = σ.1 85 (40 * a + i + (k - 1 - t)) := by
          rw [p2, if_neg (by omega)]
        by_cases q : x = 40 * b + j + (k - 1 - t)
        · rw [if_pos (by omega), q, sI_1, src, show 40 * b + j + (k - 1 - t) - (40 * b + j) = k - 1 - t by omega]
        · rw [sI_k _ q, p2 x]
          by_cases q2 : 40 * b + j + (k - t) ≤ x ∧ x < 40 * b + j + k
          · rw [if_pos q2, if_pos (by omega)]
          · rw [if_neg q2, if_neg (by omega)]
      · rw [u_201_82p144 _ _ _ _ _ _ _ _ _ _ p0, if_pos (nlt ht), if_pos rfl, e1, e2, e3, e4, e5, gd_t (nI_g (show 40 * a + i + (k - 1 - t) < 320 by omega) (by omega)), gd_t (nI_g (show 40 * b + j + (k - 1 - t) < 320 by omega) (by omega)), nI_add1, nI_c (by omega), nI_c (by omega)]) (.null, σ) ⟨rfl, sm.rf _ _, fun x => by rw [if_neg (by omega)]⟩
    simp only at p0 p1 p2
    refine ⟨τ, e.trans ?_, p1, fun x => ?_⟩
    · rw [u_201_82p144 _ _ _ _ _ _ _ _ _ _ p0, if_neg (nnl (Nat.le_refl k))]
    · rw [p2 x, Nat.sub_self, Nat.add_zero]
  · subst u1
    obtain ⟨⟨w, τ⟩, ⟨p0, p1, p2⟩, e⟩ := loop_P (E := fun t (s : Value × ax_S) => ev sO (d + 2) 201 144 [.ref 82, .int (nI a), .int (nI i), .int (nI b), .int (nI j), .int (nI k), .int 1, .int (nI t), s.1] [] s.2) (N := k) (P := fun t s => c1 s.1 ∧ sm [85] σ s.2 ∧ ∀ x, s.2.1 85 x = if 40 * b + j ≤ x ∧ x < 40 * b + j + t then σ.1 85 (40 * a + i + (x - (40 * b + j))) else σ.1 85 x) (fun t s ht hp => by
      obtain ⟨w, τ⟩ := s
      obtain ⟨p0, p1, p2⟩ := hp
      simp only at p0 p1 p2 ⊢
      have e4 : nI (40 * a + i) + nI t = nI (40 * a + i + t) := nI_pl (by omega)
      have e5 : nI (40 * b + j) + nI t = nI (40 * b + j + t) := nI_pl (by omega)
      refine ⟨(.int (nI t), sI τ 85 (40 * b + j + t) (τ.1 85 (40 * a + i + t))), ⟨rfl, p1.set _ _ (by decide), fun x => ?_⟩, ?_⟩
      · simp only
        have src : τ.1 85 (40 * a + i + t) = σ.1 85 (40 * a + i + t) := by
          rw [p2, if_neg (by omega)]
        by_cases q : x = 40 * b + j + t
        · rw [if_pos (by omega), q, sI_1, src, show 40 * b + j + t - (40 * b + j) = t by omega]
        · rw [sI_k _ q, p2 x]
          by_cases q2 : 40 * b + j ≤ x ∧ x < 40 * b + j + t
          · rw [if_pos q2, if_pos (by omega)]
          · rw [if_neg q2, if_neg (by omega)]
      · rw [u_201_82p144 _ _ _ _ _ _ _ _ _ _ p0, if_pos (nlt ht), if_neg (by decide), e1, e2, e4, e5, gd_t (nI_g (show 40 * a + i + t < 320 by omega) (by omega)), gd_t (nI_g (show 40 * b + j + t < 320 by omega) (by omega)), nI_add1, nI_c (by omega), nI_c (by omega)]) (.null, σ) ⟨rfl, sm.rf _ _, fun x => by rw [if_neg (by omega)]⟩
    simp only at p0 p1 p2
    refine ⟨τ, e.trans ?_, p1, p2⟩
    rw [u_201_82p144 _ _ _ _ _ _ _ _ _ _ p0, if_neg (nnl (Nat.le_refl k))]
theorem t_copy (d : Nat) {σ : ax_S} (x y z w v : Int32) (r : RA σ) : PB d σ 22 201 [.int x, .int y, .int z, .int w, .int v] := by
  have hs := r.2.2.1
  by_cases hb : rgP 0 7 x ∧ rgP 0 7 z
  · obtain ⟨h1, h2⟩ := hb
    obtain ⟨a, ha, e1⟩ := rgP_of (b := 7) (by omega) h1
    obtain ⟨b, hb, e2⟩ := rgP_of (b := 7) (by omega) h2
    have ha : a < 8 := by omega
    have hb : b < 8 := by omega
    have gA := nI_g ha (N := 8) (by omega)
    have gB := nI_g hb (N := 8) (by omega)
    have eA := nI_c (show a < 2147483648 by omega)
    have eB := nI_c (show b < 2147483648 by omega)
    have p83 : ∀ τ : ax_S, (∀ a, a ≠ 0 → τ.1 a = σ.1 a) → (sI (sI τ 82 0 0) 82 1 0).1 83 = σ.1 83 := fun τ ht => by rw [sI_n _ _ (by decide), sI_n _ _ (by decide), ht 83 (by decide)]
    have p84 : ∀ τ : ax_S, (∀ a, a ≠ 0 → τ.1 a = σ.1 a) → (sI (sI τ 82 0 0) 82 1 0).1 84 = σ.1 84 := fun τ ht => by rw [sI_n _ _ (by decide), sI_n _ _ (by decide), ht 84 (by decide)]
    obtain ⟨a1, a2⟩ | ⟨n, l, hn, hl, a3, a84, a2, a83, a4, a5, a6⟩ := RS_c hs ha
    · refine PB_f 1 r (cL_ev mi_22 ((u_22_0 _ σ _ _ _ _ _).trans ?_) rfl) (fun τ ht => cL_ev mi_201 ((u_201_82 _ τ _ _ _ _ _).trans ?_) rfl)
      · simp only [s_isRow, Option.bind_some, bi_0]
        rw [if_neg (fun q => q h1), if_neg (fun q => q h2), e1, s_isMissing _ σ ha, Option.bind_some]
        simp only [bi_0]
        rw [if_neg (fun q => q a1), s_found, Option.bind_some]
      · simp only [m_isRow, Option.bind_some, bi_0]
        rw [if_neg (fun q => q h1), if_neg (fun q => q h2), e1, gd_t gA, eA, p83 τ ht, if_pos a2, m_finding, Option.bind_some]
    · obtain ⟨b1, b2⟩ | ⟨m, l', hm, hl', b3, b84, b2, b83, b4, b5, b6⟩ := RS_c hs hb
      · refine PB_f 1 r (cL_ev mi_22 ((u_22_0 _ σ _ _ _ _ _).trans ?_) rfl) (fun τ ht => cL_ev mi_201 ((u_201_82 _ τ _ _ _ _ _).trans ?_) rfl)
        · simp only [s_isRow, Option.bind_some, bi_0]
          rw [if_neg (fun q => q h1), if_neg (fun q => q h2), e1, e2, s_isMissing _ σ ha, Option.bind_some]
          simp only [bi_0]
          rw [if_pos a5, s_isMissing _ σ hb, Option.bind_some]
          simp only [bi_0]
          rw [if_neg (fun q => q b1), s_found, Option.bind_some]
        · simp only [m_isRow, Option.bind_some, bi_0]
          rw [if_neg (fun q => q h1), if_neg (fun q => q h2), e1, e2, gd_t gA, eA, p83 τ ht, if_neg a6, gd_t gB, eB, if_pos b2, m_finding, Option.bind_some]
      · by_cases hl2 : l = l'
        · by_cases hp : spP n y v ∧ spP m w v
          · obtain ⟨⟨y0, v0, yv⟩, w0, -, wv⟩ := hp
            obtain ⟨i, hi0, ey, ey2⟩ := i_nI y0
            obtain ⟨j, hj0, ew, ew2⟩ := i_nI w0
            obtain ⟨k, hk0, ek, ek2⟩ := i_nI v0
            have hi : i + k ≤ n := by omega
            have hj : j + k ≤ m := by omega
            have s1 : spP n (nI i) (nI k) := ⟨by rw [nI_i hi0]; omega, by rw [nI_i hk0]; omega, by rw [nI_i hi0, nI_i hk0]; omega⟩
            have s2 : spP m (nI j) (nI k) := ⟨by rw [nI_i hj0]; omega, by rw [nI_i hk0]; omega, by rw [nI_i hj0, nI_i hk0]; omega⟩
            obtain ⟨τ, c1', c2, c3⟩ := s_carry (d + 16) ha hb hn hm a3 b3 hi hj
            have hu : (if nI i < nI j then (0 : Int32) else 1) = 0 ∧ i < j ∨ (if nI i < nI j then (0 : Int32) else 1) = 1 ∧ j ≤ i := by
              by_cases q : i < j
              · exact Or.inl ⟨if_pos (nlt q (by omega)), q⟩
              · exact Or.inr ⟨if_neg (nnl (by omega) (by omega)), by omega⟩
            obtain ⟨ρ, m1, m2, m3⟩ := m_copy (d + 18) (σ := sI (sI (sI τ 0 10 0) 82 0 0) 82 1 0) ha hb (show i + k ≤ 40 by omega) (show j + k ≤ 40 by omega) _ hu
            have hSw : Sw σ ρ := Sw_mk c2 m2 (fun a ha => by simp only [List.mem_cons, List.not_mem_nil, or_false] at ha; omega) (fun a ha => by simp only [List.mem_cons, List.not_mem_nil, or_false] at ha; omega)
            have qo : ∀ b, b ≠ 0 → b ≠ 4 → b ≠ 82 → b ≠ 85 → ρ.1 b = σ.1 b := fun b h0 h4 h82 h85 => by
              rw [m2.1 b (by simp only [List.mem_cons, List.not_mem_nil, or_false]; exact h85), sI_n _ _ h82, sI_n _ _ h82, sI_n _ _ h0, c2.1 b (by simp only [List.mem_cons, List.not_mem_nil, or_false]; exact h4)]
            have q4 : ρ.1 4 = τ.1 4 := by rw [m2.1 4 (by decide), sI_n _ _ (by decide), sI_n _ _ (by decide), sI_n _ _ (by decide)]
            have q85 : (sI (sI (sI τ 0 10 0) 82 0 0) 82 1 0).1 85 = σ.1 85 := by rw [sI_n _ _ (by decide), sI_n _ _ (by decide), sI_n _ _ (by decide), c2.1 85 (by decide)]
            rw [q85] at m3
            have hRs : Rs ρ := by
              intro r' hr'
              rw [qo 2 (by decide) (by decide) (by decide) (by decide), qo 3 (by decide) (by decide) (by decide) (by decide), qo 83 (by decide) (by decide) (by decide) (by decide), qo 84 (by decide) (by decide) (by decide) (by decide), q4]
              by_cases q : r' = b
              · subst q
                refine Or.inr ⟨m, l', hm, hl', b3, b84, b2, b83, fun t ht => ?_⟩
                rw [c3, m3]
                by_cases q : 40 * r' + j ≤ 40 * r' + t ∧ 40 * r' + t < 40 * r' + j + k
                · rw [if_pos q, if_pos q, show 40 * a + i + (40 * r' + t - (40 * r' + j)) = 40 * a + (i + (t - j)) by omega]
                  exact a4 _ (by omega)
                · rw [if_neg q, if_neg q]
                  exact b4 t ht
              · refine RS_g (hs r' hr') rfl rfl rfl rfl (fun t ht => ?_) (fun t ht => ?_)
                · rw [c3, if_neg (by omega)]
                · rw [m3, if_neg (by omega)]
            obtain ⟨z1, z2⟩ := RA_Sw hSw hRs r
            refine ⟨(nI k).toInt64, sI τ 0 10 0, ρ, cL_ev mi_22 ((u_22_0 _ σ _ _ _ _ _).trans ?_) rfl, cL_ev mi_201 ((u_201_82 _ _ _ _ _ _ _).trans ?_) rfl, z1, z2⟩
            · simp only [s_isRow, Option.bind_some, bi_0]
              rw [if_neg (fun q => q h1), if_neg (fun q => q h2), e1, e2, ey, ew, ek, s_isMissing _ σ ha, Option.bind_some]
              simp only [bi_0]
              rw [if_pos a5, s_isMissing _ σ hb, Option.bind_some]
              simp only [bi_0]
              rw [if_pos b5, s_laneOf _ σ ha, Option.bind_some]
              simp only
              rw [s_laneOf _ σ hb, Option.bind_some]
              simp only
              rw [a2, b2, hl2, if_pos rfl, s_spans (d + 17) _ _ ha hn a3, Option.bind_some]
              simp only [bi_0]
              rw [if_neg (fun q => q s1), s_spans (d + 17) _ _ hb hm b3, Option.bind_some]
              simp only [bi_0]
              rw [if_neg (fun q => q s2), c1', Option.bind_some, s_clean, Option.bind_some]
            · have pt : ∀ a, a ≠ 0 → a ≠ 4 → (sI τ 0 10 0).1 a = σ.1 a := fun a h0 h4 => by rw [sI_n _ _ h0, c2.1 a (by simp only [List.mem_cons, List.not_mem_nil, or_false]; exact h4)]
              have r83 : (sI (sI (sI τ 0 10 0) 82 0 0) 82 1 0).1 83 = σ.1 83 := by rw [sI_n _ _ (by decide), sI_n _ _ (by decide), pt 83 (by decide) (by decide)]
              have r84 : (sI (sI (sI τ 0 10 0) 82 0 0) 82 1 0).1 84 = σ.1 84 := by rw [sI_n _ _ (by decide), sI_n _ _ (by decide), pt 84 (by decide) (by decide)]
              simp only [m_isRow, Option.bind_some, bi_0]
              rw [if_neg (fun q => q h1), if_neg (fun q => q h2), e1, e2, gd_t gA, eA, r83, if_neg a6, gd_t gB, eB, if_neg b6, gd_t gA, gd_t gB, a83, b83, hl2, if_pos rfl, ey, ew, ek, if_neg (show ¬ nI i < 0 from nnl (N := 0) (by omega) hi0), if_neg (show ¬ nI j < 0 from nnl (N := 0) (by omega) hj0), if_neg (show ¬ nI k < 0 from nnl (N := 0) (by omega) hk0), gd_t gA, r84, a84, if_neg (fun q => by rw [L_gt, nI_i (by omega), nI_i hi0, nI_i hk0] at q; omega), gd_t gB, b84, if_neg (fun q => by rw [L_gt, nI_i (by omega), nI_i hj0, nI_i hk0] at q; omega)]
              by_cases q : nI i < nI j
              · rw [if_pos q]
                rw [if_pos q] at m1
                exact m1
              · rw [if_neg q]
                rw [if_neg q] at m1
                exact m1
          · refine PB_f 2 r (cL_ev mi_22 ((u_22_0 _ σ _ _ _ _ _).trans ?_) rfl) (fun τ ht => cL_ev mi_201 ((u_201_82 _ τ _ _ _ _ _).trans ?_) rfl)
            · simp only [s_isRow, Option.bind_some, bi_0]
              rw [if_neg (fun q => q h1), if_neg (fun q => q h2), e1, e2, s_isMissing _ σ ha, Option.bind_some]
              simp only [bi_0]
              rw [if_pos a5, s_isMissing _ σ hb, Option.bind_some]
              simp only [bi_0]
              rw [if_pos b5, s_laneOf _ σ ha, Option.bind_some]
              simp only
              rw [s_laneOf _ σ hb, Option.bind_some]
              simp only
              rw [a2, b2, hl2, if_pos rfl, s_spans (d + 17) _ _ ha hn a3, Option.bind_some]
              simp only [bi_0]
              by_cases q1 : spP n y v
              · rw [if_neg (fun q => q q1), s_spans (d + 17) _ _ hb hm b3, Option.bind_some]
                simp only [bi_0]
                rw [if_pos (fun q => hp ⟨q1, q⟩), s_found, Option.bind_some]
              · rw [if_pos q1, s_found, Option.bind_some]
            · have r83 := p83 τ ht
              have r84 := p84 τ ht
              simp only [m_isRow, Option.bind_some, bi_0]
              rw [if_neg (fun q => q h1), if_neg (fun q => q h2), e1, e2, gd_t gA, eA, r83, if_neg a6, gd_t gB, eB, if_neg b6, gd_t gA, gd_t gB, a83, b83, hl2, if_pos rfl, m_finding, Option.bind_some]
              split
              · rfl
              · split
                · rfl
                · split
                  · rfl
                  · rename_i q1 q2 q3
                    rw [i_lt, i_0] at q1 q2 q3
                    rw [gd_t gA, r84, a84]
                    split
                    · rfl
                    · rename_i q4
                      rw [L_gt, nI_i (by omega)] at q4
                      rw [gd_t gB, b84, if_pos]
                      rw [L_gt, nI_i (by omega)]
                      apply Int.lt_of_not_ge
                      intro q5
                      exact hp ⟨⟨by omega, by omega, by omega⟩, by omega, by omega, by omega⟩
        · refine PB_f 5 r (cL_ev mi_22 ((u_22_0 _ σ _ _ _ _ _).trans ?_) rfl) (fun τ ht => cL_ev mi_201 ((u_201_82 _ τ _ _ _ _ _).trans ?_) rfl)
          · simp only [s_isRow, Option.bind_some, bi_0]
            rw [if_neg (fun q => q h1), if_neg (fun q => q h2), e1, e2, s_isMissing _ σ ha, Option.bind_some]
            simp only [bi_0]
            rw [if_pos a5, s_isMissing _ σ hb, Option.bind_some]
            simp only [bi_0]
            rw [if_pos b5, s_laneOf _ σ ha, Option.bind_some]
            simp only
            rw [s_laneOf _ σ hb, Option.bind_some]
            simp only
            rw [a2, b2, if_neg (fun q => hl2 (nI_inj (by omega) (by omega) q)), s_found, Option.bind_some]
          · have r83 := p83 τ ht
            simp only [m_isRow, Option.bind_some, bi_0]
            rw [if_neg (fun q => q h1), if_neg (fun q => q h2), e1, e2, gd_t gA, eA, r83, if_neg a6, gd_t gB, eB, if_neg b6, gd_t gA, gd_t gB, a83, b83, if_neg (fun q => hl2 (nI_inj (by omega) (by omega) q)), m_finding, Option.bind_some]
  · refine AK.pb ⟨BADv, sI σ 82 0 0, cL_ev mi_22 ((u_22_0 _ σ _ _ _ _ _).trans ?_) rfl, cL_ev mi_201 ((u_201_82 _ σ _ _ _ _ _).trans ?_) rfl, Sc_0 σ⟩ r
    · simp only [s_isRow, Option.bind_some, bi_0]
      by_cases q1 : rgP 0 7 x
      · rw [if_neg (fun q => q q1), if_pos (fun q2 => hb ⟨q1, q2⟩)]
      · rw [if_pos q1]
    · simp only [m_isRow, Option.bind_some, bi_0]
      by_cases q1 : rgP 0 7 x
      · rw [if_neg (fun q => q q1), if_pos (fun q2 => hb ⟨q1, q2⟩)]
      · rw [if_pos q1]
