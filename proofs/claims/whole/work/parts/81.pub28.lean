/-! THE PUBLIC METHODS, 28: rows -/
theorem L_sum (x y : Int32) : (x.toInt64 + y.toInt64).toInt = x.toInt + y.toInt := by
  have h1 := i_rng x
  have h2 := i_rng y
  rw [Int64.toInt_add, l_i, l_i]
  exact Int.bmod_eq_of_le (by omega) (by omega)
theorem L_gt (x y z : Int32) : 0 < lg_cmp (x.toInt64 + y.toInt64) z.toInt64 ↔ z.toInt < x.toInt + y.toInt := by
  rw [lg_cmp_gt, Int64.lt_iff_toInt_lt, L_sum, l_i]
theorem RS_g {la sz it_ lN mN iN la' sz' it' lN' mN' iN' : Nat → Int32} {r : Nat} (h : RS la sz it_ lN mN iN r) (h1 : la' r = la r) (h2 : sz' r = sz r) (h3 : lN' r = lN r) (h4 : mN' r = mN r) (h5 : ∀ i, i < 40 → it' (40 * r + i) = it_ (40 * r + i)) (h6 : ∀ i, i < 40 → iN' (40 * r + i) = iN (40 * r + i)) : RS la' sz' it' lN' mN' iN' r := by
  obtain ⟨a, b⟩ | ⟨n, l, a, b, c, e, f, g, i⟩ := h
  · exact Or.inl ⟨h2.trans a, h3.trans b⟩
  · exact Or.inr ⟨n, l, a, b, h2.trans c, h4.trans e, h1.trans f, h3.trans g, fun k hk => by rw [h5 k (by omega), h6 k (by omega)]; exact i k hk⟩
/-- what a call with a row may leave changed -/
abbrev Sw (σ ρ : ax_S) : Prop := sm [0, 2, 3, 4, 82, 83, 84, 85] σ ρ ∧ (ρ.1 82 7 = σ.1 82 7 ∧ ρ.1 82 10 = σ.1 82 10 ∧ ρ.1 82 11 = σ.1 82 11 ∧ ρ.1 82 43 = σ.1 82 43) ∧ ρ.1 82 1 = ρ.1 0 10
theorem RA_Sw {σ ρ : ax_S} (h : Sw σ ρ) (hr : Rs ρ) (r : RA σ) : RA ρ ∧ Fo σ ρ := by
  obtain ⟨⟨h1, h2⟩, ⟨f7, f10, f11, f43⟩, ff⟩ := h
  obtain ⟨r1, r2, r3, r4, r5, r6, r7, r8⟩ := r
  refine ⟨⟨Rd_c (fun a ha => h1 a ?_) r1, Rk_c (fun a ha => h1 a ?_) f7 r2, hr, Rt_c (fun a ha => h1 a ?_) (by rw [h1 5 (by decide)]) (by rw [h1 5 (by decide)]) f10 f11 r4, Ri_c (fun a ha => h1 a ?_) r5, Ri_c (fun a ha => h1 a ?_) r6, Rtr_c (fun a ha => h1 a ?_) (by rw [h1 80 (by decide)]) f43 r7, ff⟩, fun a h3 h4 => h1 a ?_, h2⟩
  · simp only [List.mem_cons, List.not_mem_nil, or_false] at ha ⊢; omega
  · simp only [List.mem_cons, List.not_mem_nil, or_false] at ha ⊢; omega
  · simp only [List.mem_cons, List.not_mem_nil, or_false] at ha ⊢; omega
  · simp only [List.mem_cons, List.not_mem_nil, or_false] at ha ⊢; omega
  · simp only [List.mem_cons, List.not_mem_nil, or_false] at ha ⊢; omega
  · simp only [List.mem_cons, List.not_mem_nil, or_false] at ha ⊢; omega
  · simp only [List.mem_cons, List.not_mem_nil, or_false]; omega
theorem s_sizeOf (d : Nat) (σ : ax_S) {r : Nat} (hr : r < 8) : cI sO (d + 1) 19 [.ref 1, .int (nI r)] σ = some (σ.1 3 r, σ) := by
  refine cI_ev mi_19 ((u_19_1 d σ _).trans ?_) rfl
  have h : rgP 0 7 (nI r) := by
    have := nI_i (n := r) (by omega)
    exact ⟨by omega, by omega⟩
  simp only [s_isRow, Option.bind_some, bi_0]
  rw [if_neg (fun q => q h), gd_t (nI_g hr (by omega)), nI_c (by omega)]
theorem s_laneOf (d : Nat) (σ : ax_S) {r : Nat} (hr : r < 8) : cI sO (d + 1) 23 [.ref 1, .int (nI r)] σ = some (σ.1 2 r, σ) := by
  refine cI_ev mi_23 ((u_23_1 d σ _).trans ?_) rfl
  have h : rgP 0 7 (nI r) := by
    have := nI_i (n := r) (by omega)
    exact ⟨by omega, by omega⟩
  simp only [s_isRow, Option.bind_some, bi_0]
  rw [if_neg (fun q => q h), gd_t (nI_g hr (by omega)), nI_c (by omega)]
theorem s_isMissing (d : Nat) (σ : ax_S) {r : Nat} (hr : r < 8) : cI sO (d + 2) 18 [.ref 1, .int (nI r)] σ = some (bi (σ.1 3 r = -1), σ) := by
  refine cI_ev mi_18 ((u_18_1 d σ _).trans ?_) rfl
  rw [s_sizeOf d σ hr, Option.bind_some]
  (try simp only)
  unfold bi
  split <;> rfl
/-- places of a row, in its bounds -/
abbrev spP (n : Nat) (x y : Int32) : Prop := 0 ≤ x.toInt ∧ 0 ≤ y.toInt ∧ x.toInt + y.toInt ≤ n
theorem s_spans (d : Nat) {σ : ax_S} {r n : Nat} (x y : Int32) (hr : r < 8) (hn : n ≤ 40) (hs : σ.1 3 r = nI n) : cI sO (d + 2) 20 [.ref 1, .int (nI r), .int x, .int y] σ = some (bi (spP n x y), σ) := by
  refine cI_ev mi_20 ((u_20_1 d σ _ _ _).trans ?_) rfl
  have r1 := i_rng x
  have r2 := i_rng y
  by_cases a : x < 0
  · rw [if_pos a, bi_f]
    intro q
    rw [i_lt, i_0] at a
    have := q.1
    omega
  · rw [if_neg a]
    by_cases b : y < 0
    · rw [if_pos b, bi_f]
      intro q
      rw [i_lt, i_0] at b
      have := q.2.1
      omega
    · rw [if_neg b, s_sizeOf d σ hr, Option.bind_some]
      simp only [hs]
      rw [i_lt, i_0] at a b
      have e : (nI n - y).toInt = n - y.toInt := by
        rw [i_sub (by rw [nI_i (by omega)]; omega) (by rw [nI_i (by omega)]; omega), nI_i (by omega)]
      by_cases c : nI n - y < x
      · rw [if_pos c, bi_f]
        intro q
        rw [i_lt, e] at c
        have := q.2.2
        omega
      · rw [if_neg c, bi_t]
        rw [i_lt, e] at c
        exact ⟨by omega, by omega, by omega⟩
theorem nI_40 {r i : Nat} (hr : r < 8) (hi : i < 40) : nI r * (40 : Int32) + nI i = nI (40 * r + i) ∧ (40 : Int32) * nI r + nI i = nI (40 * r + i) := by
  constructor
  · rw [show (40 : Int32) = nI 40 from rfl, nI_mul (by omega) (by omega) (by omega), nI_pl (by omega), Nat.mul_comm]
  · rw [show (40 : Int32) = nI 40 from rfl, nI_mul (by omega) (by omega) (by omega), nI_pl (by omega)]
theorem s_lay (d : Nat) {σ : ax_S} {r l n : Nat} (hr : r < 8) (hn : n ≤ 40) : ∃ τ, cV sO (d + 1) 15 [.ref 1, .int (nI r), .int (nI l), .int (nI n)] σ = some τ ∧ sm [2, 3, 4] σ τ ∧ τ.1 2 = upd (σ.1 2) r (nI l) ∧ τ.1 3 = upd (σ.1 3) r (nI n) ∧ (∀ i, i < n → τ.1 4 (40 * r + i) = 0) ∧ ∀ j, (∀ i, i < 40 → j ≠ 40 * r + i) → τ.1 4 j = σ.1 4 j := by
  have h : rgP 0 7 (nI r) := by
    have := nI_i (n := r) (by omega)
    exact ⟨by omega, by omega⟩
  obtain ⟨τ, ⟨p1, p2, p3⟩, e⟩ := loop_P (E := fun k (τ : ax_S) => ev sO (d + 1) 15 35 [.ref 1, .int (nI r), .int (nI l), .int (nI n), .int (nI k)] [] τ) (N := n) (P := fun k τ => sm [4] (sI (sI σ 2 r (nI l)) 3 r (nI n)) τ ∧ (∀ i, i < k → τ.1 4 (40 * r + i) = 0) ∧ ∀ j, (∀ i, i < 40 → j ≠ 40 * r + i) → τ.1 4 j = σ.1 4 j) (fun k τ hk hp => by
    obtain ⟨p1, p2, p3⟩ := hp
    refine ⟨sI τ 4 (40 * r + k) 0, ⟨p1.set _ _ (by decide), fun i hi => ?_, fun j hj => ?_⟩, ?_⟩
    · by_cases q : i = k
      · rw [q, sI_1]
      · rw [sI_k _ (by omega)]
        exact p2 i (by omega)
    · rw [sI_k _ (hj k (by omega))]
      exact p3 j hj
    · (try simp only)
      rw [u_15_1p35 _ _ _ _ rfl, if_pos (nlt hk), (nI_40 hr (show k < 40 by omega)).1, gd_t (nI_g (show 40 * r + k < 320 by omega) (by omega)), nI_add1, nI_c (by omega)]) (sI (sI σ 2 r (nI l)) 3 r (nI n)) ⟨sm.rf _ _, fun i hi => absurd hi (Nat.not_lt_zero i), fun j hj => by rw [sI_n _ _ (by decide), sI_n _ _ (by decide)]⟩
  refine ⟨τ, cV_ev mi_15 ((u_15_1 d σ _ _ _).trans ?_) rfl, (((sm.rf _ _).set _ _ (by decide)).set _ _ (by decide)).tr (p1.up (by decide)), ?_, ?_, p2, p3⟩
  · simp only [s_isRow, Option.bind_some, bi_0]
    rw [if_neg (fun q => q h), if_neg (show ¬ nI n < 0 from nnl (N := 0) (by omega)), if_neg (show ¬ (40 : Int32) < nI n from nnl (N := n) (k := 40) hn), gd_t (nI_g hr (by omega)), gd_t (nI_g hr (by omega)), nI_c (by omega)]
    refine Eq.trans e ?_
    rw [u_15_1p35 _ _ _ _ rfl, if_neg (nnl (Nat.le_refl n))]
  · rw [p1.1 2 (by decide), sI_n _ _ (by decide), sI_u]
  · rw [p1.1 3 (by decide), sI_u, sI_n _ _ (by decide)]
theorem m_rowz (d : Nat) {σ : ax_S} {r : Nat} (w x : Int32) (hr : r < 8) : ∃ ρ, ev sO (d + 2) 196 66 [.ref 82, .int (nI r), .int w, .int x, .int 0] [] σ = some (some (.long x.toInt64), ρ) ∧ sm [85] σ ρ ∧ (∀ i, i < 40 → ρ.1 85 (40 * r + i) = 0) ∧ ∀ j, (∀ i, i < 40 → j ≠ 40 * r + i) → ρ.1 85 j = σ.1 85 j := by
  obtain ⟨τ, ⟨p1, p2, p3⟩, e⟩ := loop_P (E := fun k (τ : ax_S) => ev sO (d + 2) 196 66 [.ref 82, .int (nI r), .int w, .int x, .int (nI k)] [] τ) (N := 40) (P := fun k τ => sm [85] σ τ ∧ (∀ i, i < k → τ.1 85 (40 * r + i) = 0) ∧ ∀ j, (∀ i, i < 40 → j ≠ 40 * r + i) → τ.1 85 j = σ.1 85 j) (fun k τ hk hp => by
    obtain ⟨p1, p2, p3⟩ := hp
    refine ⟨sI τ 85 (40 * r + k) 0, ⟨p1.set _ _ (by decide), fun i hi => ?_, fun j hj => ?_⟩, ?_⟩
    · by_cases q : i = k
      · rw [q, sI_1]
      · rw [sI_k _ (by omega)]
        exact p2 i (by omega)
    · rw [sI_k _ (hj k (by omega))]
      exact p3 j hj
    · (try simp only)
      rw [u_196_82p66 _ _ _ _ rfl, if_pos (show nI k < (40 : Int32) from nlt (N := 40) hk), (nI_40 hr hk).2, gd_t (nI_g (show 40 * r + k < 320 by omega) (by omega)), nI_add1, nI_c (by omega)]) σ ⟨sm.rf _ _, fun i hi => absurd hi (Nat.not_lt_zero i), fun _ _ => rfl⟩
  refine ⟨τ, e.trans ?_, p1, p2, p3⟩
  rw [u_196_82p66 _ _ _ _ rfl, if_neg (show ¬ nI 40 < (40 : Int32) from nnl (N := 40) (Nat.le_refl _))]
theorem t_row (d : Nat) {σ : ax_S} (x y z : Int32) (r : RA σ) : PB d σ 12 196 [.int x, .int y, .int z] := by
  have hs := r.2.2.1
  by_cases hb : rgP 0 7 x ∧ rgP 0 2 y ∧ z.toInt ≤ 40
  · obtain ⟨h1, h2, h3⟩ := hb
    obtain ⟨a, ha, e1⟩ := rgP_of (b := 7) (by omega) h1
    obtain ⟨l, hl, e2⟩ := rgP_of (b := 2) (by omega) h2
    have y2 : ¬ (2 : Int32) < y := by
      rw [i_nlt y 2 (by omega)]
      have := h2.2
      omega
    have z4 : ¬ (40 : Int32) < z := by
      rw [i_nlt z 40 (by omega)]
      omega
    by_cases z0 : z < 0
    · have hSf := Sf_2 σ 4
      refine ⟨(-9000000000000000010 : Int64) - (4 : Int32).toInt64, sI σ 0 10 4, sI (sI (sI (sI σ 0 10 4) 82 0 0) 82 1 0) 82 1 4, cL_ev mi_12 ((u_12_0 _ σ _ _ _).trans ?_) rfl, cL_ev mi_196 ((u_196_82 _ _ _ _ _).trans ?_) rfl, RA_Sf hSf r, Fo_Sf hSf⟩
      · simp only [s_isRow, s_found, Option.bind_some, bi_0]
        rw [if_neg (fun q => q h1), if_neg (rg01 h2), if_neg y2, if_neg z4, if_pos z0]
      · simp only [m_isRow, m_in, m_finding, l_i, l_0, show (2 : Int64).toInt = 2 by decide, Option.bind_some, bi_0]
        rw [if_neg (fun q => q h1), if_neg (fun q => q h2), if_neg z4, if_pos z0]
    · obtain ⟨n, hn0, e3, e3'⟩ := i_nI (x := z) (by rw [i_lt, i_0] at z0; omega)
      have hn : n ≤ 40 := by omega
      obtain ⟨τ, a1, a2, a3, a4, a5, a6⟩ := s_lay (d + 18) (σ := σ) (l := l) (show a < 8 by omega) hn
      obtain ⟨ρ, b1', b2, b3, b4⟩ := m_rowz (d + 18) (σ := sI (sI (sI (sI (sI τ 0 10 0) 82 0 0) 82 1 0) 83 a y) 84 a z) y z (show a < 8 by omega)
      have hSw : Sw σ ρ := by
        refine ⟨(((((a2.up (by decide)).set _ _ (by decide)).set _ _ (by decide)).set _ _ (by decide)).set _ _ (by decide) |>.set _ _ (by decide)).tr (b2.up (by decide)), ⟨?_, ?_, ?_, ?_⟩, ?_⟩
        · rw [b2.1 82 (by decide), sI_n _ _ (by decide), sI_n _ _ (by decide), sI_k _ (by decide), sI_k _ (by decide), sI_n _ _ (by decide), a2.1 82 (by decide)]
        · rw [b2.1 82 (by decide), sI_n _ _ (by decide), sI_n _ _ (by decide), sI_k _ (by decide), sI_k _ (by decide), sI_n _ _ (by decide), a2.1 82 (by decide)]
        · rw [b2.1 82 (by decide), sI_n _ _ (by decide), sI_n _ _ (by decide), sI_k _ (by decide), sI_k _ (by decide), sI_n _ _ (by decide), a2.1 82 (by decide)]
        · rw [b2.1 82 (by decide), sI_n _ _ (by decide), sI_n _ _ (by decide), sI_k _ (by decide), sI_k _ (by decide), sI_n _ _ (by decide), a2.1 82 (by decide)]
        · rw [b2.1 82 (by decide), b2.1 0 (by decide), sI_n (x := 82) _ _ (by decide), sI_n (x := 82) _ _ (by decide), sI_1, sI_n (x := 0) _ _ (by decide), sI_n (x := 0) _ _ (by decide), sI_n (x := 0) _ _ (by decide), sI_n (x := 0) _ _ (by decide), sI_1]
      have q2 : ρ.1 2 = upd (σ.1 2) a (nI l) := by rw [b2.1 2 (by decide), sI_n _ _ (by decide), sI_n _ _ (by decide), sI_n _ _ (by decide), sI_n _ _ (by decide), sI_n _ _ (by decide), a3]
      have q3 : ρ.1 3 = upd (σ.1 3) a (nI n) := by rw [b2.1 3 (by decide), sI_n _ _ (by decide), sI_n _ _ (by decide), sI_n _ _ (by decide), sI_n _ _ (by decide), sI_n _ _ (by decide), a4]
      have q4 : ρ.1 4 = τ.1 4 := by rw [b2.1 4 (by decide), sI_n _ _ (by decide), sI_n _ _ (by decide), sI_n _ _ (by decide), sI_n _ _ (by decide), sI_n _ _ (by decide)]
      have q83 : ρ.1 83 = upd (σ.1 83) a y := by rw [b2.1 83 (by decide), sI_n _ _ (by decide), sI_u, sI_n _ _ (by decide), sI_n _ _ (by decide), sI_n _ _ (by decide), a2.1 83 (by decide)]
      have q84 : ρ.1 84 = upd (σ.1 84) a z := by rw [b2.1 84 (by decide), sI_u, sI_n _ _ (by decide), sI_n _ _ (by decide), sI_n _ _ (by decide), sI_n _ _ (by decide), a2.1 84 (by decide)]
      have q85 : ∀ j, (∀ i, i < 40 → j ≠ 40 * a + i) → ρ.1 85 j = σ.1 85 j := fun j hj => by
        rw [b4 j hj, sI_n _ _ (by decide), sI_n _ _ (by decide), sI_n _ _ (by decide), sI_n _ _ (by decide), sI_n _ _ (by decide), a2.1 85 (by decide)]
      have hRs : Rs ρ := by
        intro r' hr'
        by_cases q : r' = a
        · subst q
          refine Or.inr ⟨n, l, hn, hl, by rw [q3, upd_1], by rw [q84, upd_1, e3], by rw [q2, upd_1], by rw [q83, upd_1, e2], fun i hi => ?_⟩
          rw [q4, a5 i hi, b3 i (by omega)]
        · refine RS_g (hs r' hr') (by rw [q2, upd_n _ _ q]) (by rw [q3, upd_n _ _ q]) (by rw [q83, upd_n _ _ q]) (by rw [q84, upd_n _ _ q]) (fun i hi => ?_) (fun i hi => ?_)
          · rw [q4]
            exact a6 _ (fun i' hi' => by omega)
          · exact q85 _ (fun i' hi' => by omega)
      obtain ⟨z1, z2⟩ := RA_Sw hSw hRs r
      refine ⟨z.toInt64, sI τ 0 10 0, ρ, cL_ev mi_12 ((u_12_0 _ σ _ _ _).trans ?_) rfl, cL_ev mi_196 ((u_196_82 _ _ _ _ _).trans ?_) rfl, z1, z2⟩
      · simp only [s_isRow, Option.bind_some, bi_0]
        rw [if_neg (fun q => q h1), if_neg (rg01 h2), if_neg y2, if_neg z4, if_neg z0, e1, e2, e3, a1, Option.bind_some, s_clean, Option.bind_some]
      · simp only [m_isRow, m_in, l_i, l_0, show (2 : Int64).toInt = 2 by decide, Option.bind_some, bi_0]
        rw [if_neg (fun q => q h1), if_neg (fun q => q h2), if_neg z4, if_neg z0, e1, gd_t (nI_g (show a < 8 by omega) (by omega)), gd_t (nI_g (show a < 8 by omega) (by omega)), nI_c (by omega), b1']
  · refine AK.pb ⟨BADv, sI σ 82 0 0, cL_ev mi_12 ((u_12_0 _ σ _ _ _).trans ?_) rfl, cL_ev mi_196 ((u_196_82 _ σ _ _ _).trans ?_) rfl, Sc_0 σ⟩ r
    · simp only [s_isRow, Option.bind_some, bi_0]
      split
      · rfl
      · split
        · rfl
        · split
          · rfl
          · split
            · rfl
            · rename_i a1 a2 a3 a4
              rw [i_lt, i_0] at a2
              rw [i_nlt y 2 (by omega)] at a3
              rw [i_nlt z 40 (by omega)] at a4
              exact absurd ⟨Decidable.not_not.mp a1, ⟨by omega, by omega⟩, by omega⟩ hb
    · simp only [m_isRow, m_in, l_i, l_0, show (2 : Int64).toInt = 2 by decide, Option.bind_some, bi_0]
      split
      · rfl
      · split
        · rfl
        · split
          · rfl
          · rename_i a1 a2 a3
            rw [i_nlt z 40 (by omega)] at a3
            exact absurd ⟨Decidable.not_not.mp a1, Decidable.not_not.mp a2, by omega⟩ hb
