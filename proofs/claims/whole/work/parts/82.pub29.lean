/-! THE PUBLIC METHODS, 29: an item, a row that goes -/
/-- what is kept of a number in a lane -/
def kpt (l v : Int32) : Int32 := if l = 0 then v.toInt8.toInt32 else if l = 1 then v.toInt16.toInt32 else v
theorem s_put (d : Nat) {σ : ax_S} {r n i : Nat} (v : Int32) (hr : r < 8) (hn : n ≤ 40) (hs : σ.1 3 r = nI n) (hi : i < n) : cI sO (d + 3) 21 [.ref 1, .int (nI r), .int (nI i), .int v] σ = some (kpt (σ.1 2 r) v, sI σ 4 (40 * r + i) (kpt (σ.1 2 r) v)) := by
  refine cI_ev mi_21 ((u_21_1 d σ _ _ _).trans ?_) rfl
  have sp : spP n (nI i) 1 := by
    have := nI_i (n := i) (by omega)
    exact ⟨by omega, by rw [i_1]; omega, by rw [i_1]; omega⟩
  rw [s_spans d (nI i) 1 hr hn hs, Option.bind_some]
  simp only [bi_0]
  rw [if_neg (fun q => q sp), gd_t (nI_g hr (by omega)), nI_c (show r < 2147483648 by omega), (nI_40 hr (show i < 40 by omega)).1, gd_t (nI_g (show 40 * r + i < 320 by omega) (by omega)), gd_t (nI_g (show 40 * r + i < 320 by omega) (by omega)), gd_t (nI_g (show 40 * r + i < 320 by omega) (by omega)), nI_c (show 40 * r + i < 2147483648 by omega)]
  unfold kpt
  by_cases l0 : σ.1 2 r = 0
  · simp only [if_pos l0]
  · by_cases l1 : σ.1 2 r = 1
    · simp only [if_neg l0, if_pos l1]
    · simp only [if_neg l0, if_neg l1]
theorem Sf_3 (σ : ax_S) (x : Int32) : Sf σ (sI (sI (sI (sI σ 0 10 x) 82 0 0) 82 1 0) 82 1 x) := Sf_2 σ x
/-- a finding of both -/
theorem PB_f {d : Nat} {σ : ax_S} {c m : Nat} {as : List Value} (f : Int32) (r : RA σ) (h1 : cL sO (d + 20) c (.ref 0 :: as) σ = some ((-9000000000000000010 : Int64) - f.toInt64, sI σ 0 10 f)) (h2 : ∀ τ : ax_S, (∀ a, a ≠ 0 → τ.1 a = σ.1 a) → cL sO (d + 20) m (.ref 82 :: as) τ = some ((-9000000000000000010 : Int64) - f.toInt64, sI (sI (sI τ 82 0 0) 82 1 0) 82 1 f)) : PB d σ c m as :=
  ⟨_, _, _, h1, h2 _ (fun a ha => sI_n _ _ ha), RA_Sf (Sf_2 σ f) r, Fo_Sf (Sf_2 σ f)⟩
theorem Sw_mk {σ τ ρ : ax_S} {A B : List Nat} (hA : sm A σ τ) (hB : sm B (sI (sI (sI τ 0 10 0) 82 0 0) 82 1 0) ρ) (a1 : ∀ a, a ∈ A → a = 2 ∨ a = 3 ∨ a = 4) (b1 : ∀ a, a ∈ B → a = 83 ∨ a = 84 ∨ a = 85) : Sw σ ρ := by
  have n82 : 82 ∉ A := fun q => by have := a1 82 q; omega
  have n0 : 0 ∉ A := fun q => by have := a1 0 q; omega
  have m82 : 82 ∉ B := fun q => by have := b1 82 q; omega
  have m0 : 0 ∉ B := fun q => by have := b1 0 q; omega
  refine ⟨((((hA.up (fun a ha => ?_)).set 10 0 (by decide)).set 0 0 (by decide)).set 1 0 (by decide)).tr (hB.up (fun a ha => ?_)), ⟨?_, ?_, ?_, ?_⟩, ?_⟩
  · have := a1 a ha
    simp only [List.mem_cons, List.not_mem_nil, or_false]
    omega
  · have := b1 a ha
    simp only [List.mem_cons, List.not_mem_nil, or_false]
    omega
  · rw [hB.1 82 m82, sI_k _ (by decide), sI_k _ (by decide), sI_n _ _ (by decide), hA.1 82 n82]
  · rw [hB.1 82 m82, sI_k _ (by decide), sI_k _ (by decide), sI_n _ _ (by decide), hA.1 82 n82]
  · rw [hB.1 82 m82, sI_k _ (by decide), sI_k _ (by decide), sI_n _ _ (by decide), hA.1 82 n82]
  · rw [hB.1 82 m82, sI_k _ (by decide), sI_k _ (by decide), sI_n _ _ (by decide), hA.1 82 n82]
  · rw [hB.1 82 m82, hB.1 0 m0, sI_1, sI_n (x := 0) _ _ (by decide), sI_n (x := 0) _ _ (by decide), sI_1]
theorem RS_c {σ : ax_S} (h : Rs σ) {r : Nat} (hr : r < 8) : (σ.1 3 r = -1 ∧ σ.1 83 r < 0) ∨ ∃ n l, n ≤ 40 ∧ l ≤ 2 ∧ σ.1 3 r = nI n ∧ σ.1 84 r = nI n ∧ σ.1 2 r = nI l ∧ σ.1 83 r = nI l ∧ (∀ i, i < n → σ.1 4 (40 * r + i) = σ.1 85 (40 * r + i)) ∧ ¬ σ.1 3 r = -1 ∧ ¬ σ.1 83 r < 0 := by
  have hm := RS_m (h r hr)
  obtain ⟨a, b⟩ | ⟨n, l, a, b, c, e, f, g, i⟩ := h r hr
  · exact Or.inl ⟨a, hm.mp a⟩
  · have q : ¬ σ.1 83 r < 0 := by
      rw [g]
      exact nnl (N := 0) (by omega)
    exact Or.inr ⟨n, l, a, b, c, e, f, g, i, fun z => q (hm.mp z), q⟩
theorem t_drop (d : Nat) {σ : ax_S} (x : Int32) (r : RA σ) : PB d σ 25 202 [.int x] := by
  have hs := r.2.2.1
  by_cases h1 : rgP 0 7 x
  · obtain ⟨a, ha, e1⟩ := rgP_of (b := 7) (by omega) h1
    have ha : a < 8 := by omega
    obtain ⟨c1', c2⟩ | ⟨n, l, hn, hl, c3, c84, c2, c83, c4, c5, c6⟩ := RS_c hs ha
    · refine PB_f 1 r (cL_ev mi_25 ((u_25_0 _ σ _).trans ?_) rfl) (fun τ ht => cL_ev mi_202 ((u_202_82 _ τ _).trans ?_) rfl)
      · simp only [s_isRow, Option.bind_some, bi_0]
        rw [if_neg (fun q => q h1), e1, s_isMissing _ σ ha, Option.bind_some]
        simp only [bi_0]
        rw [if_neg (fun q => q c1'), s_found, Option.bind_some]
      · simp only [m_isRow, Option.bind_some, bi_0]
        rw [if_neg (fun q => q h1), e1, gd_t (nI_g ha (by omega)), nI_c (by omega), sI_n (x := 83) _ _ (by decide), sI_n (x := 83) _ _ (by decide), ht 83 (by decide), if_pos c2, m_finding, Option.bind_some]
    · have hSw : Sw σ (sI (sI (sI (sI (sI σ 3 a (-1)) 0 10 0) 82 0 0) 82 1 0) 83 a (-1)) := Sw_mk (A := [3]) (B := [83]) ((sm.rf _ _).set _ _ (by decide)) ((sm.rf _ _).set _ _ (by decide)) (fun a ha => by simp only [List.mem_cons, List.not_mem_nil, or_false] at ha; omega) (fun a ha => by simp only [List.mem_cons, List.not_mem_nil, or_false] at ha; omega)
      have q3 : (sI (sI (sI (sI (sI σ 3 a (-1)) 0 10 0) 82 0 0) 82 1 0) 83 a (-1)).1 3 = upd (σ.1 3) a (-1) := by rw [sI_n _ _ (by decide), sI_n _ _ (by decide), sI_n _ _ (by decide), sI_n _ _ (by decide), sI_u]
      have q83 : (sI (sI (sI (sI (sI σ 3 a (-1)) 0 10 0) 82 0 0) 82 1 0) 83 a (-1)).1 83 = upd (σ.1 83) a (-1) := by rw [sI_u, sI_n _ _ (by decide), sI_n _ _ (by decide), sI_n _ _ (by decide), sI_n _ _ (by decide)]
      have qo : ∀ b, b ≠ 0 → b ≠ 3 → b ≠ 82 → b ≠ 83 → (sI (sI (sI (sI (sI σ 3 a (-1)) 0 10 0) 82 0 0) 82 1 0) 83 a (-1)).1 b = σ.1 b := fun b h0 h3 h82 h83 => by rw [sI_n _ _ h83, sI_n _ _ h82, sI_n _ _ h82, sI_n _ _ h0, sI_n _ _ h3]
      have hRs : Rs (sI (sI (sI (sI (sI σ 3 a (-1)) 0 10 0) 82 0 0) 82 1 0) 83 a (-1)) := by
        intro r' hr'
        rw [q3, q83, qo 2 (by decide) (by decide) (by decide) (by decide), qo 4 (by decide) (by decide) (by decide) (by decide), qo 84 (by decide) (by decide) (by decide) (by decide), qo 85 (by decide) (by decide) (by decide) (by decide)]
        by_cases q : r' = a
        · subst q
          exact Or.inl ⟨upd_1 _ _ _, upd_1 _ _ _⟩
        · exact RS_g (hs r' hr') rfl (upd_n _ _ q) (upd_n _ _ q) rfl (fun _ _ => rfl) (fun _ _ => rfl)
      obtain ⟨z1, z2⟩ := RA_Sw hSw hRs r
      refine ⟨(nI n).toInt64, _, _, cL_ev mi_25 ((u_25_0 _ σ _).trans ?_) rfl, cL_ev mi_202 ((u_202_82 _ (sI (sI σ 3 a (-1)) 0 10 0) _).trans ?_) rfl, z1, z2⟩
      · simp only [s_isRow, Option.bind_some, bi_0]
        rw [if_neg (fun q => q h1), e1, s_isMissing _ σ ha, Option.bind_some]
        simp only [bi_0]
        have er : cI sO (d + 19) 26 [.ref 1, .int (nI a)] σ = some (nI n, sI σ 3 a (-1)) := by
          refine cI_ev mi_26 ((u_26_1 _ σ _).trans ?_) rfl
          rw [s_sizeOf _ σ ha, Option.bind_some]
          simp only [s_isRow, Option.bind_some, bi_0]
          rw [if_neg (fun q => q (e1 ▸ h1)), gd_t (nI_g ha (by omega)), nI_c (by omega), c3]
        rw [if_pos c5, er, Option.bind_some]
        (try simp only)
        rw [s_clean, Option.bind_some]
      · simp only [m_isRow, Option.bind_some, bi_0]
        rw [if_neg (fun q => q h1), e1, gd_t (nI_g ha (by omega)), nI_c (by omega), sI_n (x := 83) _ _ (by decide), sI_n (x := 83) _ _ (by decide), sI_n (x := 83) _ _ (by decide), sI_n (x := 83) _ _ (by decide), if_neg c6, gd_t (nI_g ha (by omega)), gd_t (nI_g ha (by omega)), sI_n (x := 84) _ _ (by decide), sI_n (x := 84) _ _ (by decide), sI_n (x := 84) _ _ (by decide), sI_n (x := 84) _ _ (by decide), sI_n (x := 84) _ _ (by decide), c84]
  · refine AK.pb ⟨BADv, sI σ 82 0 0, cL_ev mi_25 ((u_25_0 _ σ _).trans ?_) rfl, cL_ev mi_202 ((u_202_82 _ σ _).trans ?_) rfl, Sc_0 σ⟩ r
    · simp only [s_isRow, Option.bind_some, bi_0]
      rw [if_pos h1]
    · simp only [m_isRow, Option.bind_some, bi_0]
      rw [if_pos h1]
theorem t_setI (d : Nat) {σ : ax_S} (x y v : Int32) (r : RA σ) : PB d σ 17 200 [.int x, .int y, .int v] := by
  have hs := r.2.2.1
  by_cases h1 : rgP 0 7 x
  · obtain ⟨a, ha, e1⟩ := rgP_of (b := 7) (by omega) h1
    have ha : a < 8 := by omega
    obtain ⟨c1', c2⟩ | ⟨n, l, hn, hl, c3, c84, c2, c83, c4, c5, c6⟩ := RS_c hs ha
    · refine PB_f 1 r (cL_ev mi_17 ((u_17_0 _ σ _ _ _).trans ?_) rfl) (fun τ ht => cL_ev mi_200 ((u_200_82 _ τ _ _ _).trans ?_) rfl)
      · simp only [s_isRow, Option.bind_some, bi_0]
        rw [if_neg (fun q => q h1), e1, s_isMissing _ σ ha, Option.bind_some]
        simp only [bi_0]
        rw [if_neg (fun q => q c1'), s_found, Option.bind_some]
      · simp only [m_isRow, Option.bind_some, bi_0]
        rw [if_neg (fun q => q h1), e1, gd_t (nI_g ha (by omega)), nI_c (by omega), sI_n (x := 83) _ _ (by decide), sI_n (x := 83) _ _ (by decide), ht 83 (by decide), if_pos c2, m_finding, Option.bind_some]
    · have em : (nI n - 1).toInt = (n : Int) - 1 := by
        rw [i_sub (by rw [nI_i (by omega), i_1]; omega) (by rw [nI_i (by omega), i_1]; omega), nI_i (by omega), i_1]
      by_cases hy : spP n y 1
      · obtain ⟨y1, -, y3⟩ := hy
        rw [i_1] at y3
        obtain ⟨i, hi0, e2, e2'⟩ := i_nI y1
        have hi : i < n := by omega
        have hsp : spP n (nI i) 1 := ⟨by rw [nI_i hi0]; omega, by rw [i_1]; omega, by rw [nI_i hi0, i_1]; omega⟩
        have hSw : Sw σ (sI (sI (sI (sI (sI σ 4 (40 * a + i) (kpt (nI l) v)) 0 10 0) 82 0 0) 82 1 0) 85 (40 * a + i) (kpt (nI l) v)) := Sw_mk (A := [4]) (B := [85]) ((sm.rf _ _).set _ _ (by decide)) ((sm.rf _ _).set _ _ (by decide)) (fun a ha => by simp only [List.mem_cons, List.not_mem_nil, or_false] at ha; omega) (fun a ha => by simp only [List.mem_cons, List.not_mem_nil, or_false] at ha; omega)
        have q4 : (sI (sI (sI (sI (sI σ 4 (40 * a + i) (kpt (nI l) v)) 0 10 0) 82 0 0) 82 1 0) 85 (40 * a + i) (kpt (nI l) v)).1 4 = upd (σ.1 4) (40 * a + i) (kpt (nI l) v) := by rw [sI_n _ _ (by decide), sI_n _ _ (by decide), sI_n _ _ (by decide), sI_n _ _ (by decide), sI_u]
        have q85 : (sI (sI (sI (sI (sI σ 4 (40 * a + i) (kpt (nI l) v)) 0 10 0) 82 0 0) 82 1 0) 85 (40 * a + i) (kpt (nI l) v)).1 85 = upd (σ.1 85) (40 * a + i) (kpt (nI l) v) := by rw [sI_u, sI_n _ _ (by decide), sI_n _ _ (by decide), sI_n _ _ (by decide), sI_n _ _ (by decide)]
        have qo : ∀ b, b ≠ 0 → b ≠ 4 → b ≠ 82 → b ≠ 85 → (sI (sI (sI (sI (sI σ 4 (40 * a + i) (kpt (nI l) v)) 0 10 0) 82 0 0) 82 1 0) 85 (40 * a + i) (kpt (nI l) v)).1 b = σ.1 b := fun b h0 h3 h82 h83 => by rw [sI_n _ _ h83, sI_n _ _ h82, sI_n _ _ h82, sI_n _ _ h0, sI_n _ _ h3]
        have hRs : Rs (sI (sI (sI (sI (sI σ 4 (40 * a + i) (kpt (nI l) v)) 0 10 0) 82 0 0) 82 1 0) 85 (40 * a + i) (kpt (nI l) v)) := by
          intro r' hr'
          rw [q4, q85, qo 2 (by decide) (by decide) (by decide) (by decide), qo 3 (by decide) (by decide) (by decide) (by decide), qo 83 (by decide) (by decide) (by decide) (by decide), qo 84 (by decide) (by decide) (by decide) (by decide)]
          by_cases q : r' = a
          · subst q
            refine Or.inr ⟨n, l, hn, hl, c3, c84, c2, c83, fun k hk => ?_⟩
            by_cases q : k = i
            · rw [q, upd_1, upd_1]
            · rw [upd_n _ _ (by omega), upd_n _ _ (by omega)]
              exact c4 k hk
          · exact RS_g (hs r' hr') rfl rfl rfl rfl (fun k hk => upd_n _ _ (by omega)) (fun k hk => upd_n _ _ (by omega))
        obtain ⟨z1, z2⟩ := RA_Sw hSw hRs r
        refine ⟨(kpt (nI l) v).toInt64, _, _, cL_ev mi_17 ((u_17_0 _ σ _ _ _).trans ?_) rfl, cL_ev mi_200 ((u_200_82 _ (sI (sI σ 4 (40 * a + i) (kpt (nI l) v)) 0 10 0) _ _ _).trans ?_) rfl, z1, z2⟩
        · simp only [s_isRow, Option.bind_some, bi_0]
          rw [if_neg (fun q => q h1), e1, e2, s_isMissing _ σ ha, Option.bind_some]
          simp only [bi_0]
          rw [if_pos c5, s_spans (d + 17) (nI i) 1 ha hn c3, Option.bind_some]
          simp only [bi_0]
          rw [if_neg (fun q => q hsp), s_put (d + 16) v ha hn c3 hi, Option.bind_some]
          (try simp only)
          rw [s_clean, Option.bind_some, c2]
        · simp only [m_isRow, Option.bind_some, bi_0]
          rw [if_neg (fun q => q h1), e1, e2]
          have gA := nI_g ha (N := 8) (by omega)
          have gI := nI_g (show 40 * a + i < 320 by omega) (by omega)
          have eA := nI_c (show a < 2147483648 by omega)
          have eI := nI_c (show 40 * a + i < 2147483648 by omega)
          have e40 := (nI_40 ha (show i < 40 by omega)).2
          have p83 : (sI (sI (sI (sI σ 4 (40 * a + i) (kpt (nI l) v)) 0 10 0) 82 0 0) 82 1 0).1 83 = σ.1 83 := by rw [sI_n _ _ (by decide), sI_n _ _ (by decide), sI_n _ _ (by decide), sI_n _ _ (by decide)]
          have p84 : (sI (sI (sI (sI σ 4 (40 * a + i) (kpt (nI l) v)) 0 10 0) 82 0 0) 82 1 0).1 84 = σ.1 84 := by rw [sI_n _ _ (by decide), sI_n _ _ (by decide), sI_n _ _ (by decide), sI_n _ _ (by decide)]
          rw [gd_t gA, eA, p83, if_neg c6, gd_t gA, p84, c84, m_in, Option.bind_some]
          simp only [bi_0, l_0, l_i, em, p83]
          rw [if_neg (fun q => q ⟨by rw [nI_i hi0]; omega, by rw [nI_i hi0]; omega⟩), gd_t gA, gd_t gA, e40, gd_t gI, gd_t gI, gd_t gI, gd_t gI, gd_t gI, gd_t gI, eI, c83]
          unfold kpt
          by_cases l0 : nI l = 0
          · simp only [if_pos l0, sI_1]
          · by_cases l1 : nI l = 1
            · simp only [if_neg l0, if_pos l1, sI_1]
            · simp only [if_neg l0, if_neg l1, sI_1]
      · refine PB_f 2 r (cL_ev mi_17 ((u_17_0 _ σ _ _ _).trans ?_) rfl) (fun τ ht => cL_ev mi_200 ((u_200_82 _ τ _ _ _).trans ?_) rfl)
        · simp only [s_isRow, Option.bind_some, bi_0]
          rw [if_neg (fun q => q h1), e1, s_isMissing _ σ ha, Option.bind_some]
          simp only [bi_0]
          rw [if_pos c5, s_spans (d + 17) y 1 ha hn c3, Option.bind_some]
          simp only [bi_0]
          rw [if_pos hy, s_found, Option.bind_some]
        · simp only [m_isRow, Option.bind_some, bi_0]
          rw [if_neg (fun q => q h1), e1]
          have gA := nI_g ha (N := 8) (by omega)
          rw [gd_t gA, nI_c (by omega), sI_n (x := 83) _ _ (by decide), sI_n (x := 83) _ _ (by decide), ht 83 (by decide), if_neg c6, gd_t gA, sI_n (x := 84) _ _ (by decide), sI_n (x := 84) _ _ (by decide), ht 84 (by decide), c84, m_in, Option.bind_some]
          simp only [bi_0, l_0, l_i, em]
          rw [if_pos (fun q => hy ⟨q.1, by rw [i_1]; omega, by rw [i_1]; have := q.2; omega⟩), m_finding, Option.bind_some]
  · refine AK.pb ⟨BADv, sI σ 82 0 0, cL_ev mi_17 ((u_17_0 _ σ _ _ _).trans ?_) rfl, cL_ev mi_200 ((u_200_82 _ σ _ _ _).trans ?_) rfl, Sc_0 σ⟩ r
    · simp only [s_isRow, Option.bind_some, bi_0]
      rw [if_pos h1]
    · simp only [m_isRow, Option.bind_some, bi_0]
      rw [if_pos h1]
