/-! THE PUBLIC METHODS, 22: restore -/
theorem m_restore (d : Nat) {σ : ax_S} {x : Nat} (hx : x < 2) : ∃ ρ, ev sO (d + 1) 279 34 [.ref 82, .int (nI x), .int 0] [] σ = some (some (.long 1), ρ) ∧ sm [86, 88] σ ρ ∧ (∀ i, i < 102 → ρ.1 86 i = σ.1 102 (102 * x + i)) ∧ (∀ i, i < 181 → ρ.1 88 i = σ.1 103 (181 * x + i)) := by
  obtain ⟨τ, ⟨p1, p2⟩, e1⟩ := loop_P (E := fun k (τ : ax_S) => ev sO (d + 1) 279 34 [.ref 82, .int (nI x), .int (nI k)] [] τ) (N := 102) (P := fun k τ => sm [86] σ τ ∧ (∀ i, i < k → τ.1 86 i = σ.1 102 (102 * x + i))) (fun k τ hk hp => by
    obtain ⟨p1, p2⟩ := hp
    have e0 : (102 : Int32) * nI x + nI k = nI (102 * x + k) := by rw [show (102 : Int32) = nI 102 from rfl, nI_mul (by omega) (by omega) (by omega), nI_pl (by omega)]
    refine ⟨sI τ 86 k (σ.1 102 (102 * x + k)), ⟨p1.set _ _ (by decide), fun i hi => ?_⟩, ?_⟩
    · by_cases q : i = k
      · rw [q, sI_1]
      · rw [sI_k _ (by omega)]
        exact p2 i (by omega)
    · (try simp only)
      rw [u_279_82p34, if_pos (show nI k < (102 : Int32) from nlt (N := 102) hk), e0, gd_t (nI_g (show 102 * x + k < 204 by omega) (by omega)), gd_t (nI_g hk (by omega)), nI_add1, nI_c (by omega), nI_c (by omega), p1.1 102 (by decide)]) σ ⟨sm.rf _ _, fun i hi => absurd hi (Nat.not_lt_zero i)⟩
  obtain ⟨ρ, ⟨q1, q2⟩, e2⟩ := loop_P (E := fun k (ρ : ax_S) => ev sO (d + 1) 279 65 [.ref 82, .int (nI x), .int (nI k)] [] ρ) (N := 181) (P := fun k ρ => sm [88] τ ρ ∧ (∀ i, i < k → ρ.1 88 i = τ.1 103 (181 * x + i))) (fun k ρ hk hp => by
    obtain ⟨q1, q2⟩ := hp
    have e0 : (181 : Int32) * nI x + nI k = nI (181 * x + k) := by rw [show (181 : Int32) = nI 181 from rfl, nI_mul (by omega) (by omega) (by omega), nI_pl (by omega)]
    refine ⟨sI ρ 88 k (τ.1 103 (181 * x + k)), ⟨q1.set _ _ (by decide), fun i hi => ?_⟩, ?_⟩
    · by_cases q : i = k
      · rw [q, sI_1]
      · rw [sI_k _ (by omega)]
        exact q2 i (by omega)
    · (try simp only)
      rw [u_279_82p65, if_pos (show nI k < (181 : Int32) from nlt (N := 181) hk), e0, gd_t (nI_g (show 181 * x + k < 362 by omega) (by omega)), gd_t (nI_g hk (by omega)), nI_add1, nI_c (by omega), nI_c (by omega), q1.1 103 (by decide)]) τ ⟨sm.rf _ _, fun i hi => absurd hi (Nat.not_lt_zero i)⟩
  refine ⟨ρ, ?_, (p1.up (by decide)).tr (q1.up (by decide)), fun i hi => ?_, fun i hi => ?_⟩
  · refine Eq.trans e1 ?_
    rw [u_279_82p34, if_neg (show ¬ nI 102 < (102 : Int32) from nnl (N := 102) (Nat.le_refl _))]
    refine Eq.trans e2 ?_
    rw [u_279_82p65, if_neg (show ¬ nI 181 < (181 : Int32) from nnl (N := 181) (Nat.le_refl _))]
  · rw [q1.1 86 (by decide)]
    exact p2 i hi
  · rw [q2 i hi, p1.1 103 (by decide)]
theorem s_isThere2 (d : Nat) {σ : ax_S} (h : σ.1 23 0 = 0 ∨ σ.1 23 0 = 1) : cI sO d 67 [.ref 23] σ = some (σ.1 23 0, σ) := by
  refine cI_ev mi_67 ((u_67_23 d σ).trans ?_) rfl
  obtain e | e := h <;> rw [e] <;> rfl
theorem s_isThere3 (d : Nat) {σ : ax_S} (h : σ.1 38 0 = 0 ∨ σ.1 38 0 = 1) : cI sO d 67 [.ref 38] σ = some (σ.1 38 0, σ) := by
  refine cI_ev mi_67 ((u_67_38 d σ).trans ?_) rfl
  obtain e | e := h <;> rw [e] <;> rfl
/-- the kitchen and the cards are new, the rest is as it was -/
theorem RA_re {σ ρ : ax_S} {L : List Nat} (h : sm L σ ρ) (hL : ∀ a, a ∈ L → (8 ≤ a ∧ a ≤ 21) ∨ (52 ≤ a ∧ a ≤ 65) ∨ a = 82 ∨ (86 ≤ a ∧ a ≤ 88) ∨ (90 ≤ a ∧ a ≤ 100)) (f1 : ρ.1 82 1 = σ.1 82 1) (f10 : ρ.1 82 10 = σ.1 82 10) (f11 : ρ.1 82 11 = σ.1 82 11) (f43 : ρ.1 82 43 = σ.1 82 43) (h8 : ρ.1 8 0 = 1) (rk : Rk ρ) (rd : Rd ρ) (r : RA σ) : RA ρ ∧ Fo σ ρ := by
  obtain ⟨-, -, r3, r4, r5, r6, r7, r8⟩ := r
  have g : ∀ a, ¬ ((8 ≤ a ∧ a ≤ 21) ∨ (52 ≤ a ∧ a ≤ 65) ∨ a = 82 ∨ (86 ≤ a ∧ a ≤ 88) ∨ (90 ≤ a ∧ a ≤ 100)) → ρ.1 a = σ.1 a := fun a ha => h.1 a (fun q => ha (hL a q))
  refine ⟨⟨rd, rk, Rs_c (fun a ha => g a ?_) r3, Rt_c (fun a ha => g a ?_) (by rw [g 5 (by decide)]) (by rw [g 5 (by decide)]) f10 f11 r4, Ri_o (fun a ha => g a ?_) (fun _ => h8) (by rw [g 101 (by decide)]) (fun i hi => by rw [g 102 (by decide)]) (fun i hi => by rw [g 103 (by decide)]) r5, Ri_o (fun a ha => g a ?_) (fun _ => h8) (by rw [g 101 (by decide)]) (fun i hi => by rw [g 102 (by decide)]) (fun i hi => by rw [g 103 (by decide)]) r6, Rtr_c (fun a ha => g a ?_) (by rw [g 80 (by decide)]) f43 r7, ?_⟩, fun a h1 h2 => g a (by omega), h.2⟩
  all_goals first | omega | (simp only [List.mem_cons, List.not_mem_nil, or_false] at ha; omega) | skip
  unfold Rf
  rw [f1, g 0 (by decide)]
  exact r8
theorem t_restore (d : Nat) {σ : ax_S} (x : Int32) (r : RA σ) : PB d σ 177 279 [.int x] := by
  have rA := r
  obtain ⟨r1, r2, -, -, r5, r6, -⟩ := r
  have i1n : ∀ {y : Int32}, rgP 0 1 y → ¬ (1 : Int32) < y := fun q => by rw [i_lt, i_1]; have := q.2; omega
  by_cases h1 : rgP 0 1 x
  · obtain ⟨k, hk, ek⟩ := rgP_of (b := 1) (by omega) h1
    -- the model's refusal
    have refuse : ∀ a, σ.1 101 k = 0 → cL sO (d + 20) 177 [.ref 0, .int x] σ = some (a, σ) → a = -9000000000000000002 → PB d σ 177 279 [.int x] := fun a h hc ha => by
      refine AK.pb ⟨a, sI σ 82 0 0, hc, cL_ev mi_279 ((u_279_82 _ σ _).trans ?_) rfl, Sc_0 σ⟩ rA
      simp only [m_in, l_i, l_0, show (1 : Int64).toInt = 1 by decide, Option.bind_some, bi_0]
      rw [if_neg (fun q => q h1), ek, gd_t (nI_g (show k < 2 by omega) (by omega)), nI_c (by omega), sI_n _ _ (by decide), if_pos h, ha]
    have step : ∀ (τ : ax_S) (a b : Nat), 22 ≤ a → a ≤ 50 → 22 ≤ b → b ≤ 50 → Ri σ k a b → σ.1 a 0 = 1 → sm [8, 9, 10, 11, 12, 13, 14, 15, 16, 17, 18, 19, 20, 21] σ τ → τ.1 8 0 = σ.1 a 0 → kcb τ 8 = kcb σ a → τ.1 17 0 = σ.1 b 0 → (∀ j, j < 12 → τ.1 18 j = σ.1 (b + 1) j) → (∀ j, j < 12 → τ.1 19 j = σ.1 (b + 2) j) → (∀ j, j < 12 → τ.1 20 j = σ.1 (b + 3) j) → (∀ j, j < 132 → τ.1 21 j = σ.1 (b + 4) j) → cL sO (d + 20) 177 [.ref 0, .int x] σ = some (1, τ) → PB d σ 177 279 [.int x] := by
      intro τ a b _ _ _ _ ri ha t t8 tk t17 t18 t19 t20 t21 hc
      obtain ⟨-, q2, q3⟩ := ri
      obtain ⟨q4, ⟨m, p, q5⟩, n, q6⟩ := q3 ha
      obtain ⟨ρ, m1, m2, m3, m4⟩ := m_restore (d + 19) (σ := sI τ 82 0 0) (show k < 2 by omega)
      have g82 : ∀ j, j ≠ 0 → ρ.1 82 j = σ.1 82 j := fun j hj => by rw [m2.1 82 (by decide), sI_k _ hj, t.1 82 (by decide)]
      have g : ∀ x, 8 ≤ x → x ≤ 21 → ρ.1 x = τ.1 x := fun x h1 h2 => by
        rw [m2.1 x (fun q => by simp only [List.mem_cons, List.not_mem_nil, or_false] at q; omega), sI_n _ _ (by omega)]
      have h8 : ρ.1 8 0 = 1 := by rw [g 8 (by decide) (by decide), t8, ha]
      have all : sm ([8, 9, 10, 11, 12, 13, 14, 15, 16, 17, 18, 19, 20, 21, 82, 86, 88] : List Nat) σ ρ := ((t.up (by decide)).set _ _ (by decide)).tr (m2.up (by decide))
      have rk : Rk ρ := by
        refine ⟨Or.inr h8, by rw [g82 7 (by decide), h8, rA.2.1.2.1, q4], m, p, ?_⟩
        rw [kcb_c (σ := τ) (ρ := ρ) (a := 8) (fun x h1 h2 => g x (by omega) (by omega)), tk]
        exact RK_g q5 (fun _ _ => rfl) (fun i hi => by rw [m3 i hi, sI_n _ _ (by decide), t.1 102 (by decide)])
      have rd : Rd ρ := by
        refine ⟨n, ?_⟩
        rw [g 17 (by decide) (by decide), g 18 (by decide) (by decide), g 19 (by decide) (by decide), g 20 (by decide) (by decide), g 21 (by decide) (by decide), t17]
        exact RD_g q6 t18 t19 t20 t21 (fun i hi => by rw [m4 i hi, sI_n _ _ (by decide), t.1 103 (by decide)])
      obtain ⟨a1, a2⟩ := RA_re all (fun a ha => by simp only [List.mem_cons, List.not_mem_nil, or_false] at ha; omega) (g82 1 (by decide)) (g82 10 (by decide)) (g82 11 (by decide)) (g82 43 (by decide)) h8 rk rd rA
      refine ⟨1, τ, ρ, hc, cL_ev mi_279 ((u_279_82 _ τ _).trans ?_) rfl, a1, a2⟩
      simp only [m_in, l_i, l_0, show (1 : Int64).toInt = 1 by decide, Option.bind_some, bi_0]
      rw [if_neg (fun q => q h1), ek, gd_t (nI_g (show k < 2 by omega) (by omega)), nI_c (by omega), sI_n _ _ (by decide), t.1 101 (by decide), q2, ha, if_neg (by decide), m1]
    have hk2 : k = 0 ∨ k = 1 := by omega
    obtain q | q := hk2
    · subst q
      have ri : Ri σ 0 23 32 := r5
      have x0 : x = 0 := ek
      obtain h | h := ri.1
      · refine refuse (-9000000000000000002) (by rw [ri.2.1]; exact h) (cL_ev mi_177 ((u_177_0 _ σ _).trans ?_) rfl) rfl
        rw [if_neg (rg01 h1), if_neg (i1n h1), if_pos x0, s_isThere2 _ ri.1, Option.bind_some]
        (try simp only)
        rw [if_pos h]
      · obtain ⟨τ, a1, a2, a3, a4, a5, a6, a7, a8, a9⟩ := s_hbe_7_22 (d + 18) ri.1
        refine step τ 23 32 (by decide) (by decide) (by decide) (by decide) ri h (a2.up (by decide)) a3 a4 a5 a6 a7 a8 a9 (cL_ev mi_177 ((u_177_0 _ σ _).trans ?_) rfl)
        rw [if_neg (rg01 h1), if_neg (i1n h1), if_pos x0, s_isThere2 _ ri.1, Option.bind_some]
        (try simp only)
        rw [h, if_neg (by decide), if_pos x0, a1, Option.bind_some]
    · subst q
      have ri : Ri σ 1 38 47 := r6
      have x0 : ¬ x = 0 := by
        rw [ek]
        decide
      obtain h | h := ri.1
      · refine refuse (-9000000000000000002) (by rw [ri.2.1]; exact h) (cL_ev mi_177 ((u_177_0 _ σ _).trans ?_) rfl) rfl
        rw [if_neg (rg01 h1), if_neg (i1n h1), if_neg x0, s_isThere3 _ ri.1, Option.bind_some]
        (try simp only)
        rw [if_pos h]
      · obtain ⟨τ, a1, a2, a3, a4, a5, a6, a7, a8, a9⟩ := s_hbe_7_37 (d + 18) ri.1
        refine step τ 38 47 (by decide) (by decide) (by decide) (by decide) ri h (a2.up (by decide)) a3 a4 a5 a6 a7 a8 a9 (cL_ev mi_177 ((u_177_0 _ σ _).trans ?_) rfl)
        rw [if_neg (rg01 h1), if_neg (i1n h1), if_neg x0, s_isThere3 _ ri.1, Option.bind_some]
        (try simp only)
        rw [h, if_neg (by decide), if_neg x0, a1, Option.bind_some]
  · refine AK.pb ⟨BADv, sI σ 82 0 0, cL_ev mi_177 ((u_177_0 _ σ _).trans ?_) rfl, cL_ev mi_279 ((u_279_82 _ σ _).trans ?_) rfl, Sc_0 σ⟩ rA
    · split
      · rfl
      · rename_i q3
        rw [if_pos]
        rw [i_lt, i_0] at q3
        rw [i_lt, i_1]
        apply Int.lt_of_not_ge
        exact fun z => h1 ⟨by omega, z⟩
    · simp only [m_in, l_i, l_0, show (1 : Int64).toInt = 1 by decide, Option.bind_some, bi_0]
      rw [if_pos h1]
