/-! THE PUBLIC METHODS, 21: images -/
theorem RK_g {K K' N N' : Nat → Int32} {m p : Nat} (h : RK K N m p) (hK : ∀ i, i < 102 → K' i = K i) (hN : ∀ i, i < 102 → N' i = N i) : RK K' N' m p := by
  obtain ⟨a1, a2, a3, a4, a5, a6, a7, a8, a9, a10, a11⟩ := h
  refine ⟨a1, a2, (hK 0 (by omega)).trans a3, (hN 0 (by omega)).trans a4, (hK 1 (by omega)).trans a5, (hN 1 (by omega)).trans a6, fun i hi => ?_, fun i hi => ?_, fun i h1 h2 => ?_, fun k hk => ?_, fun k hk => ?_⟩
  · rw [hK _ (by omega), hN _ (by omega)]
    exact a7 i hi
  · rw [hK _ (by omega), hN _ (by omega)]
    exact a8 i hi
  · rw [hK _ (by omega), hN _ (by omega)]
    exact a9 i h1 h2
  · rw [hN (2 + 4 * k + 2) (by omega), hN (2 + 4 * k + 3) (by omega)]
    exact a10 k hk
  · rw [hN (66 + 3 * k) (by omega), hN (66 + 3 * k + 1) (by omega), hN (66 + 3 * k + 2) (by omega)]
    exact a11 k hk
theorem RD_g {sz : Int32} {la ye mt mk N la' ye' mt' mk' N' : Nat → Int32} {n : Nat} (h : RD sz la ye mt mk N n) (h1 : ∀ j, j < 12 → la' j = la j) (h2 : ∀ j, j < 12 → ye' j = ye j) (h3 : ∀ j, j < 12 → mt' j = mt j) (h4 : ∀ i, i < 132 → mk' i = mk i) (h5 : ∀ i, i < 181 → N' i = N i) : RD sz la' ye' mt' mk' N' n := by
  obtain ⟨a1, a2, a3, a4⟩ := h
  refine ⟨a1, a2, (h5 0 (by omega)).trans a3, fun j hj => ?_⟩
  obtain ⟨c1, c2, c3, c4, c5, c6, c7⟩ := a4 j hj
  rw [h1 j (by omega), h2 j (by omega), h3 j (by omega), h5 (15 * j + 1) (by omega), h5 (15 * j + 2) (by omega), h5 (15 * j + 3) (by omega), h5 (15 * j + 4) (by omega)]
  refine ⟨c1, c2, c3, c4, fun k hk => ?_, c6, c7⟩
  rw [h4 (j * 11 + k) (by omega), h5 (15 * j + 5 + k) (by omega)]
  exact c5 k hk
theorem Ri_o {σ ρ : ax_S} {k a b : Nat} (h : ∀ x, (a ≤ x ∧ x ≤ a + 8) ∨ (b ≤ x ∧ x ≤ b + 4) → ρ.1 x = σ.1 x) (h8 : σ.1 8 0 = 1 → ρ.1 8 0 = 1) (h1 : ρ.1 101 k = σ.1 101 k) (h2 : ∀ i, i < 102 → ρ.1 102 (102 * k + i) = σ.1 102 (102 * k + i)) (h3 : ∀ i, i < 181 → ρ.1 103 (181 * k + i) = σ.1 103 (181 * k + i)) (r : Ri σ k a b) : Ri ρ k a b := by
  obtain ⟨q1, q2, q3⟩ := r
  have ea := h a (Or.inl ⟨Nat.le_refl _, by omega⟩)
  refine ⟨by rw [ea]; exact q1, by rw [h1, ea]; exact q2, fun q => ?_⟩
  rw [ea] at q
  obtain ⟨q4, ⟨m, p, q5⟩, n, q6⟩ := q3 q
  refine ⟨h8 q4, ⟨m, p, ?_⟩, n, ?_⟩
  · rw [kcb_c (σ := σ) (ρ := ρ) (a := a) (fun x h1 h2 => h x (Or.inl ⟨h1, h2⟩))]
    exact RK_g q5 (fun _ _ => rfl) h2
  · rw [h b (Or.inr (by omega)), h (b + 1) (Or.inr (by omega)), h (b + 2) (Or.inr (by omega)), h (b + 3) (Or.inr (by omega)), h (b + 4) (Or.inr (by omega))]
    exact RD_g q6 (fun _ _ => rfl) (fun _ _ => rfl) (fun _ _ => rfl) (fun _ _ => rfl) h3
theorem Ri_n {σ ρ : ax_S} {k a b : Nat} (rk : Rk σ) (rd : Rd σ) (a0 : ρ.1 a 0 = 1) (h8 : ρ.1 8 0 = 1) (h1 : ρ.1 101 k = 1) (hk : kcb ρ a = kcb σ 8) (h2 : ∀ i, i < 102 → ρ.1 102 (102 * k + i) = σ.1 86 i) (b0 : ρ.1 b 0 = σ.1 17 0) (b1 : ∀ j, j < 12 → ρ.1 (b + 1) j = σ.1 18 j) (b2 : ∀ j, j < 12 → ρ.1 (b + 2) j = σ.1 19 j) (b3 : ∀ j, j < 12 → ρ.1 (b + 3) j = σ.1 20 j) (b4 : ∀ j, j < 132 → ρ.1 (b + 4) j = σ.1 21 j) (h3 : ∀ i, i < 181 → ρ.1 103 (181 * k + i) = σ.1 88 i) : Ri ρ k a b := by
  obtain ⟨-, -, m, p, q⟩ := rk
  obtain ⟨n, q2⟩ := rd
  refine ⟨Or.inr a0, by rw [h1, a0], fun _ => ⟨h8, ⟨m, p, ?_⟩, n, ?_⟩⟩
  · rw [hk]
    exact RK_g q (fun _ _ => rfl) h2
  · rw [b0]
    exact RD_g q2 b1 b2 b3 b4 h3
/-- a row is copied, i at a time -/
theorem m_image (d : Nat) {σ : ax_S} {x : Nat} (hx : x < 2) : ∃ ρ, ev sO (d + 1) 278 32 [.ref 82, .int (nI x), .int 0] [] σ = some (some (.long 1), ρ) ∧ sm [101, 102, 103] σ ρ ∧ (∀ i, i < 102 → ρ.1 102 (102 * x + i) = σ.1 86 i) ∧ (∀ y i, y < 2 → y ≠ x → i < 102 → ρ.1 102 (102 * y + i) = σ.1 102 (102 * y + i)) ∧ (∀ i, i < 181 → ρ.1 103 (181 * x + i) = σ.1 88 i) ∧ (∀ y i, y < 2 → y ≠ x → i < 181 → ρ.1 103 (181 * y + i) = σ.1 103 (181 * y + i)) ∧ ρ.1 101 x = 1 ∧ ∀ y, y ≠ x → ρ.1 101 y = σ.1 101 y := by
  obtain ⟨τ, ⟨p1, p2, p3⟩, e1⟩ := loop_P (E := fun k (τ : ax_S) => ev sO (d + 1) 278 32 [.ref 82, .int (nI x), .int (nI k)] [] τ) (N := 102) (P := fun k τ => sm [102] σ τ ∧ (∀ i, i < k → τ.1 102 (102 * x + i) = σ.1 86 i) ∧ ∀ j, (∀ i, i < 102 → j ≠ 102 * x + i) → τ.1 102 j = σ.1 102 j) (fun k τ hk hp => by
    obtain ⟨p1, p2, p3⟩ := hp
    have e0 : (102 : Int32) * nI x + nI k = nI (102 * x + k) := by rw [show (102 : Int32) = nI 102 from rfl, nI_mul (by omega) (by omega) (by omega), nI_pl (by omega)]
    refine ⟨sI τ 102 (102 * x + k) (σ.1 86 k), ⟨p1.set _ _ (by decide), fun i hi => ?_, fun j hj => ?_⟩, ?_⟩
    · by_cases q : i = k
      · rw [q, sI_1]
      · rw [sI_k _ (by omega)]
        exact p2 i (by omega)
    · rw [sI_k _ (hj k hk)]
      exact p3 j hj
    · (try simp only)
      rw [u_278_82p32, if_pos (show nI k < (102 : Int32) from nlt (N := 102) hk), gd_t (nI_g hk (by omega)), e0, gd_t (nI_g (show 102 * x + k < 204 by omega) (by omega)), nI_add1, nI_c (by omega), nI_c (by omega), p1.1 86 (by decide)]) σ ⟨sm.rf _ _, fun i hi => absurd hi (Nat.not_lt_zero i), fun _ _ => rfl⟩
  obtain ⟨ρ, ⟨q1, q2, q3⟩, e2⟩ := loop_P (E := fun k (ρ : ax_S) => ev sO (d + 1) 278 63 [.ref 82, .int (nI x), .int (nI k)] [] ρ) (N := 181) (P := fun k ρ => sm [103] τ ρ ∧ (∀ i, i < k → ρ.1 103 (181 * x + i) = τ.1 88 i) ∧ ∀ j, (∀ i, i < 181 → j ≠ 181 * x + i) → ρ.1 103 j = τ.1 103 j) (fun k ρ hk hp => by
    obtain ⟨q1, q2, q3⟩ := hp
    have e0 : (181 : Int32) * nI x + nI k = nI (181 * x + k) := by rw [show (181 : Int32) = nI 181 from rfl, nI_mul (by omega) (by omega) (by omega), nI_pl (by omega)]
    refine ⟨sI ρ 103 (181 * x + k) (τ.1 88 k), ⟨q1.set _ _ (by decide), fun i hi => ?_, fun j hj => ?_⟩, ?_⟩
    · by_cases q : i = k
      · rw [q, sI_1]
      · rw [sI_k _ (by omega)]
        exact q2 i (by omega)
    · rw [sI_k _ (hj k hk)]
      exact q3 j hj
    · (try simp only)
      rw [u_278_82p63, if_pos (show nI k < (181 : Int32) from nlt (N := 181) hk), gd_t (nI_g hk (by omega)), e0, gd_t (nI_g (show 181 * x + k < 362 by omega) (by omega)), nI_add1, nI_c (by omega), nI_c (by omega), q1.1 88 (by decide)]) τ ⟨sm.rf _ _, fun i hi => absurd hi (Nat.not_lt_zero i), fun _ _ => rfl⟩
  refine ⟨sI ρ 101 x 1, ?_, ((p1.up (by decide)).tr (q1.up (by decide))).set _ _ (by decide), fun i hi => ?_, fun y i hy hyx hi => ?_, fun i hi => ?_, fun y i hy hyx hi => ?_, sI_1 _ _ _ _, fun y hy => ?_⟩
  · refine Eq.trans e1 ?_
    rw [u_278_82p32, if_neg (show ¬ nI 102 < (102 : Int32) from nnl (N := 102) (Nat.le_refl _))]
    refine Eq.trans e2 ?_
    rw [u_278_82p63, if_neg (show ¬ nI 181 < (181 : Int32) from nnl (N := 181) (Nat.le_refl _)), gd_t (nI_g hx (by omega)), nI_c (by omega)]
  · rw [sI_n _ _ (by decide), q1.1 102 (by decide)]
    exact p2 i hi
  · rw [sI_n _ _ (by decide), q1.1 102 (by decide)]
    exact p3 _ (fun i' hi' => by omega)
  · rw [sI_n _ _ (by decide), q2 i hi, p1.1 88 (by decide)]
  · rw [sI_n _ _ (by decide), q3 _ (fun i' hi' => by omega), p1.1 103 (by decide)]
  · rw [sI_k _ hy, q1.1 101 (by decide), p1.1 101 (by decide)]
/-- what an image leaves: all else -/
theorem RA_im {σ ρ : ax_S} {L : List Nat} (h : sm L σ ρ) (hL : ∀ a, a ∈ L → (23 ≤ a ∧ a ≤ 51) ∨ a = 82 ∨ 101 ≤ a ∧ a ≤ 103) (f1 : ρ.1 82 1 = σ.1 82 1) (f7 : ρ.1 82 7 = σ.1 82 7) (f10 : ρ.1 82 10 = σ.1 82 10) (f11 : ρ.1 82 11 = σ.1 82 11) (f43 : ρ.1 82 43 = σ.1 82 43) (i0 : Ri ρ 0 23 32) (i1 : Ri ρ 1 38 47) (r : RA σ) : RA ρ ∧ Fo σ ρ := by
  obtain ⟨r1, r2, r3, r4, -, -, r7, r8⟩ := r
  have g : ∀ a, ¬ ((23 ≤ a ∧ a ≤ 51) ∨ a = 82 ∨ 101 ≤ a ∧ a ≤ 103) → ρ.1 a = σ.1 a := fun a ha => h.1 a (fun q => ha (hL a q))
  refine ⟨⟨Rd_c (fun a ha => g a ?_) r1, Rk_c (fun a ha => g a ?_) f7 r2, Rs_c (fun a ha => g a ?_) r3, Rt_c (fun a ha => g a ?_) (by rw [g 5 (by decide)]) (by rw [g 5 (by decide)]) f10 f11 r4, i0, i1, Rtr_c (fun a ha => g a ?_) (by rw [g 80 (by decide)]) f43 r7, ?_⟩, fun a h1 h2 => g a (by omega), h.2⟩
  all_goals first | (simp only [List.mem_cons, List.not_mem_nil, or_false] at ha ⊢; omega) | skip
  unfold Rf
  rw [f1, g 0 (by decide)]
  exact r8
theorem t_image (d : Nat) {σ : ax_S} (x : Int32) (r : RA σ) : PB d σ 173 278 [.int x] := by
  have rA := r
  obtain ⟨r1, r2, -, -, r5, r6, -⟩ := r
  have i1n : ∀ {y : Int32}, rgP 0 1 y → ¬ (1 : Int32) < y := fun q => by rw [i_lt, i_1]; have := q.2; omega
  by_cases hb : rgP 0 1 x ∧ σ.1 8 0 = 1
  · obtain ⟨h1, h8⟩ := hb
    obtain ⟨k, hk, ek⟩ := rgP_of (b := 1) (by omega) h1
    have step : ∀ τ : ax_S, (∀ a, ¬ (23 ≤ a ∧ a ≤ 51) → τ.1 a = σ.1 a) → τ.2 = σ.2 → cL sO (d + 20) 173 [.ref 0, .int x] σ = some (1, τ) → (∀ ρ : ax_S, (∀ a, ¬ (a = 82 ∨ 101 ≤ a ∧ a ≤ 103) → ρ.1 a = τ.1 a) → (∀ i, i < 102 → ρ.1 102 (102 * k + i) = σ.1 86 i) → (∀ y i, y < 2 → y ≠ k → i < 102 → ρ.1 102 (102 * y + i) = σ.1 102 (102 * y + i)) → (∀ i, i < 181 → ρ.1 103 (181 * k + i) = σ.1 88 i) → (∀ y i, y < 2 → y ≠ k → i < 181 → ρ.1 103 (181 * y + i) = σ.1 103 (181 * y + i)) → ρ.1 101 k = 1 → (∀ y, y ≠ k → ρ.1 101 y = σ.1 101 y) → Ri ρ 0 23 32 ∧ Ri ρ 1 38 47) → PB d σ 173 278 [.int x] := by
      intro τ t1 t2 hc hR
      obtain ⟨ρ, m1, m2, m3, m4, m5, m6, m7, m8⟩ := m_image (d + 19) (σ := sI τ 82 0 0) (show k < 2 by omega)
      have g : ∀ a, a ≠ 82 → ¬ (23 ≤ a ∧ a ≤ 51) → (sI τ 82 0 0).1 a = σ.1 a := fun a h1 h2 => by rw [sI_n _ _ h1, t1 a h2]
      have g82 : ∀ j, j ≠ 0 → ρ.1 82 j = σ.1 82 j := fun j hj => by rw [m2.1 82 (by decide), sI_k _ hj, t1 82 (by decide)]
      obtain ⟨i0, i1⟩ := hR ρ (fun a ha => by rw [m2.1 a (fun q => by simp only [List.mem_cons, List.not_mem_nil, or_false] at q; omega), sI_n _ _ (by omega)]) (fun i hi => by rw [m3 i hi, g 86 (by decide) (by decide)]) (fun y i a b c => by rw [m4 y i a b c, g 102 (by decide) (by decide)]) (fun i hi => by rw [m5 i hi, g 88 (by decide) (by decide)]) (fun y i a b c => by rw [m6 y i a b c, g 103 (by decide) (by decide)]) m7 (fun y hy => by rw [m8 y hy, g 101 (by decide) (by decide)])
      have all : sm ([23, 24, 25, 26, 27, 28, 29, 30, 31, 32, 33, 34, 35, 36, 37, 38, 39, 40, 41, 42, 43, 44, 45, 46, 47, 48, 49, 50, 51, 82, 101, 102, 103] : List Nat) σ ρ := by
        refine ⟨fun a ha => ?_, by rw [m2.2, sI_2, t2]⟩
        simp only [List.mem_cons, List.not_mem_nil, or_false] at ha
        rw [m2.1 a (fun q => by simp only [List.mem_cons, List.not_mem_nil, or_false] at q; omega)]
        exact g a (by omega) (by omega)
      obtain ⟨a1, a2⟩ := RA_im all (fun a ha => by simp only [List.mem_cons, List.not_mem_nil, or_false] at ha; omega) (g82 1 (by decide)) (g82 7 (by decide)) (g82 10 (by decide)) (g82 11 (by decide)) (g82 43 (by decide)) i0 i1 rA
      refine ⟨1, τ, ρ, hc, cL_ev mi_278 ((u_278_82 _ τ _).trans ?_) rfl, a1, a2⟩
      simp only [m_in, l_i, l_0, show (1 : Int64).toInt = 1 by decide, Option.bind_some, bi_0]
      rw [if_neg (fun q => q h1), sI_k _ (by decide), t1 82 (by decide), r2.2.1, h8, if_neg (by decide), ek, m1]
    have hc0 : ∀ (τ : ax_S), ((if x = 0 then (cV sO (d + 19) 175 [.ref 22, .ref 7] σ).bind fun u1 => some (some (.long (1 : Int64)), u1) else (cV sO (d + 19) 175 [.ref 37, .ref 7] σ).bind fun u1 => some (some (.long (1 : Int64)), u1)) = some (some (Value.long 1), τ)) → cL sO (d + 20) 173 [.ref 0, .int x] σ = some (1, τ) := fun τ h => by
      refine cL_ev mi_173 ((u_173_0 _ σ _).trans ?_) rfl
      rw [if_neg (rg01 h1), if_neg (i1n h1), s_isThere _ r2.1, Option.bind_some]
      (try simp only)
      rw [h8, if_neg (by decide)]
      exact h
    have hk2 : k = 0 ∨ k = 1 := by omega
    obtain q | q := hk2
    · obtain ⟨τ, a1, a2, a3, a4, a5, a6, a7, a8, a9⟩ := s_hbe_22_7 (d + 18) r2.1
      have t1 : ∀ a, ¬ (23 ≤ a ∧ a ≤ 36) → τ.1 a = σ.1 a := fun a ha => a2.1 a (fun q => by simp only [List.mem_cons, List.not_mem_nil, or_false] at q; omega)
      refine step τ (fun a ha => t1 a (by omega)) a2.2 (hc0 τ ?_) (fun ρ b1 b2 b3 b4 b5 b6 b7 => ?_)
      · rw [ek, q, if_pos (show nI 0 = 0 from rfl), a1, Option.bind_some]
      · subst q
        constructor
        · refine Ri_n r2 r1 (by rw [b1 23 (by decide), a3]; exact h8) (by rw [b1 8 (by decide), t1 8 (by decide)]; exact h8) b6 ?_ b2 (by rw [b1 32 (by decide)]; exact a5) (fun j hj => by rw [b1 33 (by decide)]; exact a6 j hj) (fun j hj => by rw [b1 34 (by decide)]; exact a7 j hj) (fun j hj => by rw [b1 35 (by decide)]; exact a8 j hj) (fun j hj => by rw [b1 36 (by decide)]; exact a9 j hj) b4
          rw [kcb_c (σ := τ) (ρ := ρ) (a := 23) (fun x h1 h2 => b1 x (by omega))]
          exact a4
        · exact Ri_o (fun a ha => by rw [b1 a (by omega), t1 a (by omega)]) (fun _ => by rw [b1 8 (by decide), t1 8 (by decide)]; exact h8) (b7 1 (by decide)) (fun i hi => b3 1 i (by decide) (by decide) hi) (fun i hi => b5 1 i (by decide) (by decide) hi) r6
    · obtain ⟨τ, a1, a2, a3, a4, a5, a6, a7, a8, a9⟩ := s_hbe_37_7 (d + 18) r2.1
      have t1 : ∀ a, ¬ (38 ≤ a ∧ a ≤ 51) → τ.1 a = σ.1 a := fun a ha => a2.1 a (fun q => by simp only [List.mem_cons, List.not_mem_nil, or_false] at q; omega)
      refine step τ (fun a ha => t1 a (by omega)) a2.2 (hc0 τ ?_) (fun ρ b1 b2 b3 b4 b5 b6 b7 => ?_)
      · rw [ek, q, if_neg (show ¬ nI 1 = 0 by decide), a1, Option.bind_some]
      · subst q
        constructor
        · exact Ri_o (fun a ha => by rw [b1 a (by omega), t1 a (by omega)]) (fun _ => by rw [b1 8 (by decide), t1 8 (by decide)]; exact h8) (b7 0 (by decide)) (fun i hi => b3 0 i (by decide) (by decide) hi) (fun i hi => b5 0 i (by decide) (by decide) hi) r5
        · refine Ri_n r2 r1 (by rw [b1 38 (by decide), a3]; exact h8) (by rw [b1 8 (by decide), t1 8 (by decide)]; exact h8) b6 ?_ b2 (by rw [b1 47 (by decide)]; exact a5) (fun j hj => by rw [b1 48 (by decide)]; exact a6 j hj) (fun j hj => by rw [b1 49 (by decide)]; exact a7 j hj) (fun j hj => by rw [b1 50 (by decide)]; exact a8 j hj) (fun j hj => by rw [b1 51 (by decide)]; exact a9 j hj) b4
          rw [kcb_c (σ := τ) (ρ := ρ) (a := 38) (fun x h1 h2 => b1 x (by omega))]
          exact a4
  · refine AK.pb ⟨if rgP 0 1 x then -9000000000000000002 else BADv, sI σ 82 0 0, cL_ev mi_173 ((u_173_0 _ σ _).trans ?_) rfl, cL_ev mi_278 ((u_278_82 _ σ _).trans ?_) rfl, Sc_0 σ⟩ rA
    · by_cases q : rgP 0 1 x
      · have h8 : σ.1 8 0 = 0 := r2.1.elim id (fun z => absurd ⟨q, z⟩ hb)
        rw [if_neg (rg01 q), if_neg (i1n q), s_isThere _ r2.1, Option.bind_some, if_pos q]
        (try simp only)
        rw [if_pos h8]
      · rw [if_neg q]
        split
        · rfl
        · rename_i q3
          rw [if_pos]
          rw [i_lt, i_0] at q3
          rw [i_lt, i_1]
          apply Int.lt_of_not_ge
          exact fun z => q ⟨by omega, z⟩
    · simp only [m_in, l_i, l_0, show (1 : Int64).toInt = 1 by decide, Option.bind_some, bi_0]
      by_cases q : rgP 0 1 x
      · have h8 : σ.1 8 0 = 0 := r2.1.elim id (fun z => absurd ⟨q, z⟩ hb)
        rw [if_neg (fun z => z q), sI_k _ (by decide), r2.2.1, if_pos h8, if_pos q]
      · rw [if_pos q, if_neg q]
