/-! THE PUBLIC METHODS, 37: a kitchen's text -/
theorem RA_kt {σ ρ : ax_S} {L : List Nat} (h : sm L σ ρ) (hL : ∀ a, a ∈ L → a = 5 ∨ (8 ≤ a ∧ a ≤ 21) ∨ (52 ≤ a ∧ a ≤ 65) ∨ a = 82 ∨ (86 ≤ a ∧ a ≤ 88) ∨ (90 ≤ a ∧ a ≤ 100)) (f1 : ρ.1 82 1 = σ.1 82 1) (f43 : ρ.1 82 43 = σ.1 82 43) (h8 : σ.1 8 0 = 1 → ρ.1 8 0 = 1) (rk : Rk ρ) (rd : Rd ρ) (rt : Rt ρ) (r : RA σ) : RA ρ ∧ Fo σ ρ := by
  obtain ⟨-, -, r3, -, r5, r6, r7, r8⟩ := r
  have g : ∀ a, ¬ (a = 5 ∨ (8 ≤ a ∧ a ≤ 21) ∨ (52 ≤ a ∧ a ≤ 65) ∨ a = 82 ∨ (86 ≤ a ∧ a ≤ 88) ∨ (90 ≤ a ∧ a ≤ 100)) → ρ.1 a = σ.1 a := fun a ha => h.1 a (fun q => ha (hL a q))
  refine ⟨⟨rd, rk, Rs_c (fun a ha => g a ?_) r3, rt, Ri_o (fun a ha => g a ?_) h8 (by rw [g 101 (by decide)]) (fun i hi => by rw [g 102 (by decide)]) (fun i hi => by rw [g 103 (by decide)]) r5, Ri_o (fun a ha => g a ?_) h8 (by rw [g 101 (by decide)]) (fun i hi => by rw [g 102 (by decide)]) (fun i hi => by rw [g 103 (by decide)]) r6, Rtr_c (fun a ha => g a ?_) (by rw [g 80 (by decide)]) f43 r7, ?_⟩, fun a h1 h2 => g a (by omega), h.2⟩
  all_goals first | omega | (simp only [List.mem_cons, List.not_mem_nil, or_false] at ha; omega) | skip
  unfold Rf
  rw [f1, g 0 (by decide)]
  exact r8
/-- both begin to read -/
theorem s_tbegin (d : Nat) {σ : ax_S} {b : Nat → Int32} {n : Nat} (h : cBy σ b n) : ∃ τ, cV sO (d + 2) 32 [.ref 5] σ = some τ ∧ sm [5] σ τ ∧ CSt τ b n (σ.1 5 2) (0, 0, nxt b n 0) := by
  obtain ⟨h0, h1, h2⟩ := h
  obtain ⟨τ, e1, e2, e3, e4, e5, e6⟩ := s_step d (σ := sI (sI σ 5 4 0) 5 7 0) (b := b) (n := n) (e := 0) ⟨h0, by rw [sI_k _ (by decide), sI_k _ (by decide)]; exact h1, fun i hi => by rw [sI_n _ _ (by decide), sI_n _ _ (by decide)]; exact h2 i hi⟩ (Nat.zero_le _) (sI_1 _ _ _ _)
  refine ⟨τ, cV_ev mi_32 ((u_32_5 d σ).trans (by rw [e1, Option.bind_some])) rfl, (((sm.rf _ _).set _ _ (by decide)).set _ _ (by decide)).tr e2, ⟨h0, ?_, fun i hi => ?_⟩, nxt_o b (Nat.zero_le _), e4, e5, e6, ?_, fun _ => ?_, fun q => absurd rfl q⟩
  · rw [e3 1 (by decide), sI_k _ (by decide), sI_k _ (by decide)]; exact h1
  · rw [e2.1 6 (by decide), sI_n _ _ (by decide), sI_n _ _ (by decide)]; exact h2 i hi
  · rw [e3 4 (by decide), sI_k _ (by decide), sI_1]; rfl
  · rw [e3 2 (by decide), sI_k _ (by decide), sI_k _ (by decide)]
theorem m_begins (d : Nat) {σ : ax_S} {b : Nat → Int32} {n : Nat} (h0 : n ≤ 500) (h1 : σ.1 82 10 = nI n) (h2 : ∀ i, i < n → σ.1 89 i = b i ∧ 0 ≤ (b i).toInt ∧ (b i).toInt ≤ 255) : ∃ τ, cV sO (d + 2) 205 [.ref 82] σ = some τ ∧ sm [82] σ τ ∧ (∀ f, nq f → f ≠ 10 → f ≠ 12 → τ.1 82 f = σ.1 82 f) ∧ τ.1 82 10 = 0 ∧ MSt τ b n (0, 0, nxt b n 0) := by
  have g : ∀ f, f ≠ 12 → f ≠ 10 → f ≠ 13 → f ≠ 17 → (sI (sI (sI (sI σ 82 12 (σ.1 82 10)) 82 10 0) 82 13 0) 82 17 0).1 82 f = σ.1 82 f := fun f a1 a2 a3 a4 => by rw [sI_k _ a4, sI_k _ a3, sI_k _ a2, sI_k _ a1]
  have g12 : (sI (sI (sI (sI σ 82 12 (σ.1 82 10)) 82 10 0) 82 13 0) 82 17 0).1 82 12 = nI n := by rw [sI_k _ (by decide), sI_k _ (by decide), sI_k _ (by decide), sI_1]; exact h1
  have g10 : (sI (sI (sI (sI σ 82 12 (σ.1 82 10)) 82 10 0) 82 13 0) 82 17 0).1 82 10 = 0 := by rw [sI_k _ (by decide), sI_k _ (by decide), sI_1]
  have g13 : (sI (sI (sI (sI σ 82 12 (σ.1 82 10)) 82 10 0) 82 13 0) 82 17 0).1 82 13 = nI 0 := by rw [sI_k _ (by decide), sI_1]; rfl
  have g17 : (sI (sI (sI (sI σ 82 12 (σ.1 82 10)) 82 10 0) 82 13 0) 82 17 0).1 82 17 = nI 0 := by rw [sI_1]; rfl
  have gs : sm [82] σ (sI (sI (sI (sI σ 82 12 (σ.1 82 10)) 82 10 0) 82 13 0) 82 17 0) := ((((sm.rf _ _).set _ _ (by decide)).set _ _ (by decide)).set _ _ (by decide)).set _ _ (by decide)
  have gu := u_205_82 d σ
  generalize sI (sI (sI (sI σ 82 12 (σ.1 82 10)) 82 10 0) 82 13 0) 82 17 0 = θ at g g12 g10 g13 g17 gs gu
  obtain ⟨τ, e1, e2, e3, e4, e5, e6, e7⟩ := m_next d (σ := θ) (b := b) (n := n) (e := 0) ⟨h0, g12, fun i hi => by rw [gs.1 89 (by decide)]; exact h2 i hi⟩ (Nat.zero_le _) g13
  refine ⟨τ, cV_ev mi_205 (gu.trans (by rw [e1, Option.bind_some])) rfl, gs.tr e2, fun f hf f10 f12 => ?_, ?_, ⟨h0, ?_, fun i hi => ?_⟩, nxt_o b (Nat.zero_le _), e4, e5, e6, e7, ?_, by simp only; omega, fun q => absurd rfl q⟩
  · rw [e3 f (by unfold nk; omega)]; exact g f f12 f10 (by omega) (by omega)
  · rw [e3 10 (by decide)]; exact g10
  · rw [e3 12 (by decide)]; exact g12
  · rw [e2.1 89 (by decide), gs.1 89 (by decide)]; exact h2 i hi
  · rw [e3 17 (by decide)]; exact g17
/-- the measures and the packets of a text -/
theorem kit_parse (b : Nat → Int32) (n : Nat) {T0 : TK} (t0 : T0.1 = 0) : ∃ m p K T2, m ≤ 16 ∧ p ≤ 8 ∧ (T2.1 = 0 → gdM K m ∧ pkI K p) ∧ (∀ d L (σ : ax_S), CSt σ b n L T0 → σ.1 52 1 = 0 → σ.1 52 6 = 0 → ∃ τ, ev sO (d + 7) 31 16 [.ref 52, .ref 5, .int 0] [] σ = kTl d τ ∧ sm [5, 52, 53, 54, 55, 56, 57, 58, 59] σ τ ∧ CSt τ b n L T2 ∧ (T2.1 = 0 → τ.1 52 1 = nI m ∧ τ.1 52 6 = nI p ∧ rwC τ K m ∧ pwC τ K p)) ∧ ∀ d w1 w2 w3 (σ : ax_S), c1 w1 → c1 w2 → c1 w3 → MSt σ b n T0 → σ.1 87 0 = 0 → σ.1 87 1 = 0 → ∃ ρ, ev sO (d + 5) 204 30 [.ref 82, w1, w2, w3] [] σ = mTl d w2 w3 ρ ∧ sm [82, 87] σ ρ ∧ (∀ f, nq f → ρ.1 82 f = σ.1 82 f) ∧ MSt ρ b n T2 ∧ (T2.1 = 0 → ρ.1 87 0 = nI m ∧ ρ.1 87 1 = nI p ∧ rwM ρ K m ∧ pwM ρ K p) := by
  obtain ⟨m, T1, K, hm, hg, hC, hM⟩ := loopM b n 17 0 T0 (fun _ => 0) rfl (by omega) t0 (fun k hk => absurd hk (Nat.not_lt_zero k))
  by_cases t1 : T1.1 = 0
  · obtain ⟨p, T2, K2, hp, hg2, hK2, pC, pM'⟩ := loopPk b n 9 0 T1 K rfl (by omega) t1 (fun k hk => absurd hk (Nat.not_lt_zero k))
    have kk : ∀ k, k < m → ∀ r, r < 4 → K2 (2 + 4 * k + r) = K (2 + 4 * k + r) := fun k hk r hr => hK2 _ (by omega)
    refine ⟨m, p, K2, T2, hm, hp, fun t => ⟨fun k hk => ?_, hg2 t⟩, fun d L σ h h1 h6 => ?_, fun d w1 w2 w3 σ c1' c2 c3 h h0 h1 => ?_⟩
    · rw [kk k hk 2 (by omega), kk k hk 3 (by omega)]
      exact hg t1 k hk
    · obtain ⟨τ, e1, e2, e3, e4, e5⟩ := hC d L σ h h1 (fun k hk => absurd hk (Nat.not_lt_zero k))
      obtain ⟨e6, e7⟩ := e5 t1
      obtain ⟨ρ, f1, f2, f3, f4, f5⟩ := pC d L τ e4 ((e3 6 (by decide)).trans h6) (fun k hk => absurd hk (Nat.not_lt_zero k))
      refine ⟨ρ, e1.trans f1, (e2.up (by decide)).tr (f2.up (by decide)), f4, fun t => ?_⟩
      obtain ⟨f6, f7⟩ := f5 t
      refine ⟨(f3 1 (by decide)).trans e6, f6, fun k hk r hr => ?_, f7⟩
      rw [kk k hk r hr, f2.1 (53 + r) (fun q => by simp only [List.mem_cons, List.not_mem_nil, or_false] at q; omega)]
      exact e7 k hk r hr
    · obtain ⟨τ, e1, e2, e3, e4, e5⟩ := hM d w1 w2 w3 σ c1' c2 c3 h h0 (fun k hk => absurd hk (Nat.not_lt_zero k))
      obtain ⟨e6, e7, e8⟩ := e5 t1
      obtain ⟨ρ, f1, f2, f3, f4, f5⟩ := pM' d w1 w2 w3 τ c1' c2 c3 e4 (e8.trans h1) (fun k hk => absurd hk (Nat.not_lt_zero k))
      refine ⟨ρ, e1.trans f1, e2.tr f2, fun f hf => (f3 f hf).trans (e3 f hf), f4, fun t => ?_⟩
      obtain ⟨f6, f7, f8⟩ := f5 t
      refine ⟨(f8 0 (by decide) (by decide)).trans e6, f6, fun k hk r hr => ?_, f7⟩
      rw [kk k hk r hr, f8 _ (by omega) (by omega)]
      exact e7 k hk r hr
  · refine ⟨0, 0, K, T1, by omega, by omega, fun t => absurd t t1, fun d L σ h h1 h6 => ?_, fun d w1 w2 w3 σ c1' c2 c3 h h0 h1 => ?_⟩
    · obtain ⟨τ, e1, e2, e3, e4, e5⟩ := hC d L σ h h1 (fun k hk => absurd hk (Nat.not_lt_zero k))
      obtain ⟨ρ, f1, f2, f3, f4⟩ := cp_fail d t1 9 0 0 τ rfl e4 ((e3 6 (by decide)).trans h6) (by omega)
      exact ⟨ρ, e1.trans f1, (e2.up (by decide)).tr (f2.up (by decide)), f4, fun t => absurd t t1⟩
    · obtain ⟨τ, e1, e2, e3, e4, e5⟩ := hM d w1 w2 w3 σ c1' c2 c3 h h0 (fun k hk => absurd hk (Nat.not_lt_zero k))
      exact ⟨τ, e1.trans (m_pexit d w1 w2 w3 c1' c2 c3 e4 (fun z => t1 z.1)), e2, e3, e4, fun t => absurd t t1⟩
