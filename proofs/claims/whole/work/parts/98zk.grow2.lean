/-! TREES: the class grows, all of it -/
def prN : Nat → Nat → Nat
  | _, 0 => 1
  | k, r + 1 => (2 * k - 1) * prN (k + 1) r
theorem prN_1 : ∀ r k, 1 ≤ k → 1 ≤ prN k r
  | 0, _, _ => Nat.le_refl _
  | r + 1, k, h => by
    show 1 ≤ (2 * k - 1) * prN (k + 1) r
    exact Nat.mul_pos (by omega) (prN_1 r (k + 1) (by omega))
theorem prN_all {e : Nat} (h2 : 2 ≤ e) (h6 : e ≤ 6) : prN 2 (e - 2) = allN e := by
  have h : e = 2 ∨ e = 3 ∨ e = 4 ∨ e = 5 ∨ e = 6 := by omega
  obtain rfl | rfl | rfl | rfl | rfl := h <;> rfl
theorem s_gall (d : Nat) (w1 w2 : Value) (h1 : c1 w1) (h2 : c1 w2) {e : Nat} (he : e ≤ 6) : ∀ r k A (σ : ax_S), k + r = e → 2 ≤ k → σ.1 66 1 = nI e → σ.1 66 14 = nI A → A * prN k r < 2147483648 → ∃ τ : ax_S, ev sO (d + 3) 136 24 [.ref 66, w1, w2, .int (nI k)] [] σ = ev sO (d + 3) 136 24 [.ref 66, w1, w2, .int (nI e)] [] τ ∧ sm [66] σ τ ∧ (∀ f, f ≠ 14 → τ.1 66 f = σ.1 66 f) ∧ τ.1 66 14 = nI (A * prN k r)
  | 0, k, A, σ, hk, h2k, e1, e14, hA => by
    refine ⟨σ, by rw [show k = e by omega], sm.rf _ _, fun _ _ => rfl, ?_⟩
    rw [e14]
    show nI A = nI (A * 1)
    rw [Nat.mul_one]
  | r + 1, k, A, σ, hk, h2k, e1, e14, hA => by
    have hp := prN_1 r (k + 1) (by omega)
    have hA : A * ((2 * k - 1) * prN (k + 1) r) < 2147483648 := hA
    rw [← Nat.mul_assoc] at hA
    have hA2 : A * (2 * k - 1) < 2147483648 := Nat.lt_of_le_of_lt (Nat.le_mul_of_pos_right _ hp) hA
    have hA3 : A < 2147483648 := Nat.lt_of_le_of_lt (Nat.le_mul_of_pos_right _ (show 0 < 2 * k - 1 by omega)) hA2
    have hb : (2 : Int32) * nI k - 1 = nI (2 * k - 1) := by
      rw [show (2 : Int32) * nI k = nI (2 * k) from nI_mul (a := 2) (by omega) (by omega) (by omega)]
      exact nI_sub1 (X := 2 * k) (by omega) (by omega)
    obtain ⟨τ, g1, g2, g3, g4⟩ := s_gall d w1 w2 h1 h2 he r (k + 1) (A * (2 * k - 1)) (sI σ 66 14 (nI (A * (2 * k - 1)))) (by omega) (by omega) (by rw [sI_k _ (by decide)]; exact e1) (sI_1 _ _ _ _) hA
    refine ⟨τ, ?_, ((sm.rf _ _).set _ _ (by decide)).tr g2, fun f hf => by rw [g3 f hf, sI_k _ hf], ?_⟩
    · rw [u_136_66_17p24 d σ w1 h1 w2 h2 (nI k), e1, if_pos (nlt (show k < e by omega)), e14, hb, nI_mul hA2 hA3 (by omega), nI_add1]
      exact g1
    · rw [g4]
      show _ = nI (A * ((2 * k - 1) * prN (k + 1) r))
      rw [Nat.mul_assoc]
def cdE (σ : ax_S) (e m j : Nat) : Int32 := if m < 11 ∧ j < e then σ.1 72 (m * 11 + leafN j) else 0
theorem cdE_eq {σ : ax_S} {e : Nat} {cd : Nat → Nat → Int32} (h : ∀ j, j < e → ∀ m, m < 11 → σ.1 72 (m * 11 + leafN j) = cd m j) (h0 : ∀ m j, ¬ (m < 11 ∧ j < e) → cd m j = 0) : cdE σ e = cd := by
  funext m j
  unfold cdE
  by_cases q : m < 11 ∧ j < e
  · rw [if_pos q]
    exact h j q.2 m q.1
  · rw [if_neg q, h0 m j q]
/-- what the class keeps of its trees: nothing yet, or the answers of the ends that stand there -/
def FI (σ : ax_S) : Prop := σ.1 66 1 = 0 ∨ ∃ e, 2 ≤ e ∧ e ≤ 6 ∧ σ.1 66 1 = nI e ∧ σ.1 66 14 = nI (allN e) ∧ GA σ e (cdE σ e) (allN e)
theorem GA_c {σ τ : ax_S} {e T : Nat} {cd : Nat → Nat → Int32} (h1 : τ.1 66 12 = σ.1 66 12) (h2 : τ.1 66 13 = σ.1 66 13) (h3 : τ.2 = σ.2) (h4 : τ.1 79 = σ.1 79) (h : GA σ e cd T) : GA τ e cd T := by
  unfold GA at h ⊢
  rw [h1, h2, h3, h4]
  exact h
theorem FI_c {σ τ : ax_S} (h : Fo σ τ) (f : FI σ) : FI τ := by
  have e66 := h.1 66 (by omega) (by omega)
  have e72 := h.1 72 (by omega) (by omega)
  have e79 := h.1 79 (by omega) (by omega)
  unfold FI at f ⊢
  rw [e66]
  obtain z | ⟨e, h2, h6, f1, f2, f3⟩ := f
  · exact Or.inl z
  · refine Or.inr ⟨e, h2, h6, f1, f2, ?_⟩
    have : cdE τ e = cdE σ e := by
      funext m j
      unfold cdE
      rw [e72]
    rw [this]
    exact GA_c (by rw [e66]) (by rw [e66]) h.2 e79 f3
theorem s_grow (d : Nat) {σ θ : ax_S} {e : Nat} {cd : Nat → Nat → Int32} (x2 : Int32) (hg : cV sO (d + 2) 137 [.ref 67, .ref 17, .int x2] σ = some θ) (h2 : 2 ≤ e) (he : e ≤ 6) (hF : FI θ) (h67 : θ.1 67 0 = nI e) (hc : ∀ m j, m < 11 → j < e → θ.1 71 (m * 6 + j) = cd m j) (hcd : ∀ m j, ¬ (m < 11 ∧ j < e) → cd m j = 0) : ∃ τ : ax_S, cV sO (d + 3) 136 [.ref 66, .ref 17, .int x2] σ = some τ ∧ (∀ x, x ∉ [66, 72, 73, 74, 75, 76, 77, 78, 79] → τ.1 x = θ.1 x) ∧ FI τ ∧ τ.1 66 1 = nI e ∧ τ.1 66 14 = nI (allN e) ∧ GA τ e cd (allN e) := by
  have hal := allN_le e
  have fin : ∀ τ : ax_S, τ.1 66 1 = nI e → τ.1 66 14 = nI (allN e) → GA τ e cd (allN e) → (∀ j, j < e → ∀ m, m < 11 → τ.1 72 (m * 11 + leafN j) = cd m j) → FI τ := fun τ z1 z2 z3 z4 => Or.inr ⟨e, h2, he, z1, z2, by rw [cdE_eq z4 hcd]; exact z3⟩
  have eu := u_136_66_17 d σ x2
  rw [hg, Option.bind_some] at eu
  obtain ⟨a, x, p1, p2, p3, p4, p5, p6, p7, p8⟩ := s_plantEnds d (σ := θ) (e := e) (cd := cd) he h67 hc
  rw [p1, Option.bind_some] at eu
  simp only at eu
  by_cases q : x = 0
  · rw [if_pos q] at eu
    obtain ⟨q1, q2⟩ := p3.mp q
    obtain z | ⟨e', k2, k6, k1, k14, kG⟩ := hF
    · have := nI_inj (b := 0) (by omega) (by omega) (q1.symm.trans z)
      omega
    · have : e' = e := nI_inj (by omega) (by omega) (k1.symm.trans q1)
      subst this
      rw [cdE_eq q2 hcd] at kG
      have hGA : GA a e' cd (allN e') := GA_c (p5 12 (by decide)) (p5 13 (by decide)) p4.2 (p4.1 79 (by decide)) kG
      have h14 : a.1 66 14 = nI (allN e') := by rw [p5 14 (by decide)]; exact k14
      refine ⟨a, cV_ev mi_136 eu rfl, fun x hx => p4.1 x (fun z => hx ?_), fin a p6 h14 hGA p8, p6, h14, hGA⟩
      simp only [List.mem_cons, List.not_mem_nil, or_false] at z ⊢
      omega
  · rw [if_neg q] at eu
    obtain ⟨b, r1, r2, r3, r4⟩ := s_gall d (.ref 17) (.int x2) rfl rfl (e := e) he (e - 2) 2 1 (sI a 66 14 1) (by omega) (by omega) (by rw [sI_k _ (by decide)]; exact p6) (sI_1 _ _ _ _) (by rw [prN_all h2 he]; omega)
    rw [prN_all h2 he, Nat.one_mul] at r4
    have b1' : b.1 66 1 = nI e := by rw [r3 1 (by decide), sI_k _ (by decide)]; exact p6
    have e24 := u_136_66_17p24 d b (.ref 17) rfl (.int x2) rfl (nI e)
    rw [b1', if_neg (nnl (Nat.le_refl _) (by omega))] at e24
    obtain ⟨T, hT⟩ : ∃ T, T = sI (sI b 66 12 66) 66 13 0 := ⟨_, rfl⟩
    rw [← hT] at e24
    have sT : sm [66] a T := by rw [hT]; exact ((((sm.rf _ _).set _ _ (by decide)).tr r2).set _ _ (by decide)).set _ _ (by decide)
    have fT : ∀ f, f ≠ 12 → f ≠ 13 → f ≠ 14 → T.1 66 f = a.1 66 f := fun f f1 f2 f3 => by
      rw [hT, sI_k _ f2, sI_k _ f1, r3 f f3, sI_k _ f3]
    have T14 : T.1 66 14 = nI (allN e) := by rw [hT, sI_k _ (by decide), sI_k _ (by decide)]; exact r4
    obtain ⟨s, s1, s2, s3, s4, s5, s6⟩ := s_sortMarks d (σ := T) (e := e) (cd := cd) he (by rw [fT 1 (by decide) (by decide) (by decide)]; exact p6) (by rw [sT.1 67 (by decide), p4.1 67 (by decide)]; exact h67) (fun m j hm hj => by rw [sT.1 71 (by decide), p4.1 71 (by decide)]; exact hc m j hm hj)
    rw [s1, Option.bind_some] at e24
    have s72 : s.1 72 = a.1 72 := by rw [s2.1 72 (by decide), sT.1 72 (by decide)]
    have hLF : LF s e cd := ⟨fun j hj m hm => by rw [s72]; exact p8 j hj m hm, fun j hj => by rw [s2.1 76 (by decide), sT.1 76 (by decide)]; exact p7 j hj, by rw [s3 1 (by decide), fT 1 (by decide) (by decide) (by decide)]; exact p6, by rw [s3 14 (by decide)]; exact T14, s4, s5⟩
    have hGA : GA s e cd 0 := ⟨66, 0, by rw [s3 12 (by decide), hT, sI_k _ (by decide), sI_1]; rfl, by rw [s3 13 (by decide), hT, sI_1]; rfl, rfl, fun t ht => absurd ht (Nat.not_lt_zero t), Or.inl ⟨rfl, rfl⟩, fun z => absurd z (by omega), fun _ _ _ z => absurd z (by omega), fun m hm _ => s6 m hm⟩
    obtain ⟨τ, ⟨k1, k2, k3⟩, k4⟩ := loop_P (E := fun k (τ : ax_S) => ev sO (d + 3) 136 69 [.ref 66, .ref 17, .int x2, .int (nI k)] [] τ) (N := allN e) (P := fun k τ => (∀ x, x ∉ [66, 72, 73, 74, 75, 76, 77, 78, 79] → τ.1 x = s.1 x) ∧ LF τ e cd ∧ GA τ e cd k) (fun k τ hk hp => by
      obtain ⟨h1, h3, h4⟩ := hp
      obtain ⟨u, v, ρ, t1, t2, t3, t4, t5, t6⟩ := s_turn d h2 he hk h3 h4
      refine ⟨ρ, ⟨fun x hx => (t4 x hx).trans (h1 x hx), t5, t6⟩, ?_⟩
      (try simp only)
      rw [u_136_66_17p69 d τ (.ref 17) rfl (.int x2) rfl (nI k), h3.2.2.2.1, if_pos (nlt hk), t1, Option.bind_some, t2, Option.bind_some, t3, Option.bind_some, nI_add1]) s ⟨fun _ _ => rfl, hLF, hGA⟩
    refine ⟨τ, cV_ev mi_136 (eu.trans (Eq.trans r1 (e24.trans (Eq.trans k4 ?_)))) rfl, fun x hx => ?_, fin τ k2.2.2.1 k2.2.2.2.1 k3 k2.1, k2.2.2.1, k2.2.2.2.1, k3⟩
    · rw [u_136_66_17p69 d τ (.ref 17) rfl (.int x2) rfl (nI (allN e)), k2.2.2.2.1, if_neg (nnl (Nat.le_refl _) (by omega))]
    · have hx' := hx
      simp only [List.mem_cons, List.not_mem_nil, or_false, not_or] at hx
      rw [k1 x hx', s2.1 x (by simp only [List.mem_cons, List.not_mem_nil, or_false]; omega), sT.1 x (by simp only [List.mem_cons, List.not_mem_nil, or_false]; omega), p4.1 x (by simp only [List.mem_cons, List.not_mem_nil, or_false]; omega)]
