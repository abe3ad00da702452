/-! TREES: both, together -/
theorem RA_fo {σ τ : ax_S} (h : ∀ a, a < 66 ∨ 79 < a → τ.1 a = σ.1 a) (r : RA σ) : RA τ := by
  obtain ⟨r1, r2, r3, r4, r5, r6, r7, r8⟩ := r
  refine ⟨Rd_c (fun a ha => h a ?_) r1, Rk_c (fun a ha => h a ?_) (by rw [h 82 (by omega)]) r2, Rs_c (fun a ha => h a ?_) r3, Rt_c (fun a ha => h a ?_) (by rw [h 5 (by omega)]) (by rw [h 5 (by omega)]) (by rw [h 82 (by omega)]) (by rw [h 82 (by omega)]) r4, Ri_c (fun a ha => h a ?_) r5, Ri_c (fun a ha => h a ?_) r6, Rtr_c (fun a ha => h a ?_) (by rw [h 80 (by omega)]) (by rw [h 82 (by omega)]) r7, ?_⟩
  all_goals first | (simp only [List.mem_cons, List.not_mem_nil, or_false] at ha; omega) | skip
  unfold Rf
  rw [h 82 (by omega), h 0 (by omega)]
  exact r8
theorem FI_d {σ τ : ax_S} (e66 : τ.1 66 = σ.1 66) (e72 : τ.1 72 = σ.1 72) (e79 : τ.1 79 = σ.1 79) (e2 : τ.2 = σ.2) (f : FI σ) : FI τ := by
  unfold FI at f ⊢
  rw [e66]
  obtain z | ⟨e, h2, h6, f1, f2, f3⟩ := f
  · exact Or.inl z
  · refine Or.inr ⟨e, h2, h6, f1, f2, ?_⟩
    have : cdE τ e = cdE σ e := by
      funext m j
      unfold cdE
      rw [e72]
    rw [this]
    exact GA_c (by rw [e66]) (by rw [e66]) e2 e79 f3
theorem t_grow (d : Nat) {σ : ax_S} {n X : Nat} (hRD : RD (σ.1 17 0) (σ.1 18) (σ.1 19) (σ.1 20) (σ.1 21) (σ.1 88) n) (hF : FI σ) (hX : X < 2 ^ n) (p2 : 2 ≤ pcN X) (p6 : pcN X ≤ 6) : ∃ (τ : ax_S) (K : Nat → Nat) (F : Nat → Nat → Nat) (cd : Nat → Nat → Int32), cV sO (d + 3) 136 [.ref 66, .ref 17, .int (nI X)] σ = some τ ∧ (∀ a, a < 66 ∨ 79 < a → τ.1 a = σ.1 a) ∧ FI τ ∧ τ.1 66 14 = nI (allN (enL X n).length) ∧ GA τ (enL X n).length cd (allN (enL X n).length) ∧ τ.1 67 0 = nI (enL X n).length ∧ (∀ i, i < (enL X n).length → τ.1 68 i = nI (gN (enL X n) i)) ∧ ∀ m, m < 11 → RV (K m) (F m) (fun j => mr σ (gN (enL X n) j) m) (enL X n).length ∧ τ.1 70 m = nI (K m) ∧ (∀ i, i < K m → τ.1 69 (m * 6 + i) = nI (F m i)) ∧ ∀ j, j < (enL X n).length → cd m j = encF (F m) (mr σ (gN (enL X n) j) m) (K m) := by
  obtain ⟨hn, h17, h88, hi, -, -, he, -⟩ := rd_of hRD
  have hlen := enL_len hn hX
  have hE : ∀ i, i < (enL X n).length → gN (enL X n) i < n := fun i hi => (vlP_lt hi).1
  obtain ⟨θ, g1, g2, g3, g4, g5⟩ := s_gather d (σ := σ) (X := X) (n := n) (u := fun m j => mr σ (gN (enL X n) j) m) hn h17 (by omega) (fun m j hm hj => (he _ (hE j hj)).2 m hm) (fun m j hm hj => by
    obtain ⟨-, -, -, -, q, -⟩ := hRD.2.2.2 _ (hE j hj)
    obtain ⟨-, q1, q2, -⟩ := q m hm
    (try simp only)
    cases hb : bt (ms σ (gN (enL X n) j)) m
    · rw [mr_f hb]
      obtain ⟨y, y1, y2, y3⟩ := i_nI (x := mk σ (gN (enL X n) j) m) q1
      refine Or.inr ⟨y, ?_, y2⟩
      have q2 : (mk σ (gN (enL X n) j) m).toInt ≤ (if m < 8 then 9999 else if m = 8 then 9 else 99) := q2
      rw [y3] at q2
      split at q2
      · omega
      · split at q2 <;> omega
    · exact Or.inl (mr_t hb))
  obtain ⟨KF, hKF⟩ := Classical.skolem.mp (show ∀ m, ∃ kf : Nat × (Nat → Nat), m < 11 → RV kf.1 kf.2 (fun j => mr σ (gN (enL X n) j) m) (enL X n).length ∧ θ.1 70 m = nI kf.1 ∧ (∀ i, i < kf.1 → θ.1 69 (m * 6 + i) = nI (kf.2 i)) ∧ ∀ j, j < (enL X n).length → θ.1 71 (m * 6 + j) = encF kf.2 (mr σ (gN (enL X n) j) m) kf.1 from fun m => by
    by_cases q : m < 11
    · obtain ⟨k, f, h⟩ := g5 m q
      exact ⟨(k, f), fun _ => h⟩
    · exact ⟨(0, fun _ => 0), fun z => absurd z q⟩)
  have hFo : FI θ := FI_d (g2.1 66 (by decide)) (g2.1 72 (by decide)) (g2.1 79 (by decide)) g2.2 hF
  obtain ⟨cd, hcd⟩ : ∃ cd : Nat → Nat → Int32, cd = fun m j => if m < 11 ∧ j < (enL X n).length then encF (KF m).2 (mr σ (gN (enL X n) j) m) (KF m).1 else 0 := ⟨_, rfl⟩
  have hcd1 : ∀ m, m < 11 → ∀ j, j < (enL X n).length → cd m j = encF (KF m).2 (mr σ (gN (enL X n) j) m) (KF m).1 := fun m hm j hj => by
    rw [hcd]
    exact if_pos ⟨hm, hj⟩
  obtain ⟨τ, k1, k2, k3, -, k5, k6⟩ := s_grow d (nI X) g1 (e := (enL X n).length) (cd := cd) (by omega) (by omega) hFo g3 (fun m j hm hj => by rw [hcd1 m hm j hj]; exact (hKF m hm).2.2.2 j hj) (fun m j h => by
    rw [hcd]
    exact if_neg h)
  have fr : ∀ a, a < 66 ∨ 79 < a → τ.1 a = σ.1 a := fun a ha => by
    rw [k2 a (by simp only [List.mem_cons, List.not_mem_nil, or_false]; omega), g2.1 a (by simp only [List.mem_cons, List.not_mem_nil, or_false]; omega)]
  refine ⟨τ, fun m => (KF m).1, fun m => (KF m).2, cd, k1, fr, k3, k5, k6, by rw [k2 67 (by decide)]; exact g3, fun i hi => by rw [k2 68 (by decide)]; exact g4 i hi, fun m hm => ?_⟩
  obtain ⟨w1, w2, w3, -⟩ := hKF m hm
  exact ⟨w1, by rw [k2 70 (by decide)]; exact w2, fun i hi => by rw [k2 69 (by decide)]; exact w3 i hi, hcd1 m hm⟩
/-- the reference's side of it, on what the class left -/
theorem m_grove (d : Nat) {σ τ : ax_S} {n X : Nat} {K : Nat → Nat} {F : Nat → Nat → Nat} {cd : Nat → Nat → Int32} (hRD : RD (σ.1 17 0) (σ.1 18) (σ.1 19) (σ.1 20) (σ.1 21) (σ.1 88) n) (fr : ∀ a, a < 66 ∨ 79 < a → τ.1 a = σ.1 a) (hX : X < 2 ^ n) (p2 : 2 ≤ pcN X) (p6 : pcN X ≤ 6) (hK : ∀ m, m < 11 → RV (K m) (F m) (fun j => mr σ (gN (enL X n) j) m) (enL X n).length ∧ ∀ j, j < (enL X n).length → cd m j = encF (F m) (mr σ (gN (enL X n) j) m) (K m)) : ∃ ρ : ax_S, cI sO (d + 1) 258 [.ref 82, .int (nI X)] (sI τ 82 0 0) = some (1, ρ) ∧ Sc τ ρ ∧ MX ρ n (enL X n).length (gN (enL X n)) K F (fun m j => mr σ (gN (enL X n) j) m) cd := by
  obtain ⟨hn, h17, h88, hi, -, -, he, -⟩ := rd_of hRD
  have hlen := enL_len hn hX
  have e88 : (sI τ 82 0 0).1 88 = σ.1 88 := by rw [sI_n _ _ (by decide)]; exact fr 88 (by omega)
  obtain ⟨ρ, a1, a2, a3, a4, a5⟩ := m_areEnds d (σ := sI τ 82 0 0) (n := n) (X := X) hn (by rw [e88]; exact h88) hX p2 p6
  have r88 : ρ.1 88 = σ.1 88 := by rw [a2.1 88 (by decide)]; exact e88
  obtain ⟨e1, -, -, -, -, -, e7⟩ := m88 r88
  have f : ∀ f, f ≠ 0 → f ≠ 25 → ρ.1 82 f = τ.1 82 f := fun f f0 f25 => by rw [a3 f f25, sI_k _ f0]
  refine ⟨ρ, a1, ⟨((sm.rf _ _).set _ _ (by decide)).tr (a2.up (by decide)), f 1 (by decide) (by decide), f 7 (by decide) (by decide), f 10 (by decide) (by decide), f 11 (by decide) (by decide), f 43 (by decide) (by decide)⟩, hn, by omega, by omega, e7 n hi, a4, ⟨fun j hj => ⟨a5 j hj, (vlP_lt hj).1⟩, fun i j hij hj => vlP_inc _ _ _ _ hij hj⟩, fun m hm j hj => by rw [e1], fun m hm => (hK m hm).1, fun m hm j hj => (hK m hm).2 j hj⟩
/-- both have the same answers -/
theorem GA_GR {τ ρ : ax_S} {e : Nat} {K : Nat → Nat} {F : Nat → Nat → Nat} {u cd : Nat → Nat → Int32} (h2 : 2 ≤ e) (h6 : e ≤ 6) (hR : ∀ m, m < 11 → RV (K m) (F m) (u m) e) (hcd : ∀ m, m < 11 → ∀ j, j < e → cd m j = encF (F m) (u m j) (K m)) (hG : GA τ e cd (allN e)) (hM : GR ρ (fun u => nB e K cd (qT e u)) (allN e)) : ∃ L w, τ.1 66 12 = nI L ∧ τ.1 66 13 = nI w ∧ ρ.1 82 34 = nI L ∧ ρ.1 82 35 = nI w ∧ (∃ t, t < allN e ∧ nA e cd t = L) ∧ (∀ b, b < 64 → (bl τ.2 b = true ↔ ∀ t, t < allN e → nA e cd t = L → b ∈ cJ e t)) ∧ (∀ m, m < 11 → vyB cd e m = true → ∀ b, b < 32 → (bt (τ.1 79 m) b = true ↔ ∃ t, t < allN e ∧ nA e cd t = L ∧ bt (tpT e t (cd m)) b = true)) ∧ (∀ m, m < 11 → vyB cd e m = false → τ.1 79 m = andC (cd m) e) ∧ ∀ t, t < allN e → ρ.1 98 (piT e t) = if nA e cd t = L then 1 else 0 := by
  have hal := allN_le e
  obtain ⟨L, w, g1, g2, g3, g4, g5, g6, g7, g8⟩ := hG
  have hN : ∀ t, t < allN e → nB e K cd (qT e (piT e t)) = nA e cd t := fun t ht => by
    rw [qT_pi h2 h6 ht, nA_nB h2 h6 ht hR hcd]
  have hpi : ∀ t, t < allN e → piT e t < allN e := fun t ht => by
    obtain ⟨-, -, -, -, -, hu⟩ := chd_of h2 h6 ht
    exact hu
  obtain ⟨z, -⟩ | ⟨-, M, m1, m2, m3, m4, m5, m6⟩ := hM
  · omega
  · obtain ⟨z, z2⟩ | ⟨L55, t0, t1, t2⟩ := g5
    · omega
    · have e1 : M = L := by
        have h1 : M ≤ L := by
          have := m4 (piT e t0) (hpi t0 t1)
          (try simp only at this)
          rw [hN t0 t1, t2] at this
          exact this
        have h3 : L ≤ M := by
          obtain ⟨u', u1, u2⟩ := m5
          obtain ⟨q1, q2⟩ := qT_of h2 h6 u1
          have := g4 _ q1
          (try simp only at u2)
          rw [nA_nB h2 h6 q1 hR hcd, u2] at this
          exact this
        omega
      subst e1
      refine ⟨M, w, g1, g2, m2, ?_, ⟨t0, t1, t2⟩, g6 (by omega), fun m hm hv => g7 m hm hv (by omega), g8, fun t ht => ?_⟩
      · rw [m3, g3]
        congr 1
        exact cn_pi h2 h6 _ _ (fun t ht => by
          (try simp only)
          rw [hN t ht])
      · rw [m6 _ (hpi t ht)]
        by_cases q : nA e cd t = M
        · rw [if_pos q]
          exact if_pos ((hN t ht).trans q)
        · rw [if_neg q]
          exact if_neg (fun z => q ((hN t ht).symm.trans z))
