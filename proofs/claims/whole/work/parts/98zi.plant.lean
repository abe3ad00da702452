/-! TREES: the class plants the ends -/
theorem s_gends (d : Nat) (σ : ax_S) : cI sO d 141 [.ref 67] σ = some (σ.1 67 0, σ) := cI_ev mi_141 (u_141_67 d σ) rfl
theorem sh_p2 {j : Nat} (h : j < 6) : (1 : Int32) <<< (nI j &&& 31) = nI (2 ^ j) := by
  have : j = 0 ∨ j = 1 ∨ j = 2 ∨ j = 3 ∨ j = 4 ∨ j = 5 := by omega
  obtain q | q | q | q | q | q := this <;> rw [q] <;> rfl
theorem leafN_l (j : Nat) : lfN (leafN j) := by
  unfold lfN leafN
  split <;> omega
theorem leafN_inj {i j : Nat} (h : leafN i = leafN j) : i = j := by
  have h1 := (leafN_h i).1
  have h2 := (leafN_h j).1
  rw [h] at h1
  omega
theorem s_pe1 (d : Nat) {σ : ax_S} {e j : Nat} {x0 : Int32} {W : Nat → Int32} (w5 : Value) (h5 : c1 w5) (he : e ≤ 6) (hj : j < e) (h67 : σ.1 67 0 = nI e) (hW : ∀ m, m < 11 → σ.1 71 (m * 6 + j) = W m) (hx : x0 = 0 ∨ x0 = 1) : ∃ (τ : ax_S) (x1 : Int32) (w5' : Value), c1 w5' ∧ ev sO (d + 2) 140 64 [.ref 66, .int x0, .int (nI j), .int (nI (leafN j)), .int 0, w5] [] σ = ev sO (d + 2) 140 33 [.ref 66, .int x1, .int (nI (j + 1)), .int (nI (leafN j)), .int 11, w5'] [] τ ∧ (x1 = 0 ∨ x1 = 1) ∧ (x1 = 0 ↔ x0 = 0 ∧ ∀ m, m < 11 → σ.1 72 (m * 11 + leafN j) = W m) ∧ sm [72] σ τ ∧ (∀ m, m < 11 → τ.1 72 (m * 11 + leafN j) = W m) ∧ ∀ x, (∀ m, m < 11 → x ≠ m * 11 + leafN j) → τ.1 72 x = σ.1 72 x := by
  have hlf := (leafN_h j).2
  obtain ⟨⟨x1, w5', τ⟩, ⟨q5, p0, p1, p2, p3, p4⟩, a1⟩ := loop_P (E := fun k (s : Int32 × Value × ax_S) => ev sO (d + 2) 140 64 [.ref 66, .int s.1, .int (nI j), .int (nI (leafN j)), .int (nI k), s.2.1] [] s.2.2) (N := 11) (P := fun k s => c1 s.2.1 ∧ (s.1 = 0 ∨ s.1 = 1) ∧ (s.1 = 0 ↔ x0 = 0 ∧ ∀ m, m < k → σ.1 72 (m * 11 + leafN j) = W m) ∧ sm [72] σ s.2.2 ∧ (∀ m, m < k → s.2.2.1 72 (m * 11 + leafN j) = W m) ∧ ∀ x, (∀ m, m < k → x ≠ m * 11 + leafN j) → s.2.2.1 72 x = σ.1 72 x) (fun k s hk hp => by
    obtain ⟨x1, w5, τ⟩ := s
    obtain ⟨q5, p0, p1, p2, p3, p4⟩ := hp
    simp only at q5 p0 p1 p2 p3 p4 ⊢
    have eu := u_140_66p64 d τ x1 (nI j) (nI (leafN j)) (nI k) w5 q5
    rw [if_pos (show nI k < (11 : Int32) from nlt (N := 11) hk), s_codeAt d τ hk (by rw [p2.1 67 (by decide)]; exact h67) he hj, Option.bind_some] at eu
    have hold : τ.1 72 (k * 11 + leafN j) = σ.1 72 (k * 11 + leafN j) := p4 _ (fun m hm => by omega)
    simp only [p2.1 71 (by decide), hW k hk, show nI k * (11 : Int32) = nI (k * 11) from nI_mul (b := 11) (by omega) (by omega) (by omega), nI_pl (show k * 11 + leafN j < 2147483648 by omega), nI_c (show k * 11 + leafN j < 2147483648 by omega), hold, nI_add1] at eu
    have g := nI_g (show k * 11 + leafN j < 121 by omega) (by omega)
    have nx : ∀ x1' : Int32, (x1' = 0 ∨ x1' = 1) → (x1' = 0 ↔ x1 = 0 ∧ σ.1 72 (k * 11 + leafN j) = W k) → ev sO (d + 2) 140 64 [.ref 66, .int x1, .int (nI j), .int (nI (leafN j)), .int (nI k), w5] [] τ = ev sO (d + 2) 140 64 [.ref 66, .int x1', .int (nI j), .int (nI (leafN j)), .int (nI (k + 1)), .int (W k)] [] (sI τ 72 (k * 11 + leafN j) (W k)) → ∃ s' : Int32 × Value × ax_S, (c1 s'.2.1 ∧ (s'.1 = 0 ∨ s'.1 = 1) ∧ (s'.1 = 0 ↔ x0 = 0 ∧ ∀ m, m < k + 1 → σ.1 72 (m * 11 + leafN j) = W m) ∧ sm [72] σ s'.2.2 ∧ (∀ m, m < k + 1 → s'.2.2.1 72 (m * 11 + leafN j) = W m) ∧ ∀ x, (∀ m, m < k + 1 → x ≠ m * 11 + leafN j) → s'.2.2.1 72 x = σ.1 72 x) ∧ ev sO (d + 2) 140 64 [.ref 66, .int x1, .int (nI j), .int (nI (leafN j)), .int (nI k), w5] [] τ = ev sO (d + 2) 140 64 [.ref 66, .int s'.1, .int (nI j), .int (nI (leafN j)), .int (nI (k + 1)), s'.2.1] [] s'.2.2 := fun x1' hx1 hx2 he1 => by
      refine ⟨(x1', .int (W k), sI τ 72 (k * 11 + leafN j) (W k)), ⟨rfl, hx1, ?_, p2.set _ _ (by decide), fun m hm => ?_, fun x hx => ?_⟩, he1⟩
      · (try simp only)
        rw [hx2, p1]
        constructor
        · rintro ⟨⟨z1, z2⟩, z3⟩
          refine ⟨z1, fun m hm => ?_⟩
          by_cases y : m = k
          · rw [y]; exact z3
          · exact z2 m (by omega)
        · rintro ⟨z1, z2⟩
          exact ⟨⟨z1, fun m hm => z2 m (by omega)⟩, z2 k (by omega)⟩
      · (try simp only)
        by_cases y : m = k
        · rw [y, sI_1]
        · rw [sI_k _ (by omega)]
          exact p3 m (by omega)
      · (try simp only)
        rw [sI_k _ (hx k (by omega))]
        exact p4 x (fun m hm => hx m (by omega))
    by_cases z : x1 = 0
    · rw [if_pos z, gd_t g] at eu
      by_cases y : σ.1 72 (k * 11 + leafN j) = W k
      · rw [if_pos y, gd_t g] at eu
        exact nx 0 (Or.inl rfl) ⟨fun _ => ⟨z, y⟩, fun _ => rfl⟩ eu
      · rw [if_neg y, gd_t g] at eu
        exact nx 1 (Or.inr rfl) ⟨fun a => absurd a (by decide), fun a => absurd a.2 y⟩ eu
    · rw [if_neg z, gd_t g] at eu
      exact nx 1 (Or.inr rfl) ⟨fun a => absurd a (by decide), fun a => absurd a.1 z⟩ eu) (x0, w5, σ) ⟨h5, hx, ⟨fun z => ⟨z, fun m hm => absurd hm (Nat.not_lt_zero m)⟩, fun z => z.1⟩, sm.rf _ _, fun m hm => absurd hm (Nat.not_lt_zero m), fun _ _ => rfl⟩
  simp only at q5 p0 p1 p2 p3 p4 a1
  refine ⟨τ, x1, w5', q5, Eq.trans a1 ?_, p0, p1, p2, p3, p4⟩
  rw [u_140_66p64 d τ x1 (nI j) (nI (leafN j)) (nI 11) w5' q5, if_neg (show ¬ nI 11 < (11 : Int32) from nnl (N := 11) (Nat.le_refl _)), nI_add1]
  rfl
theorem s_plantEnds (d : Nat) {σ : ax_S} {e : Nat} {cd : Nat → Nat → Int32} (he : e ≤ 6) (h67 : σ.1 67 0 = nI e) (hc : ∀ m j, m < 11 → j < e → σ.1 71 (m * 6 + j) = cd m j) : ∃ (τ : ax_S) (x : Int32), cI sO (d + 2) 140 [.ref 66] σ = some (x, τ) ∧ (x = 0 ∨ x = 1) ∧ (x = 0 ↔ σ.1 66 1 = nI e ∧ ∀ j, j < e → ∀ m, m < 11 → σ.1 72 (m * 11 + leafN j) = cd m j) ∧ sm [66, 72, 76] σ τ ∧ (∀ f, f ≠ 1 → τ.1 66 f = σ.1 66 f) ∧ τ.1 66 1 = nI e ∧ (∀ j, j < e → τ.1 76 (leafN j) = nI (2 ^ j)) ∧ ∀ j, j < e → ∀ m, m < 11 → τ.1 72 (m * 11 + leafN j) = cd m j := by
  have main : ∀ x0 : Int32, (x0 = 0 ∨ x0 = 1) → ∃ (τ : ax_S) (x : Int32), ev sO (d + 2) 140 33 [.ref 66, .int x0, .int 0, .null, .null, .null] [] (sI σ 66 1 (nI e)) = some (some (.int x), τ) ∧ (x = 0 ∨ x = 1) ∧ (x = 0 ↔ x0 = 0 ∧ ∀ j, j < e → ∀ m, m < 11 → σ.1 72 (m * 11 + leafN j) = cd m j) ∧ sm [66, 72, 76] σ τ ∧ (∀ f, f ≠ 1 → τ.1 66 f = σ.1 66 f) ∧ τ.1 66 1 = nI e ∧ (∀ j, j < e → τ.1 76 (leafN j) = nI (2 ^ j)) ∧ ∀ j, j < e → ∀ m, m < 11 → τ.1 72 (m * 11 + leafN j) = cd m j := fun x0 hx0 => by
    obtain ⟨⟨x, w3, w4, w5, τ⟩, ⟨q3, q4, q5, p0, p1, p2, p3, p4, p5, p6, p7⟩, a1⟩ := loop_P (E := fun k (s : Int32 × Value × Value × Value × ax_S) => ev sO (d + 2) 140 33 [.ref 66, .int s.1, .int (nI k), s.2.1, s.2.2.1, s.2.2.2.1] [] s.2.2.2.2) (N := e) (P := fun k s => c1 s.2.1 ∧ c1 s.2.2.1 ∧ c1 s.2.2.2.1 ∧ (s.1 = 0 ∨ s.1 = 1) ∧ (s.1 = 0 ↔ x0 = 0 ∧ ∀ j, j < k → ∀ m, m < 11 → σ.1 72 (m * 11 + leafN j) = cd m j) ∧ sm [66, 72, 76] σ s.2.2.2.2 ∧ (∀ f, f ≠ 1 → s.2.2.2.2.1 66 f = σ.1 66 f) ∧ s.2.2.2.2.1 66 1 = nI e ∧ (∀ j, j < k → s.2.2.2.2.1 76 (leafN j) = nI (2 ^ j)) ∧ (∀ j, j < k → ∀ m, m < 11 → s.2.2.2.2.1 72 (m * 11 + leafN j) = cd m j) ∧ ∀ j, k ≤ j → j < e → ∀ m, m < 11 → s.2.2.2.2.1 72 (m * 11 + leafN j) = σ.1 72 (m * 11 + leafN j)) (fun k s hk hp => by
      obtain ⟨x, w3, w4, w5, τ⟩ := s
      obtain ⟨q3, q4, q5, p0, p1, p2, p3, p4, p5, p6, p7⟩ := hp
      simp only at q3 q4 q5 p0 p1 p2 p3 p4 p5 p6 p7 ⊢
      have hlf := (leafN_h k).2
      have eu := u_140_66p33 d τ x (nI k) w3 q3 w4 q4 w5 q5
      rw [p4, if_pos (nlt hk), if_pos (show nI k < (6 : Int32) from nlt (N := 6) (by omega)), s_leafOf _ _ (show k < 6 by omega), Option.bind_some] at eu
      simp only [nI_c (show leafN k < 2147483648 by omega), sh_p2 (show k < 6 by omega)] at eu
      rw [gd_t (nI_g (show leafN k < 11 by omega) (by omega))] at eu
      obtain ⟨T, hT⟩ : ∃ T, T = sI τ 76 (leafN k) (nI (2 ^ k)) := ⟨_, rfl⟩
      rw [← hT] at eu
      have sT : sm [76] τ T := by rw [hT]; exact (sm.rf _ _).set _ _ (by decide)
      obtain ⟨ρ, x1, w5', c5, e1, r0, r1, r2, r3, r4⟩ := s_pe1 d (σ := T) (e := e) (j := k) (x0 := x) (W := fun m => cd m k) w5 q5 he hk (by rw [sT.1 67 (by decide), p2.1 67 (by decide)]; exact h67) (fun m hm => by rw [sT.1 71 (by decide), p2.1 71 (by decide)]; exact hc m k hm hk) p0
      have t72 : T.1 72 = τ.1 72 := sT.1 72 (by decide)
      refine ⟨(x1, .int (nI (leafN k)), .int 11, w5', ρ), ⟨rfl, rfl, c5, r0, ?_, (p2.tr (sT.up (by decide))).tr (r2.up (by decide)), fun f hf => ?_, ?_, fun j hj => ?_, fun j hj m hm => ?_, fun j hj hj2 m hm => ?_⟩, eu.trans e1⟩
      · (try simp only)
        rw [r1, p1]
        constructor
        · rintro ⟨⟨z1, z2⟩, z3⟩
          refine ⟨z1, fun j hj m hm => ?_⟩
          by_cases y : j = k
          · rw [y]
            have := z3 m hm
            rw [t72, p7 k (Nat.le_refl _) hk m hm] at this
            exact this
          · exact z2 j (by omega) m hm
        · rintro ⟨z1, z2⟩
          refine ⟨⟨z1, fun j hj => z2 j (by omega)⟩, fun m hm => ?_⟩
          rw [t72, p7 k (Nat.le_refl _) hk m hm]
          exact z2 k (by omega) m hm
      · (try simp only)
        rw [r2.1 66 (by decide), sT.1 66 (by decide)]
        exact p3 f hf
      · (try simp only)
        rw [r2.1 66 (by decide), sT.1 66 (by decide)]
        exact p4
      · (try simp only)
        rw [r2.1 76 (by decide), hT]
        by_cases y : j = k
        · rw [y, sI_1]
        · rw [sI_k _ (fun z => y (leafN_inj z))]
          exact p5 j (by omega)
      · (try simp only)
        by_cases y : j = k
        · rw [y]
          exact r3 m hm
        · have hlj := (leafN_h j).2
          rw [r4 _ (fun m' hm' z => y (leafN_inj (by omega))), t72]
          exact p6 j (by omega) m hm
      · (try simp only)
        have hlj := (leafN_h j).2
        rw [r4 _ (fun m' hm' z => by
          have : leafN j = leafN k := by omega
          have := leafN_inj this
          omega), t72]
        exact p7 j (by omega) hj2 m hm) (x0, .null, .null, .null, sI σ 66 1 (nI e)) ⟨rfl, rfl, rfl, hx0, ⟨fun z => ⟨z, fun j hj => absurd hj (Nat.not_lt_zero j)⟩, fun z => z.1⟩, (sm.rf _ _).set _ _ (by decide), fun f hf => sI_k _ hf, sI_1 _ _ _ _, fun j hj => absurd hj (Nat.not_lt_zero j), fun j hj => absurd hj (Nat.not_lt_zero j), fun j _ _ m _ => by rw [sI_n _ _ (by decide)]⟩
    simp only at q3 q4 q5 p0 p1 p2 p3 p4 p5 p6 p7 a1
    refine ⟨τ, x, Eq.trans a1 ?_, p0, p1, p2, p3, p4, p5, p6⟩
    rw [u_140_66p33 d τ x (nI e) w3 q3 w4 q4 w5 q5, p4, if_neg (nnl (Nat.le_refl _) (by omega))]
    obtain z | z := p0
    · rw [z]; rfl
    · rw [z]; rfl
  have eu := u_140_66 d σ
  rw [s_gends, Option.bind_some] at eu
  simp only [h67] at eu
  rw [s_gends, Option.bind_some] at eu
  simp only [h67] at eu
  by_cases q : σ.1 66 1 = nI e
  · rw [if_pos q] at eu
    obtain ⟨τ, x, b1, b2, b3, b4⟩ := main 0 (Or.inl rfl)
    exact ⟨τ, x, cI_ev mi_140 (eu.trans b1) rfl, b2, b3.trans ⟨fun z => ⟨q, z.2⟩, fun z => ⟨rfl, z.2⟩⟩, b4⟩
  · rw [if_neg q] at eu
    obtain ⟨τ, x, b1, b2, b3, b4⟩ := main 1 (Or.inr rfl)
    exact ⟨τ, x, cI_ev mi_140 (eu.trans b1) rfl, b2, b3.trans ⟨fun z => absurd z.1 (by decide), fun z => absurd z.1 q⟩, b4⟩
