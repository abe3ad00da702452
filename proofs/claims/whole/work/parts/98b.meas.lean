/-! A KITCHEN'S TEXT: measures -/
/-- a measure's line: what it leads to, its four numbers -/
abbrev vT (b : Nat → Int32) (T : TK) : Int32 := vl b T.2.2.2.1 T.2.2.2.2
def rMP (b : Nat → Int32) (n : Nat) (T T1 T2 T3 T4 T5 T6 : TK) : Prop := T1 = pM b n (nmT b W1001 T) T ∧ T2 = pU b n 0 3 T1 ∧ T3 = pU b n 0 3 T2 ∧ T4 = pU b n 1800 2000 T3 ∧ T5 = pU b n 1 99 T4 ∧ T6 = pM b n (T5.2.2.1 = 4) T5
def rMv (b : Nat → Int32) (T1 T2 T3 T4 : TK) (r : Nat) : Int32 := if r = 0 then vT b T1 else if r = 1 then vT b T2 else if r = 2 then vT b T3 else vT b T4
theorem rMP_ex (b : Nat → Int32) (n : Nat) (T : TK) : ∃ T1 T2 T3 T4 T5 T6, rMP b n T T1 T2 T3 T4 T5 T6 := ⟨_, _, _, _, _, _, rfl, rfl, rfl, rfl, rfl, rfl⟩
theorem rM_ok {b : Nat → Int32} {n : Nat} {T T1 T2 T3 T4 T5 T6 : TK} (q : rMP b n T T1 T2 T3 T4 T5 T6) (h : T6.1 = 0) : T5.1 = 0 ∧ T4.1 = 0 ∧ T3.1 = 0 ∧ T2.1 = 0 ∧ T1.1 = 0 ∧ T.1 = 0 ∧ 1800 ≤ (vT b T3).toInt ∧ (vT b T3).toInt ≤ 2000 ∧ 1 ≤ (vT b T4).toInt ∧ (vT b T4).toInt ≤ 99 := by
  obtain ⟨q1, q2, q3, q4, q5, q6⟩ := q
  rw [q6] at h
  have h5 := (pM_ok h).1
  clear h
  have h4 := pU_ok (show (pU b n 1 99 T4).1 = 0 by rw [← q5]; exact h5)
  have h3 := pU_ok (show (pU b n 1800 2000 T3).1 = 0 by rw [← q4]; exact h4.1)
  have h2 := pU_ok (show (pU b n 0 3 T2).1 = 0 by rw [← q3]; exact h3.1)
  have h1 := pU_ok (show (pU b n 0 3 T1).1 = 0 by rw [← q2]; exact h2.1)
  have h0 := pM_ok (show (pM b n (nmT b W1001 T) T).1 = 0 by rw [← q1]; exact h1.1)
  exact ⟨h5, h4.1, h3.1, h2.1, h1.1, h0.1, h3.2.2.1.1, h3.2.2.1.2, h4.2.2.1.1, h4.2.2.1.2⟩
theorem rM_n {b : Nat → Int32} {n : Nat} {T T1 T2 T3 T4 T5 T6 : TK} (q : rMP b n T T1 T2 T3 T4 T5 T6) (h : ¬ T.1 = 0) : T6 = T := by
  obtain ⟨q1, q2, q3, q4, q5, q6⟩ := q
  rw [pM_n h] at q1
  subst q1
  rw [pU_n h] at q2
  subst q2
  rw [pU_n h] at q3
  subst q3
  rw [pU_n h] at q4
  subst q4
  rw [pU_n h] at q5
  subst q5
  rw [pM_n h] at q6
  exact q6
theorem s_passName1 (d : Nat) {σ : ax_S} {b : Nat → Int32} {n : Nat} {L : Int32} {T : TK} (h : CSt σ b n L T) : ∃ τ, cV sO (d + 5) 48 [.ref 5, .ref 1001] σ = some τ ∧ sm [5] σ τ ∧ CSt τ b n L (pM b n (nmT b W1001 T) T) := by
  obtain ⟨τ, e1, e2, e3⟩ := s_pass (d + 2) (nmT b W1001 T) h
  refine ⟨τ, cV_ev mi_48 ((u_48_5_1001 d σ).trans ?_) rfl, e2, e3⟩
  rw [s_atName_1001 d h.1 h.2.1 h.2.2.1 h.2.2.2.1 h.2.2.2.2.1, Option.bind_some]
  (try simp only)
  rw [e1, Option.bind_some]
/-- what a line leaves of the class's half-read kitchen -/
abbrev kfr (σ τ : ax_S) : Prop := sm [5, 52, 53, 54, 55, 56, 57, 58, 59, 60] σ τ
theorem s_readMeasure (d : Nat) {σ : ax_S} {b : Nat → Int32} {n m : Nat} {L : Int32} {T T1 T2 T3 T4 T5 T6 : TK} (q : rMP b n T T1 T2 T3 T4 T5 T6) (h : CSt σ b n L T) (hm : σ.1 52 1 = nI m) (h16 : m < 16) : ∃ τ, cV sO (d + 6) 46 [.ref 52, .ref 5] σ = some τ ∧ sm [5, 52, 53, 54, 55, 56] σ τ ∧ CSt τ b n L T6 ∧ τ.1 52 1 = nI (m + 1) ∧ (∀ f, f ≠ 1 → τ.1 52 f = σ.1 52 f) ∧ (∀ r k, r < 4 → k ≠ m → τ.1 (53 + r) k = σ.1 (53 + r) k) ∧ (T6.1 = 0 → ∀ r, r < 4 → τ.1 (53 + r) m = rMv b T1 T2 T3 T4 r) := by
  have gm := nI_g h16 (N := 16) (by omega)
  have em := nI_c (show m < 2147483648 by omega)
  have qq := q
  obtain ⟨q1, q2, q3, q4, q5, q6⟩ := q
  obtain ⟨t1, a1, a2, a3⟩ := s_passName1 d h
  rw [← q1] at a3
  have m1 : t1.1 52 1 = nI m := by rw [a2.1 52 (by decide)]; exact hm
  obtain ⟨v2, t2, b1', b2, b3, b4, -⟩ := s_passNumber (d + 2) 0 3 a3
  rw [← q2] at b3 b4
  have m2 : (sI t2 53 m v2).1 52 1 = nI m := by rw [sI_n _ _ (by decide), b2.1 52 (by decide)]; exact m1
  obtain ⟨v3, t3, c1', c2, c3, c4, -⟩ := s_passNumber (d + 2) (σ := sI t2 53 m v2) 0 3 (CSt_c (sI_n _ _ (by decide)) (sI_n _ _ (by decide)) b3)
  rw [← q3] at c3 c4
  have m3 : (sI t3 54 m v3).1 52 1 = nI m := by rw [sI_n _ _ (by decide), c2.1 52 (by decide)]; exact m2
  obtain ⟨v4, t4, d1, d2, d3, d4, -⟩ := s_passNumber (d + 2) (σ := sI t3 54 m v3) 1800 2000 (CSt_c (sI_n _ _ (by decide)) (sI_n _ _ (by decide)) c3)
  rw [← q4] at d3 d4
  have m4 : (sI t4 55 m v4).1 52 1 = nI m := by rw [sI_n _ _ (by decide), d2.1 52 (by decide)]; exact m3
  obtain ⟨v5, t5, e1, e2, e3, e4, -⟩ := s_passNumber (d + 2) (σ := sI t4 55 m v4) 1 99 (CSt_c (sI_n _ _ (by decide)) (sI_n _ _ (by decide)) d3)
  rw [← q5] at e3 e4
  have m5 : (sI t5 56 m v5).1 52 1 = nI m := by rw [sI_n _ _ (by decide), e2.1 52 (by decide)]; exact m4
  obtain ⟨t6, f1, f2, f3⟩ := s_passStop (d + 2) (σ := sI t5 56 m v5) (CSt_c (sI_n _ _ (by decide)) (sI_n _ _ (by decide)) e3)
  rw [← q6] at f3
  have m6 : t6.1 52 1 = nI m := by rw [f2.1 52 (by decide)]; exact m5
  have g5 : ∀ {α β : ax_S} {a : Nat}, sm [5] α β → a ≠ 5 → β.1 a = α.1 a := fun {α β a} hs ha => hs.1 a (by simp only [List.mem_cons, List.not_mem_nil, or_false]; exact ha)
  refine ⟨sI t6 52 1 (nI (m + 1)), cV_ev mi_46 ((u_46_52_5 d σ).trans ?_) rfl, ?_, CSt_c (sI_n _ _ (by decide)) (sI_n _ _ (by decide)) f3, sI_1 _ _ _ _, fun f hf => ?_, fun r k hr hk => ?_, fun hok r hr => ?_⟩
  · rw [hm, if_pos (show nI m < (16 : Int32) from nlt (N := 16) h16), a1, Option.bind_some, b1', Option.bind_some]
    simp only [m1, gd_t gm, em]
    rw [c1', Option.bind_some]
    simp only [m2, gd_t gm, em]
    rw [d1, Option.bind_some]
    simp only [m3, gd_t gm, em]
    rw [e1, Option.bind_some]
    simp only [m4, gd_t gm, em]
    rw [f1, Option.bind_some, m6, nI_add1]
  · exact ((((((a2.up (by decide)).tr (b2.up (by decide))).set _ _ (by decide)).tr (c2.up (by decide))).set _ _ (by decide)).tr (d2.up (by decide))).set _ _ (by decide) |>.tr (e2.up (by decide)) |>.set _ _ (by decide) |>.tr (f2.up (by decide)) |>.set _ _ (by decide)
  · rw [sI_k _ hf, g5 f2 (by decide), sI_n _ _ (by decide), g5 e2 (by decide), sI_n _ _ (by decide), g5 d2 (by decide), sI_n _ _ (by decide), g5 c2 (by decide), sI_n _ _ (by decide), g5 b2 (by decide), g5 a2 (by decide)]
  · have hr2 : r = 0 ∨ r = 1 ∨ r = 2 ∨ r = 3 := by omega
    obtain rfl | rfl | rfl | rfl := hr2
    · show (sI t6 52 1 (nI (m + 1))).1 53 k = σ.1 53 k
      rw [sI_n _ _ (by decide), g5 f2 (by decide), sI_n _ _ (by decide), g5 e2 (by decide), sI_n _ _ (by decide), g5 d2 (by decide), sI_n _ _ (by decide), g5 c2 (by decide), sI_k _ hk, g5 b2 (by decide), g5 a2 (by decide)]
    · show (sI t6 52 1 (nI (m + 1))).1 54 k = σ.1 54 k
      rw [sI_n _ _ (by decide), g5 f2 (by decide), sI_n _ _ (by decide), g5 e2 (by decide), sI_n _ _ (by decide), g5 d2 (by decide), sI_k _ hk, g5 c2 (by decide), sI_n _ _ (by decide), g5 b2 (by decide), g5 a2 (by decide)]
    · show (sI t6 52 1 (nI (m + 1))).1 55 k = σ.1 55 k
      rw [sI_n _ _ (by decide), g5 f2 (by decide), sI_n _ _ (by decide), g5 e2 (by decide), sI_k _ hk, g5 d2 (by decide), sI_n _ _ (by decide), g5 c2 (by decide), sI_n _ _ (by decide), g5 b2 (by decide), g5 a2 (by decide)]
    · show (sI t6 52 1 (nI (m + 1))).1 56 k = σ.1 56 k
      rw [sI_n _ _ (by decide), g5 f2 (by decide), sI_k _ hk, g5 e2 (by decide), sI_n _ _ (by decide), g5 d2 (by decide), sI_n _ _ (by decide), g5 c2 (by decide), sI_n _ _ (by decide), g5 b2 (by decide), g5 a2 (by decide)]
  · obtain ⟨k5, k4, k3, k2, k1, -⟩ := rM_ok qq hok
    have hr2 : r = 0 ∨ r = 1 ∨ r = 2 ∨ r = 3 := by omega
    obtain rfl | rfl | rfl | rfl := hr2
    · show (sI t6 52 1 (nI (m + 1))).1 53 m = vT b T1
      rw [sI_n _ _ (by decide), g5 f2 (by decide), sI_n _ _ (by decide), g5 e2 (by decide), sI_n _ _ (by decide), g5 d2 (by decide), sI_n _ _ (by decide), g5 c2 (by decide), sI_1]
      exact b4 k2
    · show (sI t6 52 1 (nI (m + 1))).1 54 m = vT b T2
      rw [sI_n _ _ (by decide), g5 f2 (by decide), sI_n _ _ (by decide), g5 e2 (by decide), sI_n _ _ (by decide), g5 d2 (by decide), sI_1]
      exact c4 k3
    · show (sI t6 52 1 (nI (m + 1))).1 55 m = vT b T3
      rw [sI_n _ _ (by decide), g5 f2 (by decide), sI_n _ _ (by decide), g5 e2 (by decide), sI_1]
      exact d4 k4
    · show (sI t6 52 1 (nI (m + 1))).1 56 m = vT b T4
      rw [sI_n _ _ (by decide), g5 f2 (by decide), sI_1]
      exact e4 k5
theorem m_readMeasure (d : Nat) {σ : ax_S} {b : Nat → Int32} {n m : Nat} {T T1 T2 T3 T4 T5 T6 : TK} (q : rMP b n T T1 T2 T3 T4 T5 T6) (h : MSt σ b n T) (hm : σ.1 87 0 = nI m) (h16 : m < 16) (hw : nmT b W1001 T) : ∃ τ, cV sO (d + 4) 211 [.ref 82] σ = some τ ∧ sm [82, 87] σ τ ∧ (∀ f, nq f → τ.1 82 f = σ.1 82 f) ∧ MSt τ b n T6 ∧ (T6.1 = 0 → τ.1 87 0 = nI (m + 1) ∧ (∀ r, r < 4 → τ.1 87 (2 + 4 * m + r) = rMv b T1 T2 T3 T4 r) ∧ ∀ i, i ≠ 0 → (∀ r, r < 4 → i ≠ 2 + 4 * m + r) → τ.1 87 i = σ.1 87 i) := by
  obtain ⟨t1, a1, a2, a3⟩ := m_must (d + 1) True h
  have qq := q
  obtain ⟨q1, q2, q3, q4, q5, q6⟩ := q
  have e1 : pM b n True T = T1 := by
    rw [q1]
    unfold pM
    rw [if_pos trivial, if_pos hw]
  rw [e1] at a3
  obtain ⟨v2, t2, b1', b2, b3, b4⟩ := m_number d 0 3 a3
  rw [← q2] at b3 b4
  obtain ⟨v3, t3, c1', c2, c3, c4⟩ := m_number d 0 3 b3
  rw [← q3] at c3 c4
  obtain ⟨v4, t4, d1, d2, d3, d4⟩ := m_number d 1800 2000 c3
  rw [← q4] at d3 d4
  obtain ⟨v5, t5, f1, f2, f3, f4⟩ := m_number d 1 99 d3
  rw [← q5] at f3 f4
  obtain ⟨t6, g1, g2, g3⟩ := m_mustEnd d f3
  rw [← q6] at g3
  have fr : mfr σ t6 := ((((a2.tr b2).tr c2).tr d2).tr f2).tr g2
  have n16 : ¬ nI m = 16 := fun q => by
    have := nI_inj (b := 16) (by omega) (by omega) q
    omega
  have m1 : t1.1 87 0 = nI m := by rw [a2.1.1 87 (by decide)]; exact hm
  have i0 : (2 : Int32) + 4 * nI m = nI (2 + 4 * m) := nI_lin (a := 2) (b := 4) (by omega) (by omega) (by omega)
  have i1 : nI (2 + 4 * m) + 1 = nI (2 + 4 * m + 1) := nI_add1 _
  have i2 : nI (2 + 4 * m) + 2 = nI (2 + 4 * m + 2) := nI_pl (b := 2) (by omega)
  have i3 : nI (2 + 4 * m) + 3 = nI (2 + 4 * m + 3) := nI_pl (b := 3) (by omega)
  have base : ∀ τ, (if (t6.1 82 17) = 0 then some ((none : Option Value), (sI (sI (sI (sI (sI t6 87 (2 + 4 * m) v2) 87 (2 + 4 * m + 1) v3) 87 (2 + 4 * m + 2) v4) 87 (2 + 4 * m + 3) v5) 87 0 (nI (m + 1)))) else some (none, t6)) = some (none, τ) → cV sO (d + 4) 211 [.ref 82] σ = some τ := fun τ hτ => by
    refine cV_ev mi_211 ((u_211_82 d σ).trans ?_) rfl
    have m6 : t6.1 87 0 = nI m := by rw [fr.1.1 87 (by decide)]; exact hm
    have a1 : cV sO (d + 3) 213 [.ref 82, .int 1] σ = some t1 := a1
    rw [hm, if_neg n16, a1, Option.bind_some, b1', Option.bind_some]
    (try simp only)
    rw [c1', Option.bind_some]
    (try simp only)
    rw [d1, Option.bind_some]
    (try simp only)
    rw [f1, Option.bind_some]
    (try simp only)
    rw [g1, Option.bind_some, m1]
    simp only [i0, i1, i2, i3, gd_t (nI_g (show 2 + 4 * m < 102 by omega) (by omega)), gd_t (nI_g (show 2 + 4 * m + 1 < 102 by omega) (by omega)), gd_t (nI_g (show 2 + 4 * m + 2 < 102 by omega) (by omega)), gd_t (nI_g (show 2 + 4 * m + 3 < 102 by omega) (by omega)), nI_c (show 2 + 4 * m < 2147483648 by omega), nI_c (show 2 + 4 * m + 1 < 2147483648 by omega), nI_c (show 2 + 4 * m + 2 < 2147483648 by omega), nI_c (show 2 + 4 * m + 3 < 2147483648 by omega)]
    rw [sI_k (j := 0) _ (by omega), sI_k (j := 0) _ (by omega), sI_k (j := 0) _ (by omega), sI_k (j := 0) _ (by omega), m6, nI_add1]
    exact hτ
  by_cases hok : T6.1 = 0
  · obtain ⟨k5, k4, k3, k2, k1, -⟩ := rM_ok qq hok
    refine ⟨_, base _ (if_pos ((c17 g3).mpr hok)), (((((fr.1.up (by decide)).set _ _ (by decide)).set _ _ (by decide)).set _ _ (by decide)).set _ _ (by decide)).set _ _ (by decide), fun f hf => by rw [sI_n _ _ (by decide), sI_n _ _ (by decide), sI_n _ _ (by decide), sI_n _ _ (by decide), sI_n _ _ (by decide)]; exact fr.2 f hf, MSt_c (by rw [sI_n _ _ (by decide), sI_n _ _ (by decide), sI_n _ _ (by decide), sI_n _ _ (by decide), sI_n _ _ (by decide)]) (by rw [sI_n _ _ (by decide), sI_n _ _ (by decide), sI_n _ _ (by decide), sI_n _ _ (by decide), sI_n _ _ (by decide)]) g3, fun _ => ⟨sI_1 _ _ _ _, fun r hr => ?_, fun i h0 hi => ?_⟩⟩
    · have hr2 : r = 0 ∨ r = 1 ∨ r = 2 ∨ r = 3 := by omega
      obtain rfl | rfl | rfl | rfl := hr2
      · rw [sI_k _ (by omega), sI_k _ (by omega), sI_k _ (by omega), sI_k _ (by omega)]
        show (sI t6 87 (2 + 4 * m) v2).1 87 (2 + 4 * m) = vT b T1
        rw [sI_1]
        exact b4 k2
      · rw [sI_k _ (by omega), sI_k _ (by omega), sI_k _ (by omega), sI_1]
        exact c4 k3
      · rw [sI_k _ (by omega), sI_k _ (by omega), sI_1]
        exact d4 k4
      · rw [sI_k _ (by omega), sI_1]
        exact f4 k5
    · have q0 : i ≠ 2 + 4 * m := hi 0 (by omega)
      have q1 := hi 1 (by omega)
      have q2 := hi 2 (by omega)
      have q3 := hi 3 (by omega)
      rw [sI_k _ h0, sI_k _ q3, sI_k _ q2, sI_k _ q1, sI_k _ q0, fr.1.1 87 (by decide)]
  · exact ⟨t6, base _ (if_neg (fun q => hok ((c17 g3).mp q))), fr.1.up (by decide), fr.2, g3, fun q => absurd q hok⟩
theorem s_readMeasure16 (d : Nat) {σ : ax_S} {b : Nat → Int32} {n m : Nat} {L : Int32} {T : TK} (h : CSt σ b n L T) (hm : σ.1 52 1 = nI m) (h16 : m = 16) : ∃ τ, cV sO (d + 6) 46 [.ref 52, .ref 5] σ = some τ ∧ sm [5] σ τ ∧ CSt τ b n L (pB 3 T) := by
  obtain ⟨τ, e1, e2, e3⟩ := s_blame (d + 5) h (j := 3) (by omega) (by omega)
  refine ⟨τ, cV_ev mi_46 ((u_46_52_5 d σ).trans ?_) rfl, e2, e3⟩
  rw [hm, h16, if_neg (show ¬ nI 16 < (16 : Int32) from nnl (N := 16) (Nat.le_refl _)), show (3 : Int32) = nI 3 from rfl, e1, Option.bind_some]
theorem m_readMeasure16 (d : Nat) {σ : ax_S} {b : Nat → Int32} {n m : Nat} {T : TK} (h : MSt σ b n T) (hm : σ.1 87 0 = nI m) (h16 : m = 16) : ∃ τ, cV sO (d + 4) 211 [.ref 82] σ = some τ ∧ mfr σ τ ∧ MSt τ b n (pB 3 T) := by
  obtain ⟨t0, z1, z2, z3⟩ := m_bad (d + 3) h (j := 3) (by omega) (by omega)
  have t : ¬ (pB 3 T).1 = 0 := by
    by_cases t : T.1 = 0
    · rw [pB_0 t]; simp only; omega
    · rw [pB_n t]; exact t
  generalize pB 3 T = U at t z3 ⊢
  obtain ⟨t1, a1, a2, a3⟩ := m_must (d + 1) True z3
  rw [pM_n t] at a3
  obtain ⟨v2, t2, b1', b2, b3, -⟩ := m_number d 0 3 a3
  rw [pU_n t] at b3
  obtain ⟨v3, t3, c1', c2, c3, -⟩ := m_number d 0 3 b3
  rw [pU_n t] at c3
  obtain ⟨v4, t4, d1, d2, d3, -⟩ := m_number d 1800 2000 c3
  rw [pU_n t] at d3
  obtain ⟨v5, t5, f1, f2, f3, -⟩ := m_number d 1 99 d3
  rw [pU_n t] at f3
  obtain ⟨t6, g1, g2, g3⟩ := m_mustEnd d f3
  rw [pM_n t] at g3
  refine ⟨t6, cV_ev mi_211 ((u_211_82 d σ).trans ?_) rfl, (((((z2.tr a2).tr b2).tr c2).tr d2).tr f2).tr g2, g3⟩
  have a1 : cV sO (d + 3) 213 [.ref 82, .int 1] t0 = some t1 := a1
  rw [hm, h16, if_pos (show nI 16 = 16 from rfl), show (3 : Int32) = nI 3 from rfl, z1, Option.bind_some, a1, Option.bind_some, show nI 3 = (3 : Int32) from rfl, b1', Option.bind_some]
  (try simp only)
  rw [c1', Option.bind_some]
  (try simp only)
  rw [d1, Option.bind_some]
  (try simp only)
  rw [f1, Option.bind_some]
  (try simp only)
  rw [g1, Option.bind_some, if_neg (fun z => t ((c17 g3).mp z))]
