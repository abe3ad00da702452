/-! A KITCHEN'S TEXT: measures -/
/-- a measure's line -/
def rM1 (b : Nat → Int32) (n : Nat) (T : TK) : TK := pM b n (nmT b W1001 T) T
def rM2 (b : Nat → Int32) (n : Nat) (T : TK) : TK := pU b n 0 3 (rM1 b n T)
def rM3 (b : Nat → Int32) (n : Nat) (T : TK) : TK := pU b n 0 3 (rM2 b n T)
def rM4 (b : Nat → Int32) (n : Nat) (T : TK) : TK := pU b n 1800 2000 (rM3 b n T)
def rM5 (b : Nat → Int32) (n : Nat) (T : TK) : TK := pU b n 1 99 (rM4 b n T)
def rM (b : Nat → Int32) (n : Nat) (T : TK) : TK := pM b n ((rM5 b n T).2.2.1 = 4) (rM5 b n T)
abbrev vT (b : Nat → Int32) (T : TK) : Int32 := vl b T.2.2.2.1 T.2.2.2.2
/-- its four numbers -/
def rMv (b : Nat → Int32) (n : Nat) (T : TK) (r : Nat) : Int32 := if r = 0 then vT b (rM1 b n T) else if r = 1 then vT b (rM2 b n T) else if r = 2 then vT b (rM3 b n T) else vT b (rM4 b n T)
theorem rM_ok {b : Nat → Int32} {n : Nat} {T : TK} (h : (rM b n T).1 = 0) : (rM5 b n T).1 = 0 ∧ (rM4 b n T).1 = 0 ∧ (rM3 b n T).1 = 0 ∧ (rM2 b n T).1 = 0 ∧ (rM1 b n T).1 = 0 ∧ T.1 = 0 ∧ 1800 ≤ (rMv b n T 2).toInt ∧ (rMv b n T 2).toInt ≤ 2000 ∧ 1 ≤ (rMv b n T 3).toInt ∧ (rMv b n T 3).toInt ≤ 99 := by
  obtain ⟨h5, -⟩ := pM_ok h
  obtain ⟨h4, -, r4, -⟩ := pU_ok h5
  obtain ⟨h3, -, r3, -⟩ := pU_ok h4
  obtain ⟨h2, -, -, -⟩ := pU_ok h3
  obtain ⟨h1, -, -, -⟩ := pU_ok h2
  obtain ⟨h0, -⟩ := pM_ok h1
  exact ⟨h5, h4, h3, h2, h1, h0, r3.1, r3.2, r4.1, r4.2⟩
theorem rM_n {b : Nat → Int32} {n : Nat} {T : TK} (h : ¬ T.1 = 0) : rM b n T = T := by
  have e1 : rM1 b n T = T := pM_n h
  have e2 : rM2 b n T = T := by unfold rM2; rw [e1, pU_n h]
  have e3 : rM3 b n T = T := by unfold rM3; rw [e2, pU_n h]
  have e4 : rM4 b n T = T := by unfold rM4; rw [e3, pU_n h]
  have e5 : rM5 b n T = T := by unfold rM5; rw [e4, pU_n h]
  unfold rM
  simp only [e5]
  exact pM_n h
theorem s_passName1 (d : Nat) {σ : ax_S} {b : Nat → Int32} {n : Nat} {L : Int32} {T : TK} (h : CSt σ b n L T) : ∃ τ, cV sO (d + 5) 48 [.ref 5, .ref 1001] σ = some τ ∧ sm [5] σ τ ∧ CSt τ b n L (pM b n (nmT b W1001 T) T) := by
  obtain ⟨τ, e1, e2, e3⟩ := s_pass (d + 2) (nmT b W1001 T) h
  refine ⟨τ, cV_ev mi_48 ((u_48_5_1001 d σ).trans ?_) rfl, e2, e3⟩
  rw [s_atName_1001 d h.1 h.2.1 h.2.2.1 h.2.2.2.1 h.2.2.2.2.1, Option.bind_some]
  (try simp only)
  rw [e1, Option.bind_some]
/-- what a line leaves of the class's half-read kitchen -/
abbrev kfr (σ τ : ax_S) : Prop := sm [5, 52, 53, 54, 55, 56, 57, 58, 59, 60] σ τ
theorem s_readMeasure (d : Nat) {σ : ax_S} {b : Nat → Int32} {n m : Nat} {L : Int32} {T : TK} (h : CSt σ b n L T) (hm : σ.1 52 1 = nI m) (h16 : m < 16) : ∃ τ, cV sO (d + 6) 46 [.ref 52, .ref 5] σ = some τ ∧ sm [5, 52, 53, 54, 55, 56] σ τ ∧ CSt τ b n L (rM b n T) ∧ τ.1 52 1 = nI (m + 1) ∧ (∀ f, f ≠ 1 → τ.1 52 f = σ.1 52 f) ∧ (∀ r k, r < 4 → k ≠ m → τ.1 (53 + r) k = σ.1 (53 + r) k) ∧ ((rM b n T).1 = 0 → ∀ r, r < 4 → τ.1 (53 + r) m = rMv b n T r) := by
  have gm := nI_g h16 (N := 16) (by omega)
  have em := nI_c (show m < 2147483648 by omega)
  obtain ⟨t1, a1, a2, a3⟩ := s_passName1 d h
  have m1 : t1.1 52 1 = nI m := by rw [a2.1 52 (by decide)]; exact hm
  obtain ⟨v2, t2, b1', b2, b3, b4, -⟩ := s_passNumber (d + 2) 0 3 a3
  have m2 : (sI t2 53 m v2).1 52 1 = nI m := by rw [sI_n _ _ (by decide), b2.1 52 (by decide)]; exact m1
  obtain ⟨v3, t3, c1', c2, c3, c4, -⟩ := s_passNumber (d + 2) (σ := sI t2 53 m v2) 0 3 (CSt_c (sI_n _ _ (by decide)) (sI_n _ _ (by decide)) b3)
  have m3 : (sI t3 54 m v3).1 52 1 = nI m := by rw [sI_n _ _ (by decide), c2.1 52 (by decide)]; exact m2
  obtain ⟨v4, t4, d1, d2, d3, d4, -⟩ := s_passNumber (d + 2) (σ := sI t3 54 m v3) 1800 2000 (CSt_c (sI_n _ _ (by decide)) (sI_n _ _ (by decide)) c3)
  have m4 : (sI t4 55 m v4).1 52 1 = nI m := by rw [sI_n _ _ (by decide), d2.1 52 (by decide)]; exact m3
  obtain ⟨v5, t5, e1, e2, e3, e4, -⟩ := s_passNumber (d + 2) (σ := sI t4 55 m v4) 1 99 (CSt_c (sI_n _ _ (by decide)) (sI_n _ _ (by decide)) d3)
  have m5 : (sI t5 56 m v5).1 52 1 = nI m := by rw [sI_n _ _ (by decide), e2.1 52 (by decide)]; exact m4
  obtain ⟨t6, f1, f2, f3⟩ := s_passStop (d + 2) (σ := sI t5 56 m v5) (CSt_c (sI_n _ _ (by decide)) (sI_n _ _ (by decide)) e3)
  have m6 : t6.1 52 1 = nI m := by rw [f2.1 52 (by decide)]; exact m5
  have g5 : ∀ {α β : ax_S} {a : Nat}, sm [5] α β → a ≠ 5 → β.1 a = α.1 a := fun {α β a} hs ha => hs.1 a (by simp only [List.mem_cons, List.not_mem_nil, or_false]; exact ha)
  refine ⟨sI t6 52 1 (nI (m + 1)), cV_ev mi_46 ((u_46_52_5 d σ).trans ?_) rfl, ?_, CSt_c (sI_n _ _ (by decide)) (sI_n _ _ (by decide)) f3, sI_1 _ _ _ _, fun f hf => ?_, fun r k hr hk => ?_, fun hok r hr => ?_⟩
  · rw [hm, if_pos (show nI m < (16 : Int32) from nlt (N := 16) h16), a1, Option.bind_some, b1', Option.bind_some]
    simp only [m1, gd_t gm, em]
    rw [c1', Option.bind_some]
    simp only [m2, gd_t gm, em]
    rw [d1, Option.bind_some]
    simp only [m3, gd_t gm, em]
    rw [e1, Option.bind_some]
    simp only [m4, gd_t gm, em]
    rw [f1, Option.bind_some, m6, nI_add1]
  · exact ((((((a2.up (by decide)).tr (b2.up (by decide))).set _ _ (by decide)).tr (c2.up (by decide))).set _ _ (by decide)).tr (d2.up (by decide))).set _ _ (by decide) |>.tr (e2.up (by decide)) |>.set _ _ (by decide) |>.tr (f2.up (by decide)) |>.set _ _ (by decide)
  · rw [sI_k _ hf, g5 f2 (by decide), sI_n _ _ (by decide), g5 e2 (by decide), sI_n _ _ (by decide), g5 d2 (by decide), sI_n _ _ (by decide), g5 c2 (by decide), sI_n _ _ (by decide), g5 b2 (by decide), g5 a2 (by decide)]
  · have hr2 : r = 0 ∨ r = 1 ∨ r = 2 ∨ r = 3 := by omega
    obtain rfl | rfl | rfl | rfl := hr2
    · show (sI t6 52 1 (nI (m + 1))).1 53 k = σ.1 53 k
      rw [sI_n _ _ (by decide), g5 f2 (by decide), sI_n _ _ (by decide), g5 e2 (by decide), sI_n _ _ (by decide), g5 d2 (by decide), sI_n _ _ (by decide), g5 c2 (by decide), sI_k _ hk, g5 b2 (by decide), g5 a2 (by decide)]
    · show (sI t6 52 1 (nI (m + 1))).1 54 k = σ.1 54 k
      rw [sI_n _ _ (by decide), g5 f2 (by decide), sI_n _ _ (by decide), g5 e2 (by decide), sI_n _ _ (by decide), g5 d2 (by decide), sI_k _ hk, g5 c2 (by decide), sI_n _ _ (by decide), g5 b2 (by decide), g5 a2 (by decide)]
    · show (sI t6 52 1 (nI (m + 1))).1 55 k = σ.1 55 k
      rw [sI_n _ _ (by decide), g5 f2 (by decide), sI_n _ _ (by decide), g5 e2 (by decide), sI_k _ hk, g5 d2 (by decide), sI_n _ _ (by decide), g5 c2 (by decide), sI_n _ _ (by decide), g5 b2 (by decide), g5 a2 (by decide)]
    · show (sI t6 52 1 (nI (m + 1))).1 56 k = σ.1 56 k
      rw [sI_n _ _ (by decide), g5 f2 (by decide), sI_k _ hk, g5 e2 (by decide), sI_n _ _ (by decide), g5 d2 (by decide), sI_n _ _ (by decide), g5 c2 (by decide), sI_n _ _ (by decide), g5 b2 (by decide), g5 a2 (by decide)]
  · obtain ⟨k5, k4, k3, k2, k1, -⟩ := rM_ok hok
    have hr2 : r = 0 ∨ r = 1 ∨ r = 2 ∨ r = 3 := by omega
    obtain rfl | rfl | rfl | rfl := hr2
    · show (sI t6 52 1 (nI (m + 1))).1 53 m = vT b (rM1 b n T)
      rw [sI_n _ _ (by decide), g5 f2 (by decide), sI_n _ _ (by decide), g5 e2 (by decide), sI_n _ _ (by decide), g5 d2 (by decide), sI_n _ _ (by decide), g5 c2 (by decide), sI_1]
      exact b4 k2
    · show (sI t6 52 1 (nI (m + 1))).1 54 m = vT b (rM2 b n T)
      rw [sI_n _ _ (by decide), g5 f2 (by decide), sI_n _ _ (by decide), g5 e2 (by decide), sI_n _ _ (by decide), g5 d2 (by decide), sI_1]
      exact c4 k3
    · show (sI t6 52 1 (nI (m + 1))).1 55 m = vT b (rM3 b n T)
      rw [sI_n _ _ (by decide), g5 f2 (by decide), sI_n _ _ (by decide), g5 e2 (by decide), sI_1]
      exact d4 k4
    · show (sI t6 52 1 (nI (m + 1))).1 56 m = vT b (rM4 b n T)
      rw [sI_n _ _ (by decide), g5 f2 (by decide), sI_1]
      exact e4 k5
theorem m_readMeasure (d : Nat) {σ : ax_S} {b : Nat → Int32} {n m : Nat} {T : TK} (h : MSt σ b n T) (hm : σ.1 87 0 = nI m) (h16 : m < 16) (hw : nmT b W1001 T) : ∃ τ, cV sO (d + 4) 211 [.ref 82] σ = some τ ∧ sm [82, 87] σ τ ∧ (∀ f, nq f → τ.1 82 f = σ.1 82 f) ∧ MSt τ b n (rM b n T) ∧ ((rM b n T).1 = 0 → τ.1 87 0 = nI (m + 1) ∧ (∀ r, r < 4 → τ.1 87 (2 + 4 * m + r) = rMv b n T r) ∧ ∀ i, i ≠ 0 → (∀ r, r < 4 → i ≠ 2 + 4 * m + r) → τ.1 87 i = σ.1 87 i) := by
  obtain ⟨t1, a1, a2, a3⟩ := m_must (d + 1) True h
  have e1 : pM b n True T = rM1 b n T := by
    unfold rM1 pM
    rw [if_pos trivial, if_pos hw]
  rw [e1] at a3
  obtain ⟨v2, t2, b1', b2, b3, b4⟩ := m_number d 0 3 a3
  obtain ⟨v3, t3, c1', c2, c3, c4⟩ := m_number d 0 3 b3
  obtain ⟨v4, t4, d1, d2, d3, d4⟩ := m_number d 1800 2000 c3
  obtain ⟨v5, t5, f1, f2, f3, f4⟩ := m_number d 1 99 d3
  obtain ⟨t6, g1, g2, g3⟩ := m_mustEnd d f3
  have fr : mfr σ t6 := ((((a2.tr b2).tr c2).tr d2).tr f2).tr g2
  have n16 : ¬ nI m = 16 := fun q => by
    have := nI_inj (b := 16) (by omega) (by omega) q
    omega
  have m1 : t1.1 87 0 = nI m := by rw [a2.1.1 87 (by decide)]; exact hm
  have i0 : (2 : Int32) + 4 * nI m = nI (2 + 4 * m) := nI_lin (a := 2) (b := 4) (by omega) (by omega) (by omega)
  have i1 : nI (2 + 4 * m) + 1 = nI (2 + 4 * m + 1) := nI_add1 _
  have i2 : nI (2 + 4 * m) + 2 = nI (2 + 4 * m + 2) := nI_pl (b := 2) (by omega)
  have i3 : nI (2 + 4 * m) + 3 = nI (2 + 4 * m + 3) := nI_pl (b := 3) (by omega)
  have base : ∀ τ, (if (t6.1 82 17) = 0 then some ((none : Option Value), (sI (sI (sI (sI (sI t6 87 (2 + 4 * m) v2) 87 (2 + 4 * m + 1) v3) 87 (2 + 4 * m + 2) v4) 87 (2 + 4 * m + 3) v5) 87 0 (nI (m + 1)))) else some (none, t6)) = some (none, τ) → cV sO (d + 4) 211 [.ref 82] σ = some τ := fun τ hτ => by
    refine cV_ev mi_211 ((u_211_82 d σ).trans ?_) rfl
    have m6 : t6.1 87 0 = nI m := by rw [fr.1.1 87 (by decide)]; exact hm
    have a1 : cV sO (d + 3) 213 [.ref 82, .int 1] σ = some t1 := a1
    rw [hm, if_neg n16, a1, Option.bind_some, b1', Option.bind_some]
    (try simp only)
    rw [c1', Option.bind_some]
    (try simp only)
    rw [d1, Option.bind_some]
    (try simp only)
    rw [f1, Option.bind_some]
    (try simp only)
    rw [g1, Option.bind_some, m1]
    simp only [i0, i1, i2, i3, gd_t (nI_g (show 2 + 4 * m < 102 by omega) (by omega)), gd_t (nI_g (show 2 + 4 * m + 1 < 102 by omega) (by omega)), gd_t (nI_g (show 2 + 4 * m + 2 < 102 by omega) (by omega)), gd_t (nI_g (show 2 + 4 * m + 3 < 102 by omega) (by omega)), nI_c (show 2 + 4 * m < 2147483648 by omega), nI_c (show 2 + 4 * m + 1 < 2147483648 by omega), nI_c (show 2 + 4 * m + 2 < 2147483648 by omega), nI_c (show 2 + 4 * m + 3 < 2147483648 by omega)]
    rw [sI_k (j := 0) _ (by omega), sI_k (j := 0) _ (by omega), sI_k (j := 0) _ (by omega), sI_k (j := 0) _ (by omega), m6, nI_add1]
    exact hτ
  by_cases hok : (rM b n T).1 = 0
  · obtain ⟨k5, k4, k3, k2, k1, -⟩ := rM_ok hok
    refine ⟨_, base _ (if_pos ((c17 g3).mpr hok)), (((((fr.1.up (by decide)).set _ _ (by decide)).set _ _ (by decide)).set _ _ (by decide)).set _ _ (by decide)).set _ _ (by decide), fun f hf => by rw [sI_n _ _ (by decide), sI_n _ _ (by decide), sI_n _ _ (by decide), sI_n _ _ (by decide), sI_n _ _ (by decide)]; exact fr.2 f hf, MSt_c (by rw [sI_n _ _ (by decide), sI_n _ _ (by decide), sI_n _ _ (by decide), sI_n _ _ (by decide), sI_n _ _ (by decide)]) (by rw [sI_n _ _ (by decide), sI_n _ _ (by decide), sI_n _ _ (by decide), sI_n _ _ (by decide), sI_n _ _ (by decide)]) g3, fun _ => ⟨sI_1 _ _ _ _, fun r hr => ?_, fun i h0 hi => ?_⟩⟩
    · have hr2 : r = 0 ∨ r = 1 ∨ r = 2 ∨ r = 3 := by omega
      obtain rfl | rfl | rfl | rfl := hr2
      · rw [sI_k _ (by omega), sI_k _ (by omega), sI_k _ (by omega), sI_k _ (by omega)]
        show (sI t6 87 (2 + 4 * m) v2).1 87 (2 + 4 * m) = vT b (rM1 b n T)
        rw [sI_1]
        exact b4 k2
      · rw [sI_k _ (by omega), sI_k _ (by omega), sI_k _ (by omega), sI_1]
        exact c4 k3
      · rw [sI_k _ (by omega), sI_k _ (by omega), sI_1]
        exact d4 k4
      · rw [sI_k _ (by omega), sI_1]
        exact f4 k5
    · have q0 := hi 0 (by omega)
      have q1 := hi 1 (by omega)
      have q2 := hi 2 (by omega)
      have q3 := hi 3 (by omega)
      rw [sI_k _ h0, sI_k _ q3, sI_k _ q2, sI_k _ q1, sI_k _ q0, fr.1.1 87 (by decide)]
  · exact ⟨t6, base _ (if_neg (fun q => hok ((c17 g3).mp q))), fr.1.up (by decide), fr.2, g3, fun q => absurd q hok⟩
