/-! A KITCHEN'S TEXT: packets -/
def rPP (b : Nat → Int32) (n : Nat) (T T1 T2 T3 T4 T5 : TK) : Prop := T1 = pM b n (nmT b W1002 T) T ∧ T2 = pU b n 0 7 T1 ∧ T3 = pU b n 1800 2000 T2 ∧ T4 = pU b n (vT b T2) 2000 T3 ∧ T5 = pM b n (T4.2.2.1 = 4) T4
def rPv (b : Nat → Int32) (T1 T2 T3 : TK) (r : Nat) : Int32 := if r = 0 then vT b T1 else if r = 1 then vT b T2 else vT b T3
theorem rPP_ex (b : Nat → Int32) (n : Nat) (T : TK) : ∃ T1 T2 T3 T4 T5, rPP b n T T1 T2 T3 T4 T5 := ⟨_, _, _, _, _, rfl, rfl, rfl, rfl, rfl⟩
theorem rP_ok {b : Nat → Int32} {n : Nat} {T T1 T2 T3 T4 T5 : TK} (q : rPP b n T T1 T2 T3 T4 T5) (h : T5.1 = 0) : T4.1 = 0 ∧ T3.1 = 0 ∧ T2.1 = 0 ∧ T1.1 = 0 ∧ T.1 = 0 ∧ (0 ≤ (vT b T1).toInt ∧ (vT b T1).toInt ≤ 7) ∧ (1800 ≤ (vT b T2).toInt ∧ (vT b T2).toInt ≤ 2000) ∧ (1800 ≤ (vT b T3).toInt ∧ (vT b T3).toInt ≤ 2000) := by
  obtain ⟨q1, q2, q3, q4, q5⟩ := q
  rw [q5] at h
  have h4 := (pM_ok h).1
  clear h
  have h3 := pU_ok (show (pU b n (vT b T2) 2000 T3).1 = 0 by rw [← q4]; exact h4)
  have h2 := pU_ok (show (pU b n 1800 2000 T2).1 = 0 by rw [← q3]; exact h3.1)
  have h1 := pU_ok (show (pU b n 0 7 T1).1 = 0 by rw [← q2]; exact h2.1)
  have h0 := pM_ok (show (pM b n (nmT b W1002 T) T).1 = 0 by rw [← q1]; exact h1.1)
  have e1 : (1800 : Int32).toInt = 1800 := by decide
  have e2 : (2000 : Int32).toInt = 2000 := by decide
  have e3 : (7 : Int32).toInt = 7 := by decide
  have r1 := h1.2.2.1
  have r2 := h2.2.2.1
  have r3 := h3.2.2.1
  rw [i_0, e3] at r1
  rw [e1, e2] at r2
  rw [e2] at r3
  exact ⟨h4, h3.1, h2.1, h1.1, h0.1, r1, r2, ⟨Int.le_trans r2.1 r3.1, r3.2⟩⟩
theorem rP_n {b : Nat → Int32} {n : Nat} {T T1 T2 T3 T4 T5 : TK} (q : rPP b n T T1 T2 T3 T4 T5) (h : ¬ T.1 = 0) : T5 = T := by
  obtain ⟨q1, q2, q3, q4, q5⟩ := q
  rw [pM_n h] at q1
  subst q1
  rw [pU_n h] at q2
  subst q2
  rw [pU_n h] at q3
  subst q3
  rw [pU_n h] at q4
  subst q4
  rw [pM_n h] at q5
  exact q5
theorem s_nm2 (d : Nat) {σ : ax_S} {b : Nat → Int32} {n : Nat} {L : Int32} {T : TK} (h : CSt σ b n L T) : cI sO (d + 4) 38 [.ref 5, .ref 1002] σ = some (bi (nmT b W1002 T), σ) := s_atName_1002 d h.1 h.2.1 h.2.2.1 h.2.2.2.1 h.2.2.2.2.1
theorem s_passName2 (d : Nat) {σ : ax_S} {b : Nat → Int32} {n : Nat} {L : Int32} {T : TK} (h : CSt σ b n L T) : ∃ τ, cV sO (d + 5) 48 [.ref 5, .ref 1002] σ = some τ ∧ sm [5] σ τ ∧ CSt τ b n L (pM b n (nmT b W1002 T) T) := by
  obtain ⟨τ, e1, e2, e3⟩ := s_pass (d + 2) (nmT b W1002 T) h
  refine ⟨τ, cV_ev mi_48 ((u_48_5_1002 d σ).trans ?_) rfl, e2, e3⟩
  rw [s_nm2 d h, Option.bind_some]
  (try simp only)
  rw [e1, Option.bind_some]
theorem pU_same {b : Nat → Int32} {n : Nat} {T : TK} {v w hi : Int32} (h : T.1 = 0 → v = w) : pU b n v hi T = pU b n w hi T := by
  by_cases t : T.1 = 0
  · rw [h t]
  · rw [pU_n t, pU_n t]
abbrev l5259 : List Nat := [5, 52, 57, 58, 59]
theorem s_readPacket (d : Nat) {σ : ax_S} {b : Nat → Int32} {n m : Nat} {L : Int32} {T T1 T2 T3 T4 T5 : TK} (q : rPP b n T T1 T2 T3 T4 T5) (h : CSt σ b n L T) (hm : σ.1 52 6 = nI m) (h8 : m < 8) : ∃ τ, cV sO (d + 6) 55 [.ref 52, .ref 5] σ = some τ ∧ sm l5259 σ τ ∧ CSt τ b n L T5 ∧ τ.1 52 6 = nI (m + 1) ∧ (∀ f, f ≠ 6 → τ.1 52 f = σ.1 52 f) ∧ (∀ r k, r < 3 → k ≠ m → τ.1 (57 + r) k = σ.1 (57 + r) k) ∧ (T5.1 = 0 → ∀ r, r < 3 → τ.1 (57 + r) m = rPv b T1 T2 T3 r) := by
  have gm := nI_g h8 (N := 8) (by omega)
  have em := nI_c (show m < 2147483648 by omega)
  have qq := q
  obtain ⟨q1, q2, q3, q4, q5⟩ := q
  obtain ⟨t1, a1, a2, a3⟩ := s_passName2 d h
  rw [← q1] at a3
  have m1 : t1.1 52 6 = nI m := by rw [a2.1 52 (by decide)]; exact hm
  obtain ⟨v2, t2, b1', b2, b3, b4, -⟩ := s_passNumber (d + 2) 0 7 a3
  rw [← q2] at b3 b4
  have m2 : (sI t2 57 m v2).1 52 6 = nI m := by rw [sI_n _ _ (by decide), b2.1 52 (by decide)]; exact m1
  obtain ⟨v3, t3, c1', c2, c3, c4, -⟩ := s_passNumber (d + 2) (σ := sI t2 57 m v2) 1800 2000 (CSt_c (sI_n _ _ (by decide)) (sI_n _ _ (by decide)) b3)
  rw [← q3] at c3 c4
  have m3 : (sI t3 58 m v3).1 52 6 = nI m := by rw [sI_n _ _ (by decide), c2.1 52 (by decide)]; exact m2
  have f58 : (sI t3 58 m v3).1 58 m = v3 := sI_1 _ _ _ _
  obtain ⟨v4, t4, d1, d2, d3, d4, -⟩ := s_passNumber (d + 2) (σ := sI t3 58 m v3) v3 2000 (CSt_c (sI_n _ _ (by decide)) (sI_n _ _ (by decide)) c3)
  rw [pU_same c4, ← q4] at d3 d4
  have m4 : (sI t4 59 m v4).1 52 6 = nI m := by rw [sI_n _ _ (by decide), d2.1 52 (by decide)]; exact m3
  obtain ⟨t6, f1, f2, f3⟩ := s_passStop (d + 2) (σ := sI t4 59 m v4) (CSt_c (sI_n _ _ (by decide)) (sI_n _ _ (by decide)) d3)
  rw [← q5] at f3
  have m6 : t6.1 52 6 = nI m := by rw [f2.1 52 (by decide)]; exact m4
  have g5 : ∀ {α β : ax_S} {a : Nat}, sm [5] α β → a ≠ 5 → β.1 a = α.1 a := fun {α β a} hs ha => hs.1 a (by simp only [List.mem_cons, List.not_mem_nil, or_false]; exact ha)
  refine ⟨sI t6 52 6 (nI (m + 1)), cV_ev mi_55 ((u_55_52_5 d σ).trans ?_) rfl, ?_, CSt_c (sI_n _ _ (by decide)) (sI_n _ _ (by decide)) f3, sI_1 _ _ _ _, fun f hf => ?_, fun r k hr hk => ?_, fun hok r hr => ?_⟩
  · rw [hm, if_pos (show nI m < (8 : Int32) from nlt (N := 8) h8), a1, Option.bind_some, b1', Option.bind_some]
    simp only [m1, gd_t gm, em]
    rw [c1', Option.bind_some]
    simp only [m2, gd_t gm, em]
    simp only [m3, gd_t gm, em, f58]
    rw [d1, Option.bind_some]
    simp only [m3, gd_t gm, em]
    rw [f1, Option.bind_some, m6, nI_add1]
  · exact (((a2.up (by decide)).tr (b2.up (by decide))).set _ _ (by decide)).tr (c2.up (by decide)) |>.set _ _ (by decide) |>.tr (d2.up (by decide)) |>.set _ _ (by decide) |>.tr (f2.up (by decide)) |>.set _ _ (by decide)
  · rw [sI_k _ hf, g5 f2 (by decide), sI_n _ _ (by decide), g5 d2 (by decide), sI_n _ _ (by decide), g5 c2 (by decide), sI_n _ _ (by decide), g5 b2 (by decide), g5 a2 (by decide)]
  · have hr2 : r = 0 ∨ r = 1 ∨ r = 2 := by omega
    obtain rfl | rfl | rfl := hr2
    · show (sI t6 52 6 (nI (m + 1))).1 57 k = σ.1 57 k
      rw [sI_n _ _ (by decide), g5 f2 (by decide), sI_n _ _ (by decide), g5 d2 (by decide), sI_n _ _ (by decide), g5 c2 (by decide), sI_k _ hk, g5 b2 (by decide), g5 a2 (by decide)]
    · show (sI t6 52 6 (nI (m + 1))).1 58 k = σ.1 58 k
      rw [sI_n _ _ (by decide), g5 f2 (by decide), sI_n _ _ (by decide), g5 d2 (by decide), sI_k _ hk, g5 c2 (by decide), sI_n _ _ (by decide), g5 b2 (by decide), g5 a2 (by decide)]
    · show (sI t6 52 6 (nI (m + 1))).1 59 k = σ.1 59 k
      rw [sI_n _ _ (by decide), g5 f2 (by decide), sI_k _ hk, g5 d2 (by decide), sI_n _ _ (by decide), g5 c2 (by decide), sI_n _ _ (by decide), g5 b2 (by decide), g5 a2 (by decide)]
  · obtain ⟨k4, k3, k2, k1, -⟩ := rP_ok qq hok
    have hr2 : r = 0 ∨ r = 1 ∨ r = 2 := by omega
    obtain rfl | rfl | rfl := hr2
    · show (sI t6 52 6 (nI (m + 1))).1 57 m = vT b T1
      rw [sI_n _ _ (by decide), g5 f2 (by decide), sI_n _ _ (by decide), g5 d2 (by decide), sI_n _ _ (by decide), g5 c2 (by decide), sI_1]
      exact b4 k2
    · show (sI t6 52 6 (nI (m + 1))).1 58 m = vT b T2
      rw [sI_n _ _ (by decide), g5 f2 (by decide), sI_n _ _ (by decide), g5 d2 (by decide), sI_1]
      exact c4 k3
    · show (sI t6 52 6 (nI (m + 1))).1 59 m = vT b T3
      rw [sI_n _ _ (by decide), g5 f2 (by decide), sI_1]
      exact d4 k4
theorem m_readPacket (d : Nat) {σ : ax_S} {b : Nat → Int32} {n m : Nat} {T T1 T2 T3 T4 T5 : TK} (q : rPP b n T T1 T2 T3 T4 T5) (h : MSt σ b n T) (hm : σ.1 87 1 = nI m) (h8 : m < 8) (hw : nmT b W1002 T) : ∃ τ, cV sO (d + 4) 217 [.ref 82] σ = some τ ∧ sm [82, 87] σ τ ∧ (∀ f, nq f → τ.1 82 f = σ.1 82 f) ∧ MSt τ b n T5 ∧ (T5.1 = 0 → τ.1 87 1 = nI (m + 1) ∧ (∀ r, r < 3 → τ.1 87 (66 + 3 * m + r) = rPv b T1 T2 T3 r) ∧ ∀ i, i ≠ 1 → (∀ r, r < 3 → i ≠ 66 + 3 * m + r) → τ.1 87 i = σ.1 87 i) := by
  obtain ⟨t1, a1, a2, a3⟩ := m_must (d + 1) True h
  have qq := q
  obtain ⟨q1, q2, q3, q4, q5⟩ := q
  have e1 : pM b n True T = T1 := by
    rw [q1]
    unfold pM
    rw [if_pos trivial, if_pos hw]
  rw [e1] at a3
  obtain ⟨v2, t2, b1', b2, b3, b4⟩ := m_number d 0 7 a3
  rw [← q2] at b3 b4
  obtain ⟨v3, t3, c1', c2, c3, c4⟩ := m_number d 1800 2000 b3
  rw [← q3] at c3 c4
  have num : ∃ v4 t4, (if (t3.1 82 17) = 0 then cI sO (d + 3) 214 [.ref 82, .int v3, .int 2000] t3 else cI sO (d + 3) 214 [.ref 82, .int 0, .int 2000] t3) = some (v4, t4) ∧ mfr t3 t4 ∧ MSt t4 b n T4 ∧ (T4.1 = 0 → v4 = vT b T3) := by
    by_cases t : T3.1 = 0
    · obtain ⟨v4, t4, d1, d2, d3, d4⟩ := m_number d v3 2000 c3
      rw [pU_same c4, ← q4] at d3 d4
      exact ⟨v4, t4, by rw [if_pos ((c17 c3).mpr t)]; exact d1, d2, d3, d4⟩
    · obtain ⟨v4, t4, d1, d2, d3, d4⟩ := m_number d 0 2000 c3
      rw [pU_same (w := vT b T2) (fun z => absurd z t), ← q4] at d3 d4
      exact ⟨v4, t4, by rw [if_neg (fun z => t ((c17 c3).mp z))]; exact d1, d2, d3, d4⟩
  obtain ⟨v4, t4, d1, d2, d3, d4⟩ := num
  obtain ⟨t6, g1, g2, g3⟩ := m_mustEnd d d3
  rw [← q5] at g3
  have fr : mfr σ t6 := (((a2.tr b2).tr c2).tr d2).tr g2
  have n8 : ¬ nI m = 8 := fun q => by
    have := nI_inj (b := 8) (by omega) (by omega) q
    omega
  have m1 : t1.1 87 1 = nI m := by rw [a2.1.1 87 (by decide)]; exact hm
  have i0 : (66 : Int32) + 3 * nI m = nI (66 + 3 * m) := nI_lin (a := 66) (b := 3) (by omega) (by omega) (by omega)
  have i1 : nI (66 + 3 * m) + 1 = nI (66 + 3 * m + 1) := nI_add1 _
  have i2 : nI (66 + 3 * m) + 2 = nI (66 + 3 * m + 2) := nI_pl (b := 2) (by omega)
  have base : ∀ τ, (if (t6.1 82 17) = 0 then some ((none : Option Value), (sI (sI (sI (sI t6 87 (66 + 3 * m) v2) 87 (66 + 3 * m + 1) v3) 87 (66 + 3 * m + 2) v4) 87 1 (nI (m + 1)))) else some (none, t6)) = some (none, τ) → cV sO (d + 4) 217 [.ref 82] σ = some τ := fun τ hτ => by
    refine cV_ev mi_217 ((u_217_82 d σ).trans ?_) rfl
    have m6 : t6.1 87 1 = nI m := by rw [fr.1.1 87 (by decide)]; exact hm
    have a1 : cV sO (d + 3) 213 [.ref 82, .int 1] σ = some t1 := a1
    rw [hm, if_neg n8, a1, Option.bind_some, b1', Option.bind_some]
    (try simp only)
    rw [c1', Option.bind_some]
    simp only [m1, i0, i1, i2, gd_t (nI_g (show 66 + 3 * m < 102 by omega) (by omega)), gd_t (nI_g (show 66 + 3 * m + 1 < 102 by omega) (by omega)), gd_t (nI_g (show 66 + 3 * m + 2 < 102 by omega) (by omega)), nI_c (show 66 + 3 * m < 2147483648 by omega), nI_c (show 66 + 3 * m + 1 < 2147483648 by omega), nI_c (show 66 + 3 * m + 2 < 2147483648 by omega)]
    by_cases t : (t3.1 82 17) = 0
    · rw [if_pos t]
      rw [if_pos t] at d1
      rw [d1, Option.bind_some]
      (try simp only)
      rw [g1, Option.bind_some, sI_k (j := 1) _ (by omega), sI_k (j := 1) _ (by omega), sI_k (j := 1) _ (by omega), m6, nI_add1]
      exact hτ
    · rw [if_neg t]
      rw [if_neg t] at d1
      rw [d1, Option.bind_some]
      (try simp only)
      rw [g1, Option.bind_some, sI_k (j := 1) _ (by omega), sI_k (j := 1) _ (by omega), sI_k (j := 1) _ (by omega), m6, nI_add1]
      exact hτ
  by_cases hok : T5.1 = 0
  · obtain ⟨k4, k3, k2, k1, -⟩ := rP_ok qq hok
    refine ⟨_, base _ (if_pos ((c17 g3).mpr hok)), ((((fr.1.up (by decide)).set _ _ (by decide)).set _ _ (by decide)).set _ _ (by decide)).set _ _ (by decide), fun f hf => by rw [sI_n _ _ (by decide), sI_n _ _ (by decide), sI_n _ _ (by decide), sI_n _ _ (by decide)]; exact fr.2 f hf, MSt_c (by rw [sI_n _ _ (by decide), sI_n _ _ (by decide), sI_n _ _ (by decide), sI_n _ _ (by decide)]) (by rw [sI_n _ _ (by decide), sI_n _ _ (by decide), sI_n _ _ (by decide), sI_n _ _ (by decide)]) g3, fun _ => ⟨sI_1 _ _ _ _, fun r hr => ?_, fun i h0 hi => ?_⟩⟩
    · have hr2 : r = 0 ∨ r = 1 ∨ r = 2 := by omega
      obtain rfl | rfl | rfl := hr2
      · rw [sI_k _ (by omega), sI_k _ (by omega), sI_k _ (by omega)]
        show (sI t6 87 (66 + 3 * m) v2).1 87 (66 + 3 * m) = vT b T1
        rw [sI_1]
        exact b4 k2
      · rw [sI_k _ (by omega), sI_k _ (by omega), sI_1]
        exact c4 k3
      · rw [sI_k _ (by omega), sI_1]
        exact d4 k4
    · have q0 : i ≠ 66 + 3 * m := hi 0 (by omega)
      have q1 := hi 1 (by omega)
      have q2 := hi 2 (by omega)
      rw [sI_k _ h0, sI_k _ q2, sI_k _ q1, sI_k _ q0, fr.1.1 87 (by decide)]
  · exact ⟨t6, base _ (if_neg (fun q => hok ((c17 g3).mp q))), fr.1.up (by decide), fr.2, g3, fun q => absurd q hok⟩
theorem s_readPacket8 (d : Nat) {σ : ax_S} {b : Nat → Int32} {n m : Nat} {L : Int32} {T : TK} (h : CSt σ b n L T) (hm : σ.1 52 6 = nI m) (h8 : m = 8) : ∃ τ, cV sO (d + 6) 55 [.ref 52, .ref 5] σ = some τ ∧ sm [5] σ τ ∧ CSt τ b n L (pB 3 T) := by
  obtain ⟨τ, e1, e2, e3⟩ := s_blame (d + 5) h (j := 3) (by omega) (by omega)
  refine ⟨τ, cV_ev mi_55 ((u_55_52_5 d σ).trans ?_) rfl, e2, e3⟩
  rw [hm, h8, if_neg (show ¬ nI 8 < (8 : Int32) from nnl (N := 8) (Nat.le_refl _)), show (3 : Int32) = nI 3 from rfl, e1, Option.bind_some]
theorem m_readPacket8 (d : Nat) {σ : ax_S} {b : Nat → Int32} {n m : Nat} {T : TK} (h : MSt σ b n T) (hm : σ.1 87 1 = nI m) (h8 : m = 8) : ∃ τ, cV sO (d + 4) 217 [.ref 82] σ = some τ ∧ mfr σ τ ∧ MSt τ b n (pB 3 T) := by
  obtain ⟨t0, z1, z2, z3⟩ := m_bad (d + 3) h (j := 3) (by omega) (by omega)
  have t : ¬ (pB 3 T).1 = 0 := by
    by_cases t : T.1 = 0
    · rw [pB_0 t]; simp only; omega
    · rw [pB_n t]; exact t
  generalize pB 3 T = U at t z3 ⊢
  obtain ⟨t1, a1, a2, a3⟩ := m_must (d + 1) True z3
  rw [pM_n t] at a3
  obtain ⟨v2, t2, b1', b2, b3, -⟩ := m_number d 0 7 a3
  rw [pU_n t] at b3
  obtain ⟨v3, t3, c1', c2, c3, -⟩ := m_number d 1800 2000 b3
  rw [pU_n t] at c3
  obtain ⟨v4, t4, d1, d2, d3, -⟩ := m_number d 0 2000 c3
  rw [pU_n t] at d3
  obtain ⟨t6, g1, g2, g3⟩ := m_mustEnd d d3
  rw [pM_n t] at g3
  refine ⟨t6, cV_ev mi_217 ((u_217_82 d σ).trans ?_) rfl, ((((z2.tr a2).tr b2).tr c2).tr d2).tr g2, g3⟩
  have a1 : cV sO (d + 3) 213 [.ref 82, .int 1] t0 = some t1 := a1
  have z1 : cV sO (d + 3) 212 [.ref 82, .int 3] σ = some t0 := z1
  rw [hm, h8, if_pos (show nI 8 = 8 from rfl), z1, Option.bind_some, a1, Option.bind_some, b1', Option.bind_some]
  (try simp only)
  rw [c1', Option.bind_some]
  (try simp only)
  rw [if_neg (fun z => t ((c17 c3).mp z)), d1, Option.bind_some]
  (try simp only)
  rw [g1, Option.bind_some, if_neg (fun z => t ((c17 g3).mp z))]
