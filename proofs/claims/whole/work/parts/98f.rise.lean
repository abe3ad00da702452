/-! A KITCHEN'S TEXT: how it rises, its end -/
def hiR (k : Nat) : Int32 := if k < 9 then 9 else if k < 11 then 99 else 9999
def rRP (b : Nat → Int32) (n : Nat) (T : TK) (U : Nat → TK) (Te : TK) : Prop := U 0 = pM b n (nmT b W1003 T) T ∧ (∀ k, k < 12 → U (k + 1) = pU b n 0 (hiR k) (U k)) ∧ Te = pM b n ((U 12).2.2.1 = 4) (U 12)
theorem rRP_ex (b : Nat → Int32) (n : Nat) (T : TK) : ∃ U Te, rRP b n T U Te := by
  refine ⟨fun k => it (fun k u => pU b n 0 (hiR k) u) k (pM b n (nmT b W1003 T) T), _, rfl, fun k _ => ?_, rfl⟩
  exact it_s _ _ _
theorem rR_ok {b : Nat → Int32} {n : Nat} {T : TK} {U : Nat → TK} {Te : TK} (q : rRP b n T U Te) {k : Nat} (hk : k < 12) (h : (U (k + 1)).1 = 0) : (U k).1 = 0 ∧ rgP 0 (hiR k).toInt (vT b (U k)) := by
  rw [q.2.1 k hk] at h
  have := pU_ok h
  rw [i_0] at this
  exact ⟨this.1, this.2.2.1⟩
theorem s_readRise (d : Nat) {σ : ax_S} {b : Nat → Int32} {n : Nat} {L : Int32} {T : TK} {U : Nat → TK} {Te : TK} (q : rRP b n T U Te) (h : CSt σ b n L T) : ∃ τ, cV sO (d + 6) 56 [.ref 52, .ref 5] σ = some τ ∧ sm [5, 52, 60] σ τ ∧ (∀ f, f < 11 → τ.1 52 f = σ.1 52 f) ∧ CSt τ b n L Te ∧ (Te.1 = 0 → (∀ j, j < 8 → τ.1 60 j = vT b (U j)) ∧ τ.1 52 11 = vT b (U 8) ∧ τ.1 52 12 = vT b (U 9) ∧ τ.1 52 13 = vT b (U 10) ∧ τ.1 52 14 = vT b (U 11)) := by
  have qq := q
  obtain ⟨q0, q1, q2⟩ := q
  have pn : ∃ τ, cV sO (d + 5) 48 [.ref 5, .ref 1003] σ = some τ ∧ sm [5] σ τ ∧ CSt τ b n L (U 0) := by
    obtain ⟨τ, e1, e2, e3⟩ := s_pass (d + 2) (nmT b W1003 T) h
    refine ⟨τ, cV_ev mi_48 ((u_48_5_1003 d σ).trans ?_) rfl, e2, by rw [q0]; exact e3⟩
    rw [s_atName_1003 d h.1 h.2.1 h.2.2.1 h.2.2.2.1 h.2.2.2.2.1, Option.bind_some]
    (try simp only)
    rw [e1, Option.bind_some]
  obtain ⟨τ0, a1, a2, a3⟩ := pn
  obtain ⟨τ1, ⟨p1, p2, p3⟩, e1⟩ := loop_P (E := fun k (τ : ax_S) => ev sO (d + 6) 56 8 [.ref 52, .ref 5, .int (nI k)] [] τ) (N := 8) (P := fun k τ => sm [5, 60] τ0 τ ∧ CSt τ b n L (U k) ∧ ((U k).1 = 0 → ∀ j, j < k → τ.1 60 j = vT b (U j))) (fun k τ hk hp => by
    obtain ⟨p1, p2, p3⟩ := hp
    obtain ⟨v, t2, b1', b2, b3, b4, -⟩ := s_passNumber (d + 2) 0 9 p2
    have hh : hiR k = 9 := if_pos (by omega)
    rw [← hh, ← q1 k (by omega)] at b3 b4
    refine ⟨sI t2 60 k v, ⟨(p1.tr (b2.up (by decide))).set _ _ (by decide), CSt_c (sI_n _ _ (by decide)) (sI_n _ _ (by decide)) b3, fun z j hj => ?_⟩, ?_⟩
    · by_cases y : j = k
      · rw [y, sI_1]
        exact b4 z
      · rw [sI_k _ y, b2.1 60 (by decide)]
        exact p3 (rR_ok qq (by omega) z).1 j (by omega)
    · rw [u_56_52_5p8, if_pos (l8 hk), b1', Option.bind_some, gd_t (nI_g hk (by omega)), nI_add1, nI_c (by omega)]) τ0 ⟨sm.rf _ _, a3, fun _ j hj => absurd hj (Nat.not_lt_zero j)⟩
  obtain ⟨v2, t2, b1', b2, b3, b4, -⟩ := s_passNumber (d + 2) 0 9 p2
  rw [show (9 : Int32) = hiR 8 from rfl, ← q1 8 (by omega)] at b3 b4
  obtain ⟨v3, t3, c1', c2, c3, c4, -⟩ := s_passNumber (d + 2) (σ := sI t2 52 11 v2) 0 99 (CSt_c (sI_n _ _ (by decide)) (sI_n _ _ (by decide)) b3)
  rw [show (99 : Int32) = hiR 9 from rfl, ← q1 9 (by omega)] at c3 c4
  obtain ⟨v4, t4, d1, d2, d3, d4, -⟩ := s_passNumber (d + 2) (σ := sI t3 52 12 v3) 0 99 (CSt_c (sI_n _ _ (by decide)) (sI_n _ _ (by decide)) c3)
  rw [show (99 : Int32) = hiR 10 from rfl, ← q1 10 (by omega)] at d3 d4
  obtain ⟨v5, t5, f1, f2, f3, f4, -⟩ := s_passNumber (d + 2) (σ := sI t4 52 13 v4) 0 9999 (CSt_c (sI_n _ _ (by decide)) (sI_n _ _ (by decide)) d3)
  rw [show (9999 : Int32) = hiR 11 from rfl, ← q1 11 (by omega)] at f3 f4
  obtain ⟨t6, g1, g2, g3⟩ := s_passStop (d + 2) (σ := sI t5 52 14 v5) (CSt_c (sI_n _ _ (by decide)) (sI_n _ _ (by decide)) f3)
  rw [← q2] at g3
  have g5 : ∀ {α β : ax_S} {a : Nat}, sm [5] α β → a ≠ 5 → β.1 a = α.1 a := fun {α β a} hs ha => hs.1 a (by simp only [List.mem_cons, List.not_mem_nil, or_false]; exact ha)
  refine ⟨t6, cV_ev mi_56 ((u_56_52_5 d σ).trans ?_) rfl, ?_, fun f hf => ?_, g3, fun z => ⟨fun j hj => ?_, ?_, ?_, ?_, ?_⟩⟩
  · rw [a1, Option.bind_some]
    refine Eq.trans e1 ?_
    rw [u_56_52_5p8, if_neg g8, b1', Option.bind_some]
    (try simp only)
    rw [c1', Option.bind_some]
    (try simp only)
    rw [d1, Option.bind_some]
    (try simp only)
    rw [f1, Option.bind_some]
    (try simp only)
    rw [g1, Option.bind_some]
  · exact (a2.up (by decide)).tr (p1.up (by decide)) |>.tr (b2.up (by decide)) |>.set _ _ (by decide) |>.tr (c2.up (by decide)) |>.set _ _ (by decide) |>.tr (d2.up (by decide)) |>.set _ _ (by decide) |>.tr (f2.up (by decide)) |>.set _ _ (by decide) |>.tr (g2.up (by decide))
  · rw [g5 g2 (by decide), sI_k _ (by omega), g5 f2 (by decide), sI_k _ (by omega), g5 d2 (by decide), sI_k _ (by omega), g5 c2 (by decide), sI_k _ (by omega), g5 b2 (by decide), p1.1 52 (by decide), g5 a2 (by decide)]
  all_goals rw [q2] at z
  all_goals have z12 := (pM_ok z).1
  all_goals have z11 := (rR_ok qq (k := 11) (by omega) z12).1
  all_goals have z10 := (rR_ok qq (k := 10) (by omega) z11).1
  all_goals have z9 := (rR_ok qq (k := 9) (by omega) z10).1
  all_goals have z8 := (rR_ok qq (k := 8) (by omega) z9).1
  · rw [g5 g2 (by decide), sI_n _ _ (by decide), g5 f2 (by decide), sI_n _ _ (by decide), g5 d2 (by decide), sI_n _ _ (by decide), g5 c2 (by decide), sI_n _ _ (by decide), g5 b2 (by decide)]
    exact p3 z8 j hj
  · rw [g5 g2 (by decide), sI_k _ (by decide), g5 f2 (by decide), sI_k _ (by decide), g5 d2 (by decide), sI_k _ (by decide), g5 c2 (by decide), sI_1]
    exact b4 z9
  · rw [g5 g2 (by decide), sI_k _ (by decide), g5 f2 (by decide), sI_k _ (by decide), g5 d2 (by decide), sI_1]
    exact c4 z10
  · rw [g5 g2 (by decide), sI_k _ (by decide), g5 f2 (by decide), sI_1]
    exact d4 z11
  · rw [g5 g2 (by decide), sI_1]
    exact f4 z12
theorem s_kTl (d : Nat) {σ : ax_S} {b : Nat → Int32} {n : Nat} {L : Int32} {T : TK} {U : Nat → TK} {Te : TK} (q : rRP b n T U Te) (h : CSt σ b n L T) : ∃ τ, kTl d σ = some (some (.int (bi ((pE Te).1 = 0))), τ) ∧ sm [5, 52, 60] σ τ ∧ (∀ f, 0 < f → f < 11 → τ.1 52 f = σ.1 52 f) ∧ τ.1 52 0 = bi ((pE Te).1 = 0) ∧ CSt τ b n L (pE Te) ∧ ((pE Te).1 = 0 → (∀ j, j < 8 → τ.1 60 j = vT b (U j)) ∧ τ.1 52 11 = vT b (U 8) ∧ τ.1 52 12 = vT b (U 9) ∧ τ.1 52 13 = vT b (U 10) ∧ τ.1 52 14 = vT b (U 11)) := by
  obtain ⟨t1, a1, a2, a3, a4, a5⟩ := s_readRise d q h
  obtain ⟨t2, b1', b2, b3⟩ := s_passEnd (d + 5) a4
  have hte : (pE Te).1 = 0 → Te.1 = 0 := fun z => by
    by_cases t : Te.1 = 0
    · exact t
    · rw [pE_n t] at z
      exact z
  have hf : cI sO (d + 6) 59 [.ref 5] t2 = some (if (pE Te).1 = 0 then 0 else 1, t2) := by
    refine cI_ev mi_59 ((u_59_5 _ t2).trans ?_) rfl
    rw [b3.2.2.2.2.2.1]
    split <;> rfl
  have v52 : ∀ f, t2.1 52 f = t1.1 52 f := fun f => by rw [b2.1 52 (by decide)]
  have v60 : t2.1 60 = t1.1 60 := b2.1 60 (by decide)
  unfold kTl
  rw [a1, Option.bind_some, b1', Option.bind_some, hf, Option.bind_some]
  by_cases t : (pE Te).1 = 0
  · simp only [if_pos t, bi_t t]
    rw [if_pos trivial]
    obtain ⟨y1, y2, y3, y4, y5⟩ := a5 (hte t)
    refine ⟨sI t2 52 0 1, by rw [sI_1]; rfl, ((a2.up (by decide)).tr (b2.up (by decide))).set _ _ (by decide), fun f h0 h1 => by rw [sI_k _ (by omega), v52]; exact a3 f h1, sI_1 _ _ _ _, CSt_c (sI_n _ _ (by decide)) (sI_n _ _ (by decide)) b3, fun _ => ⟨fun j hj => by rw [sI_n _ _ (by decide), v60]; exact y1 j hj, by rw [sI_k _ (by decide), v52]; exact y2, by rw [sI_k _ (by decide), v52]; exact y3, by rw [sI_k _ (by decide), v52]; exact y4, by rw [sI_k _ (by decide), v52]; exact y5⟩⟩
  · simp only [if_neg t, bi_f t]
    rw [if_neg (by decide)]
    exact ⟨sI t2 52 0 0, by rw [sI_1]; rfl, ((a2.up (by decide)).tr (b2.up (by decide))).set _ _ (by decide), fun f h0 h1 => by rw [sI_k _ (by omega), v52]; exact a3 f h1, sI_1 _ _ _ _, CSt_c (sI_n _ _ (by decide)) (sI_n _ _ (by decide)) b3, fun z => absurd z t⟩
theorem m_kTl (d : Nat) {σ : ax_S} {b : Nat → Int32} {n : Nat} {T : TK} {U : Nat → TK} {Te : TK} (q : rRP b n T U Te) (h : MSt σ b n T) : ∃ ρ, mTl d .null .null σ = ((cL sO (d + 4) 218 [.ref 82] ρ).bind fun u4 => if (lg_cmp u4.1 (0 : Int64)) < 0 then (some (some (.long u4.1), u4.2)) else (ev sO (d + 5) 204 168 [.ref 82, .long u4.1, .null, .int (0 : Int32)] [] (sI u4.2 82 7 (1 : Int32)))) ∧ sm [82, 87] σ ρ ∧ (∀ f, nq f → ρ.1 82 f = σ.1 82 f) ∧ MSt ρ b n Te ∧ (∀ i, i < 90 → ρ.1 87 i = σ.1 87 i) ∧ (Te.1 = 0 → ∀ j, j < 12 → ρ.1 87 (90 + j) = vT b (U j)) := by
  have qq := q
  obtain ⟨q0, q1, q2⟩ := q
  have st : ∃ τ, mTl d .null .null σ = ev sO (d + 5) 204 96 [.ref 82, .int (nI (90 + 0)), .null, .null] [] τ ∧ mfr σ τ ∧ MSt τ b n (U 0) := by
    unfold mTl
    by_cases t : T.1 = 0
    · rw [if_pos ((c17 h).mpr t), m_word (d + 4) h, Option.bind_some]
      simp only [lg_cmp_eq]
      obtain ⟨τ, e1, e2, e3⟩ := m_must (d + 2) (nmT b W1003 T) h
      rw [← q0] at e3
      by_cases w : nmT b W1003 T
      · rw [bi_t w] at e1
        rw [if_pos ((ww_1003 h.2.1).mpr ⟨t, w⟩), e1, Option.bind_some]
        exact ⟨τ, rfl, e2, e3⟩
      · rw [bi_f w] at e1
        rw [if_neg (fun z => w ((ww_1003 h.2.1).mp z).2), e1, Option.bind_some]
        exact ⟨τ, rfl, e2, e3⟩
    · rw [if_neg (fun z => t ((c17 h).mp z))]
      rw [pM_n t] at q0
      exact ⟨σ, rfl, mfr.rf _, by rw [q0]; exact h⟩
  obtain ⟨τ0, a1, a2, a3⟩ := st
  obtain ⟨τ1, ⟨p1, p2, p3, p4, p5⟩, e1⟩ := loop_P (E := fun k (τ : ax_S) => ev sO (d + 5) 204 96 [.ref 82, .int (nI (90 + k)), .null, .null] [] τ) (N := 12) (P := fun k τ => sm [82, 87] τ0 τ ∧ (∀ f, nq f → τ.1 82 f = τ0.1 82 f) ∧ MSt τ b n (U k) ∧ (∀ i, i < 90 → τ.1 87 i = τ0.1 87 i) ∧ ((U k).1 = 0 → ∀ j, j < k → τ.1 87 (90 + j) = vT b (U j))) (fun k τ hk hp => by
    obtain ⟨p1, p2, p3, p4, p5⟩ := hp
    obtain ⟨v, t2, b1', b2, b3, b4⟩ := m_number (d + 1) 0 (hiR k) p3
    rw [← q1 k hk] at b3 b4
    refine ⟨sI t2 87 (90 + k) v, ⟨(p1.tr (b2.1.up (by decide))).set _ _ (by decide), fun f hf => by rw [sI_n _ _ (by decide), b2.2 f hf]; exact p2 f hf, MSt_c (sI_n _ _ (by decide)) (sI_n _ _ (by decide)) b3, fun i hi => by rw [sI_k _ (by omega), b2.1.1 87 (by decide)]; exact p4 i hi, fun z j hj => ?_⟩, ?_⟩
    · by_cases y : j = k
      · rw [y, sI_1]
        exact b4 z
      · rw [sI_k _ (by omega), b2.1.1 87 (by decide)]
        exact p5 (rR_ok qq hk z).1 j (by omega)
    · rw [u_204_82p96 _ _ _ _ rfl _ rfl, if_pos (show nI (90 + k) < (102 : Int32) from nlt (N := 102) (by omega))]
      have gk := nI_g (show 90 + k < 102 by omega) (by omega)
      have ek := nI_c (show 90 + k < 2147483648 by omega)
      by_cases k9 : k < 9
      · rw [show hiR k = 9 from if_pos k9] at b1'
        rw [if_neg (show ¬ (98 : Int32) < nI (90 + k) from nI_nlt (a := 98) (by omega) (by omega)), b1', Option.bind_some, gd_t gk, ek, nI_add1]
        rfl
      · rw [if_pos (show (98 : Int32) < nI (90 + k) from nI_lt (a := 98) (by omega) (by omega))]
        by_cases k11 : k < 11
        · rw [show hiR k = 99 by unfold hiR; rw [if_neg k9, if_pos k11]] at b1'
          rw [if_pos (show nI (90 + k) < (101 : Int32) from nlt (N := 101) (by omega)), b1', Option.bind_some, gd_t gk, ek, nI_add1]
          rfl
        · rw [show hiR k = 9999 by unfold hiR; rw [if_neg k9, if_neg k11]] at b1'
          rw [if_neg (show ¬ nI (90 + k) < (101 : Int32) from nnl (N := 101) (by omega) (by omega)), b1', Option.bind_some, gd_t gk, ek, nI_add1]
          rfl) τ0 ⟨sm.rf _ _, fun _ _ => rfl, a3, fun _ _ => rfl, fun _ j hj => absurd hj (Nat.not_lt_zero j)⟩
  obtain ⟨t6, g1, g2, g3⟩ := m_mustEnd (d + 1) p3
  rw [← q2] at g3
  refine ⟨t6, a1.trans (e1.trans ?_), (a2.1.up (by decide)).tr (p1.tr (g2.1.up (by decide))), fun f hf => (g2.2 f hf).trans ((p2 f hf).trans (a2.2 f hf)), g3, fun i hi => ?_, fun z j hj => ?_⟩
  · rw [u_204_82p96 _ _ _ _ rfl _ rfl, if_neg (show ¬ nI (90 + 12) < (102 : Int32) from nnl (N := 102) (by omega)), g1, Option.bind_some]
  · rw [g2.1.1 87 (by decide), p4 i hi, a2.1.1 87 (by decide)]
  · rw [q2] at z
    rw [g2.1.1 87 (by decide)]
    exact p5 (pM_ok z).1 j hj
