/-! THE PUBLIC METHODS, 38: card -/
noncomputable def mcH (d : Nat) (σ : ax_S) : Option (Option Value × ax_S) := (cI sO (d + 6) 214 [.ref 82, .int 0, .int 3] σ).bind fun u3 => (cI sO (d + 6) 214 [.ref 82, .int 1800, .int 2000] u3.2).bind fun u4 => (cV sO (d + 6) 216 [.ref 82] u4.2).bind fun u5 => (cV sO (d + 6) 220 [.ref 82, .int u3.1, .int u4.1, .int (-1)] u5).bind fun u6 => ev sO (d + 7) 219 89 [.ref 82, .int u3.1, .int u4.1, .null, .null] [] (sI u6 82 20 0)
/-- a page and a draft just read are the same -/
theorem dfC_pg {f g A : Nat → Int32} {S : Nat → Bool} (hd : DRp S A) (hf : ∀ k, k < 11 → f k = A k) (hg : pmA g A) : dfC f g cap0 11 := by
  obtain ⟨g1, g2⟩ := hg
  refine ⟨fun k hk => ?_, g2⟩
  unfold dfP
  obtain ⟨e1, e2⟩ := g1 k hk
  rw [e1, e2, hf k hk]
  by_cases q : A k = -1000000
  · rw [if_pos q, decide_eq_true q, if_pos rfl, q]
    exact ⟨rfl, by decide, cap0_0 k, fun _ => rfl⟩
  · rw [if_neg q, decide_eq_false q, if_neg (by decide)]
    obtain z | z := hd.1 k hk
    · exact absurd z q
    · exact ⟨rfl, z.1, z.2, fun y => absurd y (by decide)⟩
/-- the whole of a card's text -/
theorem card_parse (b : Nat → Int32) (n : Nat) (hn : n ≤ 500) {T0 : TK} (t0 : T0.1 = 0) (he : tE T0 ≤ n) (KC KM : Nat → Int32) (m : Nat) (hG : ∀ s la ye, grn KC s la ye m = grn KM s la ye m) (hm16 : m ≤ 16) (hgr : ∀ k, k < m → 1 ≤ (KM (2 + 4 * k + 3)).toInt ∧ (KM (2 + 4 * k + 3)).toInt ≤ 99) (h0m : KM 0 = nI m) : ∃ T' S' A' la ye, (T'.1 = 0 → DRp S' A' ∧ rgP 0 3 la ∧ rgP 1800 2000 ye) ∧ (∀ d L (σ : ax_S), CSt σ b n L T0 → σ.1 61 3 = 0 → σ.1 61 4 = 0 → σ.1 61 5 = 0 → (∀ k, k < 11 → σ.1 62 k = 0) → σ.1 8 1 = nI m → kc σ = KC → ∃ τ, ((cV sO (d + 7) 48 [.ref 5, .ref 1004] σ).bind fun u2 => (cI sO (d + 7) 50 [.ref 5, .int 0, .int 3] u2).bind fun u3 => (cI sO (d + 7) 50 [.ref 5, .int 1800, .int 2000] (sI u3.2 61 0 u3.1)).bind fun u4 => (cV sO (d + 7) 53 [.ref 5] (sI u4.2 61 1 u4.1)).bind fun u5 => ev sO (d + 8) 69 48 [.ref 61, .ref 5, .ref 8, .int 0] [] u5) = pTl d τ ∧ sm [5, 61, 62] σ τ ∧ CSt τ b n L T' ∧ (T'.1 = 0 → τ.1 61 0 = la ∧ τ.1 61 1 = ye ∧ ∀ k, k < 11 → τ.1 62 k = A' k)) ∧ ∀ d (σ : ax_S), MSt σ b n T0 → σ.1 86 = KM → ∃ ρ, (((cL sO (d + 6) 210 [.ref 82] σ).bind fun u1 => if (lg_cmp u1.1 (1667330660 : Int64)) = 0 then ((cV sO (d + 6) 213 [.ref 82, .int 1] u1.2).bind fun u2 => mcH d u2) else ((cV sO (d + 6) 213 [.ref 82, .int 0] u1.2).bind fun u2 => mcH d u2))) = mcT d ρ ∧ sm [82, 90] σ ρ ∧ (∀ f, nq f → f ≠ 20 → ρ.1 82 f = σ.1 82 f) ∧ MSt ρ b n T' ∧ (T'.1 = 0 → ρ.1 90 0 = la ∧ ρ.1 90 1 = ye ∧ ρ.1 90 2 = -1 ∧ pmA (ρ.1 90) A') := by
  obtain ⟨T1, q1⟩ : ∃ T1, T1 = pM b n (nmT b W1004 T0) T0 := ⟨_, rfl⟩
  obtain ⟨T2, q2⟩ : ∃ T2, T2 = pU b n 0 3 T1 := ⟨_, rfl⟩
  obtain ⟨T3, q3⟩ : ∃ T3, T3 = pU b n 1800 2000 T2 := ⟨_, rfl⟩
  obtain ⟨T4, q4⟩ : ∃ T4, T4 = pM b n (T3.2.2.1 = 4) T3 := ⟨_, rfl⟩
  -- the class's head
  have hC : ∀ d L (σ : ax_S), CSt σ b n L T0 → σ.1 61 3 = 0 → σ.1 61 4 = 0 → σ.1 61 5 = 0 → (∀ k, k < 11 → σ.1 62 k = 0) → ∃ τ, ((cV sO (d + 7) 48 [.ref 5, .ref 1004] σ).bind fun u2 => (cI sO (d + 7) 50 [.ref 5, .int 0, .int 3] u2).bind fun u3 => (cI sO (d + 7) 50 [.ref 5, .int 1800, .int 2000] (sI u3.2 61 0 u3.1)).bind fun u4 => (cV sO (d + 7) 53 [.ref 5] (sI u4.2 61 1 u4.1)).bind fun u5 => ev sO (d + 8) 69 48 [.ref 61, .ref 5, .ref 8, .int 0] [] u5) = ev sO (d + 8) 69 48 [.ref 61, .ref 5, .ref 8, .int (nI 0)] [] τ ∧ sm [5, 61] σ τ ∧ CSt τ b n L T4 ∧ (T4.1 = 0 → τ.1 61 0 = vT b T1 ∧ τ.1 61 1 = vT b T2) ∧ pgC τ (fun _ => false) (fun _ => 0) := fun d L σ h h3 h4 h5 h62 => by
    obtain ⟨t1, a1, a2, a3⟩ := s_pn_1004 (d + 2) h
    rw [← q1] at a3
    obtain ⟨v, t2, b1', b2, b3, b4, -⟩ := s_passNumber (d + 4) 0 3 a3
    rw [← q2] at b3 b4
    obtain ⟨w, t3, c1', c2, c3, c4, -⟩ := s_passNumber (d + 4) (σ := sI t2 61 0 v) 1800 2000 (CSt_c (sI_n _ _ (by decide)) (sI_n _ _ (by decide)) b3)
    rw [← q3] at c3 c4
    obtain ⟨t4, d1, d2, d3⟩ := s_passStop (d + 4) (σ := sI t3 61 1 w) (CSt_c (sI_n _ _ (by decide)) (sI_n _ _ (by decide)) c3)
    rw [← q4] at d3
    have l61 : ∀ f, f ≠ 0 → f ≠ 1 → t4.1 61 f = σ.1 61 f := fun f h0 h1 => by rw [d2.1 61 (by decide), sI_k _ h1, c2.1 61 (by decide), sI_k _ h0, b2.1 61 (by decide), a2.1 61 (by decide)]
    refine ⟨t4, ?_, (((((a2.up (by decide)).tr (b2.up (by decide))).set _ _ (by decide)).tr (c2.up (by decide))).set _ _ (by decide)).tr (d2.up (by decide)), d3, fun z => ?_, fun k hk => ?_, ?_, ?_, fun k hk => ?_⟩
    · rw [a1, Option.bind_some, b1', Option.bind_some]
      (try simp only)
      rw [c1', Option.bind_some]
      (try simp only)
      rw [d1, Option.bind_some]
      rfl
    · rw [q4] at z
      have z3 := (pM_ok z).1
      have z3' := z3
      rw [q3] at z3'
      have z2 := (pU_ok z3').1
      refine ⟨?_, ?_⟩
      · rw [d2.1 61 (by decide), sI_k _ (by decide), c2.1 61 (by decide), sI_1]
        exact b4 z2
      · rw [d2.1 61 (by decide), sI_1]
        exact c4 z3
    · rw [l61 3 (by decide) (by decide), h3, bt_0]
    · rw [l61 4 (by decide) (by decide), h4]
      rfl
    · rw [l61 5 (by decide) (by decide), h5]
      rfl
    · rw [d2.1 62 (by decide), sI_n _ _ (by decide), c2.1 62 (by decide), sI_n _ _ (by decide), b2.1 62 (by decide), a2.1 62 (by decide)]
      exact h62 k hk
  -- the reference's head
  have hM : ∀ d (σ : ax_S), MSt σ b n T0 → ∃ τ x1 x2, (((cL sO (d + 6) 210 [.ref 82] σ).bind fun u1 => if (lg_cmp u1.1 (1667330660 : Int64)) = 0 then ((cV sO (d + 6) 213 [.ref 82, .int 1] u1.2).bind fun u2 => mcH d u2) else ((cV sO (d + 6) 213 [.ref 82, .int 0] u1.2).bind fun u2 => mcH d u2))) = ev sO (d + 7) 219 89 [.ref 82, .int x1, .int x2, .null, .null] [] τ ∧ sm [82, 90] σ τ ∧ (∀ f, nq f → f ≠ 20 → τ.1 82 f = σ.1 82 f) ∧ MSt τ b n T4 ∧ (T4.1 = 0 → x1 = vT b T1 ∧ x2 = vT b T2) ∧ pgM τ (fun _ => false) (fun _ => 0) ∧ τ.1 90 0 = x1 ∧ τ.1 90 1 = x2 ∧ τ.1 90 2 = -1 := fun d σ h => by
    have st : ∃ t1, (((cL sO (d + 6) 210 [.ref 82] σ).bind fun u1 => if (lg_cmp u1.1 (1667330660 : Int64)) = 0 then ((cV sO (d + 6) 213 [.ref 82, .int 1] u1.2).bind fun u2 => mcH d u2) else ((cV sO (d + 6) 213 [.ref 82, .int 0] u1.2).bind fun u2 => mcH d u2))) = mcH d t1 ∧ mfr σ t1 ∧ MSt t1 b n T1 := by
      rw [m_word (d + 6) h, Option.bind_some]
      simp only [lg_cmp_eq]
      obtain ⟨τ, e1, e2, e3⟩ := m_must (d + 4) (nmT b W1004 T0) h
      rw [← q1] at e3
      by_cases w : nmT b W1004 T0
      · rw [bi_t w] at e1
        rw [if_pos ((ww_1004 h.2.1).mpr ⟨t0, w⟩), e1, Option.bind_some]
        exact ⟨τ, rfl, e2, e3⟩
      · rw [bi_f w] at e1
        rw [if_neg (fun z => w ((ww_1004 h.2.1).mp z).2), e1, Option.bind_some]
        exact ⟨τ, rfl, e2, e3⟩
    obtain ⟨t1, a1, a2, a3⟩ := st
    obtain ⟨v, t2, b1', b2, b3, b4⟩ := m_number (d + 3) 0 3 a3
    rw [← q2] at b3 b4
    obtain ⟨w, t3, c1', c2, c3, c4⟩ := m_number (d + 3) 1800 2000 b3
    rw [← q3] at c3 c4
    obtain ⟨t4, d1, d2, d3⟩ := m_mustEnd (d + 3) c3
    rw [← q4] at d3
    obtain ⟨t5, f1, f2, f3, f4, f5, f6⟩ := m_clear (d + 6) t4 v w (-1)
    have m4 : mfr σ t4 := ((a2.tr b2).tr c2).tr d2
    have d5 : MSt t5 b n T4 := MSt_c (f2.1 82 (by decide)) (f2.1 89 (by decide)) d3
    refine ⟨sI t5 82 20 0, v, w, ?_, ((m4.1.up (by decide)).tr (f2.up (by decide))).set _ _ (by decide), fun f hf h20 => ?_, ?_, fun z => ?_, ⟨fun k hk h9 => ?_, fun k hk => ?_, fun k hk hk2 => ?_⟩, ?_, ?_, ?_⟩
    · rw [a1]
      unfold mcH
      rw [b1', Option.bind_some]
      (try simp only)
      rw [c1', Option.bind_some]
      (try simp only)
      rw [d1, Option.bind_some]
      (try simp only)
      rw [f1, Option.bind_some]
    · rw [sI_k _ h20, f2.1 82 (by decide)]
      exact m4.2 f hf
    · obtain ⟨⟨z1, z2, z3⟩, z4, z5, z6, z7, z8, z9, z10, z11⟩ := d5
      exact ⟨⟨z1, by rw [sI_k _ (by decide)]; exact z2, fun i hi => by rw [sI_n _ _ (by decide)]; exact z3 i hi⟩, z4, by rw [sI_k _ (by decide)]; exact z5, by rw [sI_k _ (by decide)]; exact z6, by rw [sI_k _ (by decide)]; exact z7, by rw [sI_k _ (by decide)]; exact z8, by rw [sI_k _ (by decide)]; exact z9, z10, fun y => by rw [sI_k _ (by decide)]; exact z11 y⟩
    · rw [q4] at z
      have z3 := (pM_ok z).1
      have z3' := z3
      rw [q3] at z3'
      exact ⟨b4 (pU_ok z3').1, c4 z3⟩
    · rw [sI_1, bt_0]
    · rw [sI_n _ _ (by decide), f6 (4 + k) (by omega) (by omega), f6 3 (by omega) (by omega), bt_0]
      exact ⟨rfl, rfl⟩
    · rw [sI_n _ _ (by decide), f6 3 (by omega) (by omega), bt_0]
    · rw [sI_n _ _ (by decide)]; exact f3
    · rw [sI_n _ _ (by decide)]; exact f4
    · rw [sI_n _ _ (by decide)]; exact f5
  by_cases t4 : T4.1 = 0
  · have t4' := t4
    rw [q4] at t4'
    have z3 := (pM_ok t4').1
    have z3' := z3
    rw [q3] at z3'
    obtain ⟨z2, -, r2, -⟩ := pU_ok z3'
    have z2' := z2
    rw [q2] at z2'
    obtain ⟨z1, -, r1, -⟩ := pU_ok z2'
    have e4 : eOK n T0 T4 := by
      rw [q4, q3, q2, q1]
      exact (((pM_E b n _ T0).tr (pU_E b n _ _ _)).tr (pU_E b n _ _ _)).tr (pM_E b n _ _)
    have e3 : eOK n T0 T3 := by
      rw [q3, q2, q1]
      exact ((pM_E b n _ T0).tr (pU_E b n _ _ _)).tr (pU_E b n _ _ _)
    have hi : T4.2.2.1 ≠ 1 → 0 < tE T4 := fun z => by
      rw [q4] at t4 z ⊢
      exact Nat.lt_of_le_of_lt (Nat.zero_le _) (pM_go e3 he t4 z)
    obtain ⟨T', S', A', l1, l2, l3⟩ := loop_card b n hn KC KM m (vT b T1) (vT b T2) (funext fun s => hG s _ _) hm16 hgr h0m 500 0 T4 (fun _ => false) (fun _ => 0) rfl t4 (e4 he).2 hi ⟨fun k _ => Or.inr ⟨by show (0 : Int) ≤ (0 : Int32).toInt; decide, cap0_0 k⟩, fun _ _ _ => rfl, fun _ => ⟨rfl, rfl⟩, fun _ => rfl⟩
    refine ⟨T', S', A', vT b T1, vT b T2, fun z => ⟨l1 z, r1, r2⟩, fun d L σ h h3 h4 h5 h62 hm hk => ?_, fun d σ h h86 => ?_⟩
    · obtain ⟨τ, a1, a2, a3, a4, a5⟩ := hC d L σ h h3 h4 h5 h62
      obtain ⟨a6, a7⟩ := a4 t4
      obtain ⟨ρ, f1, f2, f3, f4, f5, f6⟩ := l2 d L τ a3 a5 (by rw [a2.1 8 (by decide)]; exact hm) (by
        rw [← hk, ← kcb_8, ← kcb_8]
        exact kcb_c (fun x h1 h2 => a2.1 x (fun z => by simp only [List.mem_cons, List.not_mem_nil, or_false] at z; omega))) a6 a7
      exact ⟨ρ, a1.trans f1, (a2.up (by decide)).tr f2, f3, fun z => ⟨f4, f5, (f6 z).2.2.2⟩⟩
    · obtain ⟨τ, x1, x2, a1, a2, a3, a4, a5, a6, a7, a8, a9⟩ := hM d σ h
      obtain ⟨rfl, rfl⟩ := a5 t4
      obtain ⟨ρ, f1, f2, f3, f4⟩ := l3 d τ a4 a6 (by rw [a2.1 86 (by decide)]; exact h86)
      exact ⟨ρ, a1.trans f1, a2.tr f2.1, fun f hf h20 => (f2.2.1 f hf h20).trans (a3 f hf h20), f3, fun z => ⟨(f2.2.2 0 (by decide)).trans a7, (f2.2.2 1 (by decide)).trans a8, (f2.2.2 2 (by decide)).trans a9, (f4 z).2⟩⟩
  · refine ⟨T4, fun _ => false, fun _ => 0, 0, 0, fun z => absurd z t4, fun d L σ h h3 h4 h5 h62 hm hk => ?_, fun d σ h h86 => ?_⟩
    · obtain ⟨τ, a1, a2, a3, a4, a5⟩ := hC d L σ h h3 h4 h5 h62
      exact ⟨τ, a1.trans (s_px d a3 (Or.inl t4)), a2.up (by decide), a3, fun z => absurd z t4⟩
    · obtain ⟨τ, x1, x2, a1, a2, a3, a4, a5, a6, a7, a8, a9⟩ := hM d σ h
      exact ⟨τ, a1.trans (m_cx d x1 x2 a4 (Or.inl t4)), a2, a3, a4, fun z => absurd z t4⟩
