/-! A KITCHEN'S TEXT: all measures -/
abbrev rwC (σ : ax_S) (K : Nat → Int32) (m : Nat) : Prop := ∀ k, k < m → ∀ r, r < 4 → σ.1 (53 + r) k = K (2 + 4 * k + r)
abbrev rwM (σ : ax_S) (K : Nat → Int32) (m : Nat) : Prop := ∀ k, k < m → ∀ r, r < 4 → σ.1 87 (2 + 4 * k + r) = K (2 + 4 * k + r)
/-- what the measures are good for -/
abbrev gdM (K : Nat → Int32) (m : Nat) : Prop := ∀ k, k < m → 0 ≤ (K (2 + 4 * k + 2)).toInt ∧ 1 ≤ (K (2 + 4 * k + 3)).toInt ∧ (K (2 + 4 * k + 3)).toInt ≤ 99
abbrev l5256 : List Nat := [5, 52, 53, 54, 55, 56]
theorem s_nm1 (d : Nat) {σ : ax_S} {b : Nat → Int32} {n : Nat} {L : Int32} {T : TK} (h : CSt σ b n L T) : cI sO (d + 4) 38 [.ref 5, .ref 1001] σ = some (bi (nmT b W1001 T), σ) := s_atName_1001 d h.1 h.2.1 h.2.2.1 h.2.2.2.1 h.2.2.2.2.1
/-- where it has failed the class's loop changes nothing of the tape -/
theorem cl_fail (d : Nat) {b : Nat → Int32} {n : Nat} {L : Int32} {T : TK} (t : ¬ T.1 = 0) : ∀ k i m (σ : ax_S), i + k = 17 → CSt σ b n L T → σ.1 52 1 = nI m → m ≤ 16 → ∃ τ, ev sO (d + 7) 31 16 [.ref 52, .ref 5, .int (nI i)] [] σ = ev sO (d + 7) 31 44 [.ref 52, .ref 5, .int 0] [] τ ∧ sm l5256 σ τ ∧ (∀ f, f ≠ 1 → τ.1 52 f = σ.1 52 f) ∧ CSt τ b n L T
  | 0, i, m, σ, hi, h, _, _ => by
    refine ⟨σ, ?_, sm.rf _ _, fun _ _ => rfl, h⟩
    rw [u_31_52_5p16, if_pos (show (16 : Int32) < nI i from nI_lt (a := 16) (by omega) (by omega))]
  | k + 1, i, m, σ, hi, h, hm, h16 => by
    have hl : ¬ (16 : Int32) < nI i := nI_nlt (a := 16) (by omega) (by omega)
    by_cases w : nmT b W1001 T
    · have step : ∃ τ m', cV sO (d + 6) 46 [.ref 52, .ref 5] σ = some τ ∧ sm l5256 σ τ ∧ (∀ f, f ≠ 1 → τ.1 52 f = σ.1 52 f) ∧ CSt τ b n L T ∧ τ.1 52 1 = nI m' ∧ m' ≤ 16 := by
        by_cases q : m < 16
        · obtain ⟨T1, T2, T3, T4, T5, T6, hq⟩ := rMP_ex b n T
          obtain ⟨τ, e1, e2, e3, e4, e5, -, -⟩ := s_readMeasure d hq h hm q
          rw [rM_n hq t] at e3
          exact ⟨τ, m + 1, e1, e2, e5, e3, e4, by omega⟩
        · obtain ⟨τ, e1, e2, e3⟩ := s_readMeasure16 d h hm (by omega)
          rw [pB_n t] at e3
          exact ⟨τ, m, e1, e2.up (by decide), fun f _ => by rw [e2.1 52 (by decide)], e3, by rw [e2.1 52 (by decide)]; exact hm, h16⟩
      obtain ⟨τ, m', e1, e2, e5, e3, e4, e6⟩ := step
      obtain ⟨ρ, f1, f2, f3, f4⟩ := cl_fail d t k (i + 1) m' τ (by omega) e3 e4 e6
      refine ⟨ρ, ?_, e2.tr f2, fun f hf => (f3 f hf).trans (e5 f hf), f4⟩
      rw [u_31_52_5p16, if_neg hl, s_nm1 (d + 2) h, Option.bind_some]
      simp only [bi_0]
      rw [if_neg (fun z => z w), e1, Option.bind_some, nI_add1]
      exact f1
    · refine ⟨σ, ?_, sm.rf _ _, fun _ _ => rfl, h⟩
      rw [u_31_52_5p16, if_neg hl, s_nm1 (d + 2) h, Option.bind_some]
      simp only [bi_0]
      rw [if_pos w]
/-- the reference's loop leaves off where its word is another -/
theorem m_wexit (d : Nat) {σ : ax_S} {b : Nat → Int32} {n : Nat} {T : TK} (w1 w2 w3 : Value) (h1 : c1 w1) (h2 : c1 w2) (h3 : c1 w3) (h : MSt σ b n T) (w : ¬ (T.1 = 0 ∧ nmT b W1001 T)) : ev sO (d + 5) 204 30 [.ref 82, w1, w2, w3] [] σ = ev sO (d + 5) 204 48 [.ref 82, w1, w2, w3] [] σ := by
  rw [u_204_82p30 _ _ _ h1 _ h2 _ h3, m_word (d + 4) h, Option.bind_some]
  simp only [lg_cmp_eq]
  rw [if_neg (fun z => w ((ww_1001 h.2.1).mp z))]
theorem m_wgo (d : Nat) {σ τ : ax_S} {b : Nat → Int32} {n : Nat} {T : TK} (w1 w2 w3 : Value) (h1 : c1 w1) (h2 : c1 w2) (h3 : c1 w3) (h : MSt σ b n T) (w : T.1 = 0 ∧ nmT b W1001 T) (e : cV sO (d + 4) 211 [.ref 82] σ = some τ) : ev sO (d + 5) 204 30 [.ref 82, w1, w2, w3] [] σ = ev sO (d + 5) 204 30 [.ref 82, w1, w2, w3] [] τ := by
  rw [u_204_82p30 _ _ _ h1 _ h2 _ h3, m_word (d + 4) h, Option.bind_some]
  simp only [lg_cmp_eq]
  rw [if_pos ((ww_1001 h.2.1).mpr w), e, Option.bind_some]
/-- both loops come to the same -/
theorem loopM (b : Nat → Int32) (n : Nat) : ∀ k m (T : TK) (K : Nat → Int32), m + k = 17 → m ≤ 16 → T.1 = 0 → gdM K m → ∃ m' T' K', m' ≤ 16 ∧ (T'.1 = 0 → gdM K' m') ∧ (∀ d L (σ : ax_S), CSt σ b n L T → σ.1 52 1 = nI m → rwC σ K m → ∃ τ, ev sO (d + 7) 31 16 [.ref 52, .ref 5, .int (nI m)] [] σ = ev sO (d + 7) 31 44 [.ref 52, .ref 5, .int 0] [] τ ∧ sm l5256 σ τ ∧ (∀ f, f ≠ 1 → τ.1 52 f = σ.1 52 f) ∧ CSt τ b n L T' ∧ (T'.1 = 0 → τ.1 52 1 = nI m' ∧ rwC τ K' m')) ∧ ∀ d w1 w2 w3 (σ : ax_S), c1 w1 → c1 w2 → c1 w3 → MSt σ b n T → σ.1 87 0 = nI m → rwM σ K m → ∃ ρ, ev sO (d + 5) 204 30 [.ref 82, w1, w2, w3] [] σ = ev sO (d + 5) 204 48 [.ref 82, w1, w2, w3] [] ρ ∧ sm [82, 87] σ ρ ∧ (∀ f, nq f → ρ.1 82 f = σ.1 82 f) ∧ MSt ρ b n T' ∧ (T'.1 = 0 → ρ.1 87 0 = nI m' ∧ rwM ρ K' m' ∧ ρ.1 87 1 = σ.1 87 1)
  | 0, m, T, K, hk, hm, _, _ => absurd hk (by omega)
  | k + 1, m, T, K, hk, hm, t, hg => by
    by_cases w : nmT b W1001 T
    · by_cases q : m < 16
      · obtain ⟨T1, T2, T3, T4, T5, T6, hq⟩ := rMP_ex b n T
        by_cases ok : T6.1 = 0
        · obtain ⟨-, -, -, -, -, -, y1, y2, g1, g2⟩ := rM_ok hq ok
          have hK : ∀ i, ¬ (2 + 4 * m ≤ i ∧ i < 2 + 4 * m + 4) → (fun i => if 2 + 4 * m ≤ i ∧ i < 2 + 4 * m + 4 then rMv b T1 T2 T3 T4 (i - (2 + 4 * m)) else K i) i = K i := fun i hi => if_neg hi
          have hK2 : ∀ r, r < 4 → (fun i => if 2 + 4 * m ≤ i ∧ i < 2 + 4 * m + 4 then rMv b T1 T2 T3 T4 (i - (2 + 4 * m)) else K i) (2 + 4 * m + r) = rMv b T1 T2 T3 T4 r := fun r hr => by
            (try simp only)
            rw [if_pos ⟨by omega, by omega⟩, show 2 + 4 * m + r - (2 + 4 * m) = r by omega]
          generalize (fun i => if 2 + 4 * m ≤ i ∧ i < 2 + 4 * m + 4 then rMv b T1 T2 T3 T4 (i - (2 + 4 * m)) else K i) = K2 at hK hK2
          have hg2 : gdM K2 (m + 1) := fun j hj => by
            by_cases z : j = m
            · rw [z, hK2 2 (by omega), hK2 3 (by omega)]
              exact ⟨by show 0 ≤ (vT b T3).toInt; omega, g1, g2⟩
            · rw [hK _ (by omega), hK _ (by omega)]
              exact hg j (by omega)
          obtain ⟨m', T', K', r1, r2, r3, r4⟩ := loopM b n k (m + 1) T6 K2 (by omega) (by omega) ok hg2
          refine ⟨m', T', K', r1, r2, fun d L σ h h1 h2 => ?_, fun d w1 w2 w3 σ c1' c2 c3 h h1 h2 => ?_⟩
          · obtain ⟨τ, e1, e2, e3, e4, e5, e6, e7⟩ := s_readMeasure d hq h h1 q
            obtain ⟨ρ, f1, f2, f3, f4, f5⟩ := r3 d L τ e3 e4 (fun j hj r hr => by
              by_cases z : j = m
              · rw [z, hK2 r hr]
                exact e7 ok r hr
              · rw [e6 r j hr z, hK _ (by omega)]
                exact h2 j (by omega) r hr)
            refine ⟨ρ, ?_, e2.tr f2, fun f hf => (f3 f hf).trans (e5 f hf), f4, f5⟩
            rw [u_31_52_5p16, if_neg (show ¬ (16 : Int32) < nI m from nI_nlt (a := 16) (by omega) (by omega)), s_nm1 (d + 2) h, Option.bind_some]
            simp only [bi_0]
            rw [if_neg (fun z => z w), e1, Option.bind_some, nI_add1]
            exact f1
          · obtain ⟨τ, e1, e2, e3, e4, e5⟩ := m_readMeasure d hq h h1 q w
            obtain ⟨e6, e7, e8⟩ := e5 ok
            obtain ⟨ρ, f1, f2, f3, f4, f5⟩ := r4 d w1 w2 w3 τ c1' c2 c3 e4 e6 (fun j hj r hr => by
              by_cases z : j = m
              · rw [z, hK2 r hr]
                exact e7 r hr
              · rw [e8 _ (by omega) (fun r' hr' => by omega), hK _ (by omega)]
                exact h2 j (by omega) r hr)
            refine ⟨ρ, (m_wgo d w1 w2 w3 c1' c2 c3 h ⟨t, w⟩ e1).trans f1, e2.tr f2, fun f hf => (f3 f hf).trans (e3 f hf), f4, fun z => ?_⟩
            obtain ⟨x1, x2, x3⟩ := f5 z
            exact ⟨x1, x2, x3.trans (e8 1 (by omega) (fun r' hr' => by omega))⟩
        · refine ⟨m, T6, K, hm, fun z => absurd z ok, fun d L σ h h1 h2 => ?_, fun d w1 w2 w3 σ c1' c2 c3 h h1 h2 => ?_⟩
          · obtain ⟨τ, e1, e2, e3, e4, e5, e6, e7⟩ := s_readMeasure d hq h h1 q
            obtain ⟨ρ, f1, f2, f3, f4⟩ := cl_fail d ok k (m + 1) (m + 1) τ (by omega) e3 e4 (by omega)
            refine ⟨ρ, ?_, e2.tr f2, fun f hf => (f3 f hf).trans (e5 f hf), f4, fun z => absurd z ok⟩
            rw [u_31_52_5p16, if_neg (show ¬ (16 : Int32) < nI m from nI_nlt (a := 16) (by omega) (by omega)), s_nm1 (d + 2) h, Option.bind_some]
            simp only [bi_0]
            rw [if_neg (fun z => z w), e1, Option.bind_some, nI_add1]
            exact f1
          · obtain ⟨τ, e1, e2, e3, e4, e5⟩ := m_readMeasure d hq h h1 q w
            exact ⟨τ, (m_wgo d w1 w2 w3 c1' c2 c3 h ⟨t, w⟩ e1).trans (m_wexit d w1 w2 w3 c1' c2 c3 e4 (fun z => ok z.1)), e2, e3, e4, fun z => absurd z ok⟩
      · have m16 : m = 16 := by omega
        have ok : ¬ (pB 3 T).1 = 0 := by rw [pB_0 t]; simp only; omega
        refine ⟨m, pB 3 T, K, hm, fun z => absurd z ok, fun d L σ h h1 h2 => ?_, fun d w1 w2 w3 σ c1' c2 c3 h h1 h2 => ?_⟩
        · obtain ⟨τ, e1, e2, e3⟩ := s_readMeasure16 d h h1 m16
          obtain ⟨ρ, f1, f2, f3, f4⟩ := cl_fail d ok k (m + 1) m τ (by omega) e3 (by rw [e2.1 52 (by decide)]; exact h1) hm
          refine ⟨ρ, ?_, (e2.up (by decide)).tr f2, fun f hf => (f3 f hf).trans (by rw [e2.1 52 (by decide)]), f4, fun z => absurd z ok⟩
          rw [u_31_52_5p16, if_neg (show ¬ (16 : Int32) < nI m from nI_nlt (a := 16) (by omega) (by omega)), s_nm1 (d + 2) h, Option.bind_some]
          simp only [bi_0]
          rw [if_neg (fun z => z w), e1, Option.bind_some, nI_add1]
          exact f1
        · obtain ⟨τ, e1, e2, e3⟩ := m_readMeasure16 d h h1 m16
          exact ⟨τ, (m_wgo d w1 w2 w3 c1' c2 c3 h ⟨t, w⟩ e1).trans (m_wexit d w1 w2 w3 c1' c2 c3 e3 (fun z => ok z.1)), e2.1.up (by decide), e2.2, e3, fun z => absurd z ok⟩
    · refine ⟨m, T, K, hm, fun _ => hg, fun d L σ h h1 h2 => ⟨σ, ?_, sm.rf _ _, fun _ _ => rfl, h, fun _ => ⟨h1, h2⟩⟩, fun d w1 w2 w3 σ c1' c2 c3 h h1 h2 => ⟨σ, m_wexit d w1 w2 w3 c1' c2 c3 h (fun z => w z.2), sm.rf _ _, fun _ _ => rfl, h, fun _ => ⟨h1, h2, rfl⟩⟩⟩
      rw [u_31_52_5p16, if_neg (show ¬ (16 : Int32) < nI m from nI_nlt (a := 16) (by omega) (by omega)), s_nm1 (d + 2) h, Option.bind_some]
      simp only [bi_0]
      rw [if_pos w]
