/-! A KITCHEN'S TEXT: all packets -/
noncomputable def kTl (d : Nat) (σ : ax_S) : Option (Option Value × ax_S) := (cV sO (d + 6) 56 [.ref 52, .ref 5] σ).bind fun u0 => (cV sO (d + 6) 57 [.ref 5] u0).bind fun u1 => (cI sO (d + 6) 59 [.ref 5] u1).bind fun u2 => if u2.1 = 0 then (some (some (.int (((sI u2.2 52 0 (1 : Int32)).1 52 0) &&& 1)), (sI u2.2 52 0 (1 : Int32)))) else (some (some (.int (((sI u2.2 52 0 (0 : Int32)).1 52 0) &&& 1)), (sI u2.2 52 0 (0 : Int32))))
noncomputable def mTl (d : Nat) (w2 w3 : Value) (σ : ax_S) : Option (Option Value × ax_S) := if (σ.1 82 17) = 0 then ((cL sO (d + 4) 210 [.ref 82] σ).bind fun u2 => if (lg_cmp u2.1 (1919513445 : Int64)) = 0 then ((cV sO (d + 4) 213 [.ref 82, .int (1 : Int32)] u2.2).bind fun u3 => ev sO (d + 5) 204 96 [.ref 82, .int (90 : Int32), w2, w3] [] u3) else ((cV sO (d + 4) 213 [.ref 82, .int (0 : Int32)] u2.2).bind fun u4 => ev sO (d + 5) 204 96 [.ref 82, .int (90 : Int32), w2, w3] [] u4)) else (ev sO (d + 5) 204 96 [.ref 82, .int (90 : Int32), w2, w3] [] σ)
abbrev pwC (σ : ax_S) (K : Nat → Int32) (m : Nat) : Prop := ∀ k, k < m → ∀ r, r < 3 → σ.1 (57 + r) k = K (66 + 3 * k + r)
abbrev pwM (σ : ax_S) (K : Nat → Int32) (m : Nat) : Prop := ∀ k, k < m → ∀ r, r < 3 → σ.1 87 (66 + 3 * k + r) = K (66 + 3 * k + r)
theorem s_44x (d : Nat) {σ : ax_S} {b : Nat → Int32} {n i : Nat} {L : Int32} {T : TK} (h : CSt σ b n L T) (hi : i < 2147483648) (w : i ≤ 8 → ¬ nmT b W1002 T) : ev sO (d + 7) 31 44 [.ref 52, .ref 5, .int (nI i)] [] σ = kTl d σ := by
  rw [u_31_52_5p44]
  by_cases q : i ≤ 8
  · rw [if_neg (show ¬ (8 : Int32) < nI i from nI_nlt (a := 8) q (by omega)), s_nm2 (d + 2) h, Option.bind_some]
    simp only [bi_0]
    rw [if_pos (w q)]
    rfl
  · rw [if_pos (show (8 : Int32) < nI i from nI_lt (a := 8) (by omega) hi)]
    rfl
theorem s_44g (d : Nat) {σ τ : ax_S} {b : Nat → Int32} {n i : Nat} {L : Int32} {T : TK} (h : CSt σ b n L T) (hi : i ≤ 8) (w : nmT b W1002 T) (e : cV sO (d + 6) 55 [.ref 52, .ref 5] σ = some τ) : ev sO (d + 7) 31 44 [.ref 52, .ref 5, .int (nI i)] [] σ = ev sO (d + 7) 31 44 [.ref 52, .ref 5, .int (nI (i + 1))] [] τ := by
  rw [u_31_52_5p44, if_neg (show ¬ (8 : Int32) < nI i from nI_nlt (a := 8) hi (by omega)), s_nm2 (d + 2) h, Option.bind_some]
  simp only [bi_0]
  rw [if_neg (fun z => z w), e, Option.bind_some, nI_add1]
theorem cp_fail (d : Nat) {b : Nat → Int32} {n : Nat} {L : Int32} {T : TK} (t : ¬ T.1 = 0) : ∀ k i m (σ : ax_S), i + k = 9 → CSt σ b n L T → σ.1 52 6 = nI m → m ≤ 8 → ∃ τ, ev sO (d + 7) 31 44 [.ref 52, .ref 5, .int (nI i)] [] σ = kTl d τ ∧ sm l5259 σ τ ∧ (∀ f, f ≠ 6 → τ.1 52 f = σ.1 52 f) ∧ CSt τ b n L T
  | 0, i, m, σ, hi, h, _, _ => ⟨σ, s_44x d h (by omega) (fun q => absurd q (by omega)), sm.rf _ _, fun _ _ => rfl, h⟩
  | k + 1, i, m, σ, hi, h, hm, h8 => by
    by_cases w : nmT b W1002 T
    · have step : ∃ τ m', cV sO (d + 6) 55 [.ref 52, .ref 5] σ = some τ ∧ sm l5259 σ τ ∧ (∀ f, f ≠ 6 → τ.1 52 f = σ.1 52 f) ∧ CSt τ b n L T ∧ τ.1 52 6 = nI m' ∧ m' ≤ 8 := by
        by_cases q : m < 8
        · obtain ⟨T1, T2, T3, T4, T5, hq⟩ := rPP_ex b n T
          obtain ⟨τ, e1, e2, e3, e4, e5, -, -⟩ := s_readPacket d hq h hm q
          rw [rP_n hq t] at e3
          exact ⟨τ, m + 1, e1, e2, e5, e3, e4, by omega⟩
        · obtain ⟨τ, e1, e2, e3⟩ := s_readPacket8 d h hm (by omega)
          rw [pB_n t] at e3
          exact ⟨τ, m, e1, e2.up (by decide), fun f _ => by rw [e2.1 52 (by decide)], e3, by rw [e2.1 52 (by decide)]; exact hm, h8⟩
      obtain ⟨τ, m', e1, e2, e5, e3, e4, e6⟩ := step
      obtain ⟨ρ, f1, f2, f3, f4⟩ := cp_fail d t k (i + 1) m' τ (by omega) e3 e4 e6
      exact ⟨ρ, (s_44g d h (by omega) w e1).trans f1, e2.tr f2, fun f hf => (f3 f hf).trans (e5 f hf), f4⟩
    · exact ⟨σ, s_44x d h (by omega) (fun _ => w), sm.rf _ _, fun _ _ => rfl, h⟩
theorem m_pexit (d : Nat) {σ : ax_S} {b : Nat → Int32} {n : Nat} {T : TK} (w1 w2 w3 : Value) (h1 : c1 w1) (h2 : c1 w2) (h3 : c1 w3) (h : MSt σ b n T) (w : ¬ (T.1 = 0 ∧ nmT b W1002 T)) : ev sO (d + 5) 204 48 [.ref 82, w1, w2, w3] [] σ = mTl d w2 w3 σ := by
  rw [u_204_82p48 _ _ _ h1 _ h2 _ h3, m_word (d + 4) h, Option.bind_some]
  simp only [lg_cmp_eq]
  rw [if_neg (fun z => w ((ww_1002 h.2.1).mp z))]
  unfold mTl
  rw [m_word (d + 4) h]
  simp only [lg_cmp_eq]
theorem m_pgo (d : Nat) {σ τ : ax_S} {b : Nat → Int32} {n : Nat} {T : TK} (w1 w2 w3 : Value) (h1 : c1 w1) (h2 : c1 w2) (h3 : c1 w3) (h : MSt σ b n T) (w : T.1 = 0 ∧ nmT b W1002 T) (e : cV sO (d + 4) 217 [.ref 82] σ = some τ) : ev sO (d + 5) 204 48 [.ref 82, w1, w2, w3] [] σ = ev sO (d + 5) 204 48 [.ref 82, w1, w2, w3] [] τ := by
  rw [u_204_82p48 _ _ _ h1 _ h2 _ h3, m_word (d + 4) h, Option.bind_some]
  simp only [lg_cmp_eq]
  rw [if_pos ((ww_1002 h.2.1).mpr w), e, Option.bind_some]
theorem loopPk (b : Nat → Int32) (n : Nat) : ∀ k m (T : TK) (K : Nat → Int32), m + k = 9 → m ≤ 8 → T.1 = 0 → pkI K m → ∃ m' T' K', m' ≤ 8 ∧ (T'.1 = 0 → pkI K' m') ∧ (∀ i, i < 66 → K' i = K i) ∧ (∀ d L (σ : ax_S), CSt σ b n L T → σ.1 52 6 = nI m → pwC σ K m → ∃ τ, ev sO (d + 7) 31 44 [.ref 52, .ref 5, .int (nI m)] [] σ = kTl d τ ∧ sm l5259 σ τ ∧ (∀ f, f ≠ 6 → τ.1 52 f = σ.1 52 f) ∧ CSt τ b n L T' ∧ (T'.1 = 0 → τ.1 52 6 = nI m' ∧ pwC τ K' m')) ∧ ∀ d w1 w2 w3 (σ : ax_S), c1 w1 → c1 w2 → c1 w3 → MSt σ b n T → σ.1 87 1 = nI m → pwM σ K m → ∃ ρ, ev sO (d + 5) 204 48 [.ref 82, w1, w2, w3] [] σ = mTl d w2 w3 ρ ∧ sm [82, 87] σ ρ ∧ (∀ f, nq f → ρ.1 82 f = σ.1 82 f) ∧ MSt ρ b n T' ∧ (T'.1 = 0 → ρ.1 87 1 = nI m' ∧ pwM ρ K' m' ∧ ∀ i, i ≠ 1 → i < 66 → ρ.1 87 i = σ.1 87 i)
  | 0, m, T, K, hk, hm, _, _ => absurd hk (by omega)
  | k + 1, m, T, K, hk, hm, t, hg => by
    by_cases w : nmT b W1002 T
    · by_cases q : m < 8
      · obtain ⟨T1, T2, T3, T4, T5, hq⟩ := rPP_ex b n T
        by_cases ok : T5.1 = 0
        · obtain ⟨-, -, -, -, -, g1, g2, g3⟩ := rP_ok hq ok
          have hK : ∀ i, ¬ (66 + 3 * m ≤ i ∧ i < 66 + 3 * m + 3) → (fun i => if 66 + 3 * m ≤ i ∧ i < 66 + 3 * m + 3 then rPv b T1 T2 T3 (i - (66 + 3 * m)) else K i) i = K i := fun i hi => if_neg hi
          have hK2 : ∀ r, r < 3 → (fun i => if 66 + 3 * m ≤ i ∧ i < 66 + 3 * m + 3 then rPv b T1 T2 T3 (i - (66 + 3 * m)) else K i) (66 + 3 * m + r) = rPv b T1 T2 T3 r := fun r hr => by
            (try simp only)
            rw [if_pos ⟨by omega, by omega⟩, show 66 + 3 * m + r - (66 + 3 * m) = r by omega]
          generalize (fun i => if 66 + 3 * m ≤ i ∧ i < 66 + 3 * m + 3 then rPv b T1 T2 T3 (i - (66 + 3 * m)) else K i) = K2 at hK hK2
          have hg2 : pkI K2 (m + 1) := fun j hj => by
            by_cases z : j = m
            · have z0 : K2 (66 + 3 * m) = rPv b T1 T2 T3 0 := hK2 0 (by omega)
              rw [z, z0, hK2 1 (by omega), hK2 2 (by omega)]
              exact ⟨g1.1, g1.2, g2.1, g2.2, g3.1, g3.2⟩
            · rw [hK _ (by omega), hK _ (by omega), hK _ (by omega)]
              exact hg j (by omega)
          obtain ⟨m', T', K', r1, r2, r2', r3, r4⟩ := loopPk b n k (m + 1) T5 K2 (by omega) (by omega) ok hg2
          refine ⟨m', T', K', r1, r2, fun i hi => (r2' i hi).trans (hK i (by omega)), fun d L σ h h1 h2 => ?_, fun d w1 w2 w3 σ c1' c2 c3 h h1 h2 => ?_⟩
          · obtain ⟨τ, e1, e2, e3, e4, e5, e6, e7⟩ := s_readPacket d hq h h1 q
            obtain ⟨ρ, f1, f2, f3, f4, f5⟩ := r3 d L τ e3 e4 (fun j hj r hr => by
              by_cases z : j = m
              · rw [z, hK2 r hr]
                exact e7 ok r hr
              · rw [e6 r j hr z, hK _ (by omega)]
                exact h2 j (by omega) r hr)
            exact ⟨ρ, (s_44g d h hm w e1).trans f1, e2.tr f2, fun f hf => (f3 f hf).trans (e5 f hf), f4, f5⟩
          · obtain ⟨τ, e1, e2, e3, e4, e5⟩ := m_readPacket d hq h h1 q w
            obtain ⟨e6, e7, e8⟩ := e5 ok
            obtain ⟨ρ, f1, f2, f3, f4, f5⟩ := r4 d w1 w2 w3 τ c1' c2 c3 e4 e6 (fun j hj r hr => by
              by_cases z : j = m
              · rw [z, hK2 r hr]
                exact e7 r hr
              · rw [e8 _ (by omega) (fun r' hr' => by omega), hK _ (by omega)]
                exact h2 j (by omega) r hr)
            refine ⟨ρ, (m_pgo d w1 w2 w3 c1' c2 c3 h ⟨t, w⟩ e1).trans f1, e2.tr f2, fun f hf => (f3 f hf).trans (e3 f hf), f4, fun z => ?_⟩
            obtain ⟨x1, x2, x3⟩ := f5 z
            exact ⟨x1, x2, fun i hi hi2 => (x3 i hi hi2).trans (e8 i hi (fun r' hr' => by omega))⟩
        · refine ⟨m, T5, K, hm, fun z => absurd z ok, fun _ _ => rfl, fun d L σ h h1 h2 => ?_, fun d w1 w2 w3 σ c1' c2 c3 h h1 h2 => ?_⟩
          · obtain ⟨τ, e1, e2, e3, e4, e5, e6, e7⟩ := s_readPacket d hq h h1 q
            obtain ⟨ρ, f1, f2, f3, f4⟩ := cp_fail d ok k (m + 1) (m + 1) τ (by omega) e3 e4 (by omega)
            exact ⟨ρ, (s_44g d h hm w e1).trans f1, e2.tr f2, fun f hf => (f3 f hf).trans (e5 f hf), f4, fun z => absurd z ok⟩
          · obtain ⟨τ, e1, e2, e3, e4, e5⟩ := m_readPacket d hq h h1 q w
            exact ⟨τ, (m_pgo d w1 w2 w3 c1' c2 c3 h ⟨t, w⟩ e1).trans (m_pexit d w1 w2 w3 c1' c2 c3 e4 (fun z => ok z.1)), e2, e3, e4, fun z => absurd z ok⟩
      · have m8 : m = 8 := by omega
        have ok : ¬ (pB 3 T).1 = 0 := by rw [pB_0 t]; simp only; omega
        refine ⟨m, pB 3 T, K, hm, fun z => absurd z ok, fun _ _ => rfl, fun d L σ h h1 h2 => ?_, fun d w1 w2 w3 σ c1' c2 c3 h h1 h2 => ?_⟩
        · obtain ⟨τ, e1, e2, e3⟩ := s_readPacket8 d h h1 m8
          obtain ⟨ρ, f1, f2, f3, f4⟩ := cp_fail d ok k (m + 1) m τ (by omega) e3 (by rw [e2.1 52 (by decide)]; exact h1) hm
          exact ⟨ρ, (s_44g d h hm w e1).trans f1, (e2.up (by decide)).tr f2, fun f hf => (f3 f hf).trans (by rw [e2.1 52 (by decide)]), f4, fun z => absurd z ok⟩
        · obtain ⟨τ, e1, e2, e3⟩ := m_readPacket8 d h h1 m8
          exact ⟨τ, (m_pgo d w1 w2 w3 c1' c2 c3 h ⟨t, w⟩ e1).trans (m_pexit d w1 w2 w3 c1' c2 c3 e3 (fun z => ok z.1)), e2.1.up (by decide), e2.2, e3, fun z => absurd z ok⟩
    · exact ⟨m, T, K, hm, fun _ => hg, fun _ _ => rfl, fun d L σ h h1 h2 => ⟨σ, s_44x d h (by omega) (fun _ => w), sm.rf _ _, fun _ _ => rfl, h, fun _ => ⟨h1, h2⟩⟩, fun d w1 w2 w3 σ c1' c2 c3 h h1 h2 => ⟨σ, m_pexit d w1 w2 w3 c1' c2 c3 h (fun z => w z.2), sm.rf _ _, fun _ _ => rfl, h, fun _ => ⟨h1, h2, fun _ _ _ => rfl⟩⟩⟩
