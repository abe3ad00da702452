/-! THE PUBLIC METHODS, 41: first -/
theorem enc_b {f : Nat → Nat} {v : Int32} {b : Nat} (hb : b < 32) : ∀ k, k ≤ 6 → bt (encF f v k) b = true → b < k
  | 0, _, h => by
    have h : bt 0 b = true := h
    rw [bt_0] at h
    cases h
  | k + 1, hk, h => by
    have h : bt (if v = -1000000 ∨ v = nI (f k) then encF f v k ||| (1 <<< (nI k &&& 31)) else encF f v k) b = true := h
    by_cases q : v = -1000000 ∨ v = nI (f k)
    · rw [if_pos q, bt_or, Bool.or_eq_true] at h
      obtain z | z := h
      · have := enc_b hb k (by omega) z
        omega
      · have z : bt (b1 k) b = true := z
        rw [bt_1 (by omega) hb] at z
        have := of_decide_eq_true z
        omega
    · rw [if_neg q] at h
      have := enc_b hb k (by omega) h
      omega
theorem m_fi1 (d : Nat) {ω : ax_S} {n e m : Nat} {E K : Nat → Nat} {F : Nat → Nat → Nat} {u cd : Nat → Nat → Int32} {G : Nat → Prop} (w1 : Value) (h1 : c1 w1) (i : Int32) (hm : m < 11) (h : MX ω n e E K F u cd) (h98 : ∀ v, v < allN e → (ω.1 98 v = 0 ↔ ¬ G v)) : ∃ (τ ρ : ax_S) (S : Int32), ev sO (d + 6) 268 39 [.ref 82, w1, .int (nI m), .int i, .int 0, .int 0, .null, .null] [] ω = ev sO (d + 6) 268 122 [.ref 82, w1, .int (nI m), .int i, .int S, .int 0, .int (-1000000), .int 0] [] ρ ∧ sm [82, 92, 93, 94, 95, 96, 97] ω ρ ∧ (∀ f, f ≠ 29 → f ≠ 33 → ρ.1 82 f = ω.1 82 f) ∧ ρ.1 82 33 = nI (K m) ∧ (∀ j, j < K m → ρ.1 97 j = nI (F m j)) ∧ ∀ b, b < 32 → (bt S b = true ↔ K m ≠ 0 ∧ ∃ v, v < allN e ∧ G v ∧ bt (tpT e (qT e v) (cd m)) b = true) := by
  have hal := allN_le e
  have h' := h
  obtain ⟨b1', b2, b3, b4, b5, b6, b7, b8, b9⟩ := h
  obtain ⟨⟨S, w6, τ⟩, ⟨q6, p1, p2, p3⟩, a1⟩ := loop_P (E := fun v (s : Int32 × Value × ax_S) => ev sO (d + 6) 268 39 [.ref 82, w1, .int (nI m), .int i, .int s.1, .int (nI v), s.2.1, .null] [] s.2.2) (N := allN e) (P := fun v s => c1 s.2.1 ∧ sm [82, 92, 93, 94, 95, 96, 97] ω s.2.2 ∧ (∀ f, f ≠ 29 → f ≠ 33 → s.2.2.1 82 f = ω.1 82 f) ∧ ∀ b, b < 32 → (bt s.1 b = true ↔ K m ≠ 0 ∧ ∃ v', v' < v ∧ G v' ∧ bt (tpT e (qT e v') (cd m)) b = true)) (fun v s hv hp => by
    obtain ⟨S, w6, τ⟩ := s
    obtain ⟨q6, p1, p2, p3⟩ := hp
    simp only at q6 p1 p2 p3 ⊢
    have h25 : τ.1 82 25 = nI e := by rw [p2 25 (by decide) (by decide)]; exact b5
    have eu := u_268_82p39 d τ w1 h1 (nI m) i S (nI v) w6 q6 .null rfl
    rw [m_allTrees _ b2 b3 h25, Option.bind_some] at eu
    (try simp only at eu)
    rw [if_pos (nlt hv), gd_t (nI_g (show v < 945 by omega) (by omega)), nI_c (show v < 2147483648 by omega), p1.1 98 (by decide), nI_add1] at eu
    have grow : ∀ {v' : Nat}, v' < v + 1 → v' < v ∨ v' = v := fun h => by omega
    by_cases c0 : ω.1 98 v = 0
    · rw [if_pos c0] at eu
      have hG := (h98 v hv).mp c0
      refine ⟨(S, w6, τ), ⟨q6, p1, p2, fun b hb => (p3 b hb).trans ⟨fun z => ⟨z.1, ?_⟩, fun z => ⟨z.1, ?_⟩⟩⟩, eu⟩
      · obtain ⟨-, v', x1, x2⟩ := z
        exact ⟨v', by omega, x2⟩
      · obtain ⟨-, v', x1, x2, x3⟩ := z
        obtain y | y := grow x1
        · exact ⟨v', y, x2, x3⟩
        · rw [y] at x2
          exact absurd x2 hG
    · rw [if_neg c0] at eu
      have hG : G v := Classical.byContradiction (fun z => c0 ((h98 v hv).mpr z))
      obtain ⟨hq, hq2⟩ := qT_of b2 b3 hv
      obtain ⟨-, -, -, -, -, hwk⟩ := chk_of b2 b3 hv
      obtain ⟨b, g1, g2, g3, g4⟩ := m_layTree (d + 4) (σ := τ) (e := e) (t := v) b2 b3 (by omega) h25 hwk
      rw [g1, Option.bind_some] at eu
      have hb : MX b n e E K F u cd := MX_c (by rw [g2.1 88 (by decide), p1.1 88 (by decide)]) (by rw [g2.1 91 (by decide), p1.1 91 (by decide)]) (by rw [g3 25 (by decide), p2 25 (by decide) (by decide)]) h'
      obtain ⟨-, -, -, f4, f5, f6, f7, -, -⟩ := hb
      obtain ⟨ρ, r1, r2, r3, r4, r5, r6⟩ := m_changesOf (d + 2) (σ := b) (t := qT e v) (W := cd m) b1' b2 b3 hq hm f4 f5 f6 (f7 m hm) (b8 m hm) (b9 m hm) (by rw [hq2]; exact g4)
      rw [r1, Option.bind_some] at eu
      (try simp only at eu)
      rw [r4] at eu
      have hK6 : K m ≤ 6 := Nat.le_trans (b8 m hm).1 b3
      have sρ : sm [82, 92, 93, 94, 95, 96, 97] ω ρ := (p1.tr (g2.up (by decide))).tr (r2.up (by decide))
      have fρ : ∀ f, f ≠ 29 → f ≠ 33 → ρ.1 82 f = ω.1 82 f := fun f f1 f2 => by rw [r3 f f2, g3 f f1, p2 f f1 f2]
      have h5 := nT_le b2 b3 hq (cd m)
      by_cases k0 : K m = 0
      · rw [if_pos (show nI (K m) = 0 by rw [k0]; rfl), Int32.or_zero] at eu
        exact ⟨(S, .int (nI (if K m = 0 then 0 else nT e (qT e v) (cd m))), ρ), ⟨rfl, sρ, fρ, fun b hb => (p3 b hb).trans ⟨fun z => absurd k0 z.1, fun z => absurd k0 z.1⟩⟩, eu⟩
      · have top : (mTree e v).2.2.2 < 11 := g4.1.1.2.2.2
        have e29 : ρ.1 82 29 = nI (mTree e v).2.2.2 := by rw [r3 29 (by decide)]; exact g4.1.2.2.2
        rw [if_neg (show ¬ nI (K m) = (0 : Int32) from fun z => k0 (nI_inj (b := 0) (by omega) (by omega) z)), if_neg (show ¬ nI (if K m = 0 then 0 else nT e (qT e v) (cd m)) < (0 : Int32) from nnl (N := 0) (Nat.zero_le _) (by split <;> omega)), e29, gd_t (nI_g top (by omega)), nI_c (show (mTree e v).2.2.2 < 2147483648 by omega)] at eu
        have h96 := r6 k0
        rw [hq2] at h96
        rw [h96] at eu
        refine ⟨(S ||| tpT e (qT e v) (cd m), .int (nI (if K m = 0 then 0 else nT e (qT e v) (cd m))), ρ), ⟨rfl, sρ, fρ, fun b hb => ?_⟩, eu⟩
        (try simp only)
        rw [bt_or, Bool.or_eq_true, p3 b hb]
        constructor
        · rintro (⟨z1, v', x1, x2⟩ | z)
          · exact ⟨z1, v', by omega, x2⟩
          · exact ⟨k0, v, by omega, hG, z⟩
        · rintro ⟨z1, v', x1, x2, x3⟩
          obtain y | y := grow x1
          · exact Or.inl ⟨z1, v', y, x2, x3⟩
          · rw [y] at x3
            exact Or.inr x3) (0, .null, ω) ⟨rfl, sm.rf _ _, fun _ _ _ => rfl, fun b _ => ⟨fun z => absurd z (by rw [bt_0]; decide), fun ⟨_, v', hv', _⟩ => absurd hv' (Nat.not_lt_zero v')⟩⟩
  simp only at q6 p1 p2 p3 a1
  have eu := u_268_82p39 d τ w1 h1 (nI m) i S (nI (allN e)) w6 q6 .null rfl
  rw [m_allTrees _ b2 b3 (by rw [p2 25 (by decide) (by decide)]; exact b5), Option.bind_some] at eu
  (try simp only at eu)
  rw [if_neg (nnl (Nat.le_refl _) (by omega))] at eu
  have hb : MX τ n e E K F u cd := MX_c (p1.1 88 (by decide)) (p1.1 91 (by decide)) (p2 25 (by decide) (by decide)) h'
  obtain ⟨-, -, -, f4, f5, f6, f7, -, -⟩ := hb
  obtain ⟨ρ, r1, r2, r3, r4, r5⟩ := m_layValues (d + 3) (σ := τ) (m := m) b1' b3 hm (b8 m hm) f4 f5 f6.1 (f7 m hm)
  rw [r1, Option.bind_some] at eu
  exact ⟨τ, ρ, S, Eq.trans a1 eu, p1.tr (r2.up (by decide)), fun f f1 f2 => by rw [r3 f f2, p2 f f1 f2], r4, r5, p3⟩
theorem m_fi2 (d : Nat) {ρ : ax_S} {K : Nat} {F : Nat → Nat} {S i : Int32} (w1 w2 : Value) (h1 : c1 w1) (h2 : c1 w2) (hK : K ≤ 6) (hi : ¬ i < -1) (h33 : ρ.1 82 33 = nI K) (h97 : ∀ j, j < K → ρ.1 97 j = nI (F j)) : ∀ r k, k + r = K → ev sO (d + 6) 268 122 [.ref 82, w1, w2, .int i, .int S, .int (nI (vlP (bt S) k).length), .int (fdv (vlP (bt S) k) (fun j => nI (F j)) i), .int (nI k)] [] ρ = some (some (.long (sjv (vlP (bt S) K) (fun j => (nI (F j)).toInt64) i)), ρ)
  | 0, k, hk => by
    have hk : k = K := by omega
    subst hk
    rw [u_268_82p122 d ρ w1 h1 w2 h2 i S _ _ (nI k), h33, if_neg (nnl (Nat.le_refl _) (by omega)), fdv_sj (f := fun j => nI (F j)) hi]
    by_cases q : i = -1
    · rw [if_pos q, if_pos q]
    · rw [if_neg q, if_neg q]
  | r + 1, k, hk => by
    have ih := m_fi2 d (S := S) w1 w2 h1 h2 hK hi h33 h97 r (k + 1) (by omega)
    have hle := vlP_le (bt S) k
    have eu := u_268_82p122 d ρ w1 h1 w2 h2 i S (nI (vlP (bt S) k).length) (fdv (vlP (bt S) k) (fun j => nI (F j)) i) (nI k)
    rw [h33, if_pos (nlt (show k < K by omega))] at eu
    simp only [bt_at S (show k < 32 by omega), nI_c (show k < 2147483648 by omega), h97 k (by omega), nI_add1] at eu
    by_cases q : bt S k = true
    · rw [if_pos (show (if bt S k = true then (1 : Int32) else 0) = 1 from if_pos q)] at eu
      rw [show (if bt S k = true then (1 : Int32) else 0) = 1 from if_pos q, nI_add1] at eu
      rw [vlP_t q, List.length_append, List.length_singleton] at ih
      by_cases w : nI (vlP (bt S) k).length = i
      · rw [if_pos w, gd_t (nI_g (show k < 6 by omega) (by omega))] at eu
        rw [← w, fdv_hit (by omega), w] at ih
        exact eu.trans ih
      · rw [if_neg w] at eu
        rw [fdv_miss (by omega) w] at ih
        exact eu.trans ih
    · rw [if_neg (show ¬ (if bt S k = true then (1 : Int32) else 0) = 1 by rw [if_neg q]; decide)] at eu
      rw [show (if bt S k = true then (1 : Int32) else 0) = 0 from if_neg q, Int32.add_zero] at eu
      rw [vlP_f q] at ih
      exact eu.trans ih
theorem t_first (d : Nat) {σ : ax_S} (x y i : Int32) (r : RA σ) (hF : FI σ) : PT d σ 156 268 [.int x, .int y, .int i] := by
  obtain ⟨n, hRD⟩ := r.1
  obtain ⟨hn, h17, h88, -⟩ := rd_of hRD
  have e88 : (sI σ 82 0 0).1 88 0 = nI n := by rw [sI_n _ _ (by decide)]; exact h88
  have pw : 2 ^ n ≤ 4096 := pw_lt hn
  have ec := u_156_0 (d + 16) σ x y i
  have em := u_268_82 (d + 14)
  obtain ⟨X, rfl, hX, p2, p6, g1⟩ | ⟨hno, g1⟩ := s_isGrove (d + 18) (σ := σ) x hn h17
  · rw [g1, Option.bind_some] at ec
    (try simp only at ec)
    rw [if_neg (show ¬ (1 : Int32) = 0 by decide), s_isMark, Option.bind_some] at ec
    simp only [bi_0] at ec
    have refuse : (¬ mkP y ∨ i < -1) → PT d σ 156 268 [.int (nI X), .int y, .int i] := fun hz => by
      obtain ⟨ρ, a1, a2, a3, -⟩ := m_areEnds (d + 18) (σ := sI σ 82 0 0) (n := n) (X := X) hn e88 hX p2 p6
      have eml := em σ (nI X) y i
      rw [a1, Option.bind_some] at eml
      (try simp only at eml)
      rw [if_neg (show ¬ (1 : Int32) = 0 by decide), m_isMark, Option.bind_some] at eml
      simp only [bi_0] at eml
      have f : ∀ f, f ≠ 0 → f ≠ 25 → ρ.1 82 f = σ.1 82 f := fun f f0 f25 => by rw [a3 f f25, sI_k _ f0]
      have hS : Sc σ ρ := ⟨((sm.rf _ _).set _ _ (by decide)).tr (a2.up (by decide)), f 1 (by decide) (by decide), f 7 (by decide) (by decide), f 10 (by decide) (by decide), f 11 (by decide) (by decide), f 43 (by decide) (by decide)⟩
      by_cases hy : mkP y
      · have hi : i < -1 := hz.elim (fun z => absurd hy z) id
        rw [if_neg (fun z => z hy), if_pos hi] at ec eml
        exact ⟨_, σ, ρ, cL_ev mi_156 ec rfl, cL_ev mi_268 eml rfl, RA_Sc hS r, FI_c (Fo_Sc hS) hF⟩
      · rw [if_pos hy] at ec eml
        exact ⟨_, σ, ρ, cL_ev mi_156 ec rfl, cL_ev mi_268 eml rfl, RA_Sc hS r, FI_c (Fo_Sc hS) hF⟩
    by_cases hy : mkP y
    · by_cases hi : i < -1
      · exact refuse (Or.inr hi)
      · obtain ⟨m, hm2, rfl, hm3⟩ := i_nI hy.1
        have hm : m < 11 := by
          have := hy.2
          omega
        rw [if_neg (fun z => z hy), if_neg hi] at ec
        obtain ⟨τ, K, F, cd, k1, fr, k3, -, k5, k6, k7, k8⟩ := t_grow (d + 16) hRD hF hX p2 p6
        have hlen := enL_len hn hX
        have e2 : 2 ≤ (enL X n).length := by omega
        have e6 : (enL X n).length ≤ 6 := by omega
        obtain ⟨kR, k70, k69, kcd⟩ := k8 m hm
        have hK6 : K m ≤ 6 := Nat.le_trans kR.1 e6
        have eml := em τ (nI X) (nI m) i
        obtain ⟨ρ, a1, a2, a3⟩ := m_grove (d + 18) (K := K) (F := F) (cd := cd) hRD fr hX p2 p6 (fun m hm => ⟨(k8 m hm).1, (k8 m hm).2.2.2⟩)
        obtain ⟨ω, s1, s2, s3, s4⟩ := m_seekTrees (d + 14) a3
        obtain ⟨L, w, t1, t2, t3, t4, ⟨t0, t01, t02⟩, -, t7, t8, t9⟩ := GA_GR e2 e6 (fun m hm => (k8 m hm).1) (fun m hm => (k8 m hm).2.2.2) k5 s4
        rw [a1, Option.bind_some] at eml
        (try simp only at eml)
        rw [if_neg (show ¬ (1 : Int32) = 0 by decide), m_isMark, Option.bind_some] at eml
        simp only [bi_0] at eml
        rw [if_neg (fun z => z hy), if_neg hi, s1, Option.bind_some] at eml
        have rA : RA τ := RA_fo fr r
        have hMX : MX ω n (enL X n).length (gN (enL X n)) K F (fun m j => mr σ (gN (enL X n) j) m) cd := MX_c (s2.1 88 (by decide)) (s2.1 91 (by decide)) (s3 25 (by decide) (by decide) (by decide) (by decide)) a3
        have hq : ∀ v, v < allN (enL X n).length → (ω.1 98 v = 0 ↔ ¬ nA (enL X n).length cd (qT (enL X n).length v) = L) := fun v hv => by
          obtain ⟨q1, q2⟩ := qT_of e2 e6 hv
          have := t9 _ q1
          rw [q2] at this
          rw [this]
          by_cases z : nA (enL X n).length cd (qT (enL X n).length v) = L
          · rw [if_pos z]
            exact ⟨fun y => absurd y (by decide), fun y => absurd z y⟩
          · rw [if_neg z]
            exact ⟨fun _ => z, fun _ => rfl⟩
        obtain ⟨-, b, S, c1', c2, c3, c4, c5, c6⟩ := m_fi1 (d + 14) (G := fun v => nA (enL X n).length cd (qT (enL X n).length v) = L) (.int (nI X)) rfl i hm hMX hq
        obtain ⟨v1, v2⟩ := vy_K (m := m) (K := K) (F := F) (u := fun m j => mr σ (gN (enL X n) j) m) (cd := cd) e2 kR kcd
        have pi0 : piT (enL X n).length t0 < allN (enL X n).length := by
          obtain ⟨-, -, -, -, -, hu⟩ := chd_of e2 e6 t01
          exact hu
        have hS : S = τ.1 79 m := bt_eq (fun b hb => by
          rw [c6 b hb]
          by_cases q : vyB cd (enL X n).length m = true
          · have hq : andC (cd m) (enL X n).length = 0 ∧ orC (cd m) (enL X n).length ≠ 0 := of_decide_eq_true q
            rw [t7 m hm q b hb]
            constructor
            · rintro ⟨-, v, x1, x2, x3⟩
              obtain ⟨q1, q2⟩ := qT_of e2 e6 x1
              exact ⟨_, q1, x2, x3⟩
            · rintro ⟨t, x1, x2, x3⟩
              obtain ⟨-, -, -, -, -, hu⟩ := chd_of e2 e6 x1
              refine ⟨fun z => hq.2 (v1 z).2, piT (enL X n).length t, hu, ?_, ?_⟩
              · (try simp only)
                rw [qT_pi e2 e6 x1]
                exact x2
              · rw [qT_pi e2 e6 x1]
                exact x3
          · rw [t8 m hm (by simpa using q)]
            constructor
            · rintro ⟨z, v, x1, x2, x3⟩
              obtain ⟨q1, q2⟩ := qT_of e2 e6 x1
              rw [(nT_common e2 e6 q1 (fun y => q (decide_eq_true ⟨y, v2 z⟩))).2] at x3
              exact x3
            · intro z
              have hk : K m ≠ 0 := fun y => by
                rw [(v1 y).1, bt_0] at z
                cases z
              refine ⟨hk, piT (enL X n).length t0, pi0, ?_, ?_⟩
              · (try simp only)
                rw [qT_pi e2 e6 t01]
                exact t02
              · rw [qT_pi e2 e6 t01, (nT_common e2 e6 t01 (bt_nz z)).2]
                exact z)
        have hbK : ∀ b, b < 32 → bt (τ.1 79 m) b = true → b < K m := fun b hb z => by
          rw [← hS] at z
          obtain ⟨-, v, x1, -, x3⟩ := (c6 b hb).mp z
          obtain ⟨q1, -⟩ := qT_of e2 e6 x1
          obtain ⟨j, j1, j2⟩ := tpT_b e2 e6 q1 x3
          rw [kcd j j1] at j2
          exact enc_b hb (K m) hK6 j2
        have fin := m_fi2 (d + 14) (ρ := b) (K := K m) (F := F m) (S := S) (i := i) (.int (nI X)) (.int (nI m)) rfl rfl hK6 hi c4 c5 (K m) 0 (by omega)
        have hf0 : fdv (vlP (bt S) 0) (fun j => nI (F m j)) i = -1000000 := by
          unfold fdv
          exact if_neg (fun z => by
            have h1 := z.1
            have h2 : i.toInt < ((0 : Nat) : Int) := z.2
            omega)
        rw [hf0] at fin
        have hlist : vlP (bt (τ.1 79 m)) 6 = vlP (bt S) (K m) := by
          rw [hS]
          refine inc_eq _ _ (vlP_pw _ _) (vlP_pw _ _) (fun b => ?_)
          rw [vlP_m, vlP_m]
          exact ⟨fun z => ⟨hbK b (by omega) z.2, z.2⟩, fun z => ⟨by omega, z.2⟩⟩
        rw [k1, Option.bind_some, s_firstValue (d + 17) hm hK6 k70 k69 (fun j hj z => hbK j (by omega) z) hi, Option.bind_some, hlist] at ec
        have hSc : Sc τ b := Sc_tr a2 (Sc_tr (Sc_seek s2 s3) ⟨c2.up (by decide), c3 1 (by decide) (by decide), c3 7 (by decide) (by decide), c3 10 (by decide) (by decide), c3 11 (by decide) (by decide), c3 43 (by decide) (by decide)⟩)
        exact ⟨_, τ, b, cL_ev mi_156 ec rfl, cL_ev mi_268 (eml.trans (c1'.trans fin)) rfl, RA_Sc hSc rA, FI_c (Fo_Sc hSc) k3⟩
    · exact refuse (Or.inl hy)
  · rw [g1, Option.bind_some] at ec
    (try simp only at ec)
    rw [if_pos trivial] at ec
    have eml := em σ x y i
    rw [m_noEnds (d + 18) x hn e88 hno, Option.bind_some] at eml
    (try simp only at eml)
    rw [if_pos trivial] at eml
    exact ⟨_, σ, _, cL_ev mi_156 ec rfl, cL_ev mi_268 eml rfl, RA_Sc (Sc_0 σ) r, FI_c (Fo_Sc (Sc_0 σ)) hF⟩
