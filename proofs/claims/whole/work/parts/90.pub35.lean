/-! THE PUBLIC METHODS, 35: copied, of both -/
theorem m_marks (d : Nat) {σ : ax_S} {n c : Nat} (law xa xb : Int32) (w2 w3 : Value) (h2 : c1 w2) (h3 : c1 w3) (hn : n ≤ 12) (hi : mI σ n) (hc : c < n) (h90 : σ.1 90 3 = 0) (hcap : ∀ k, k < 11 → (mk σ c k).toInt ≤ cap0 k) : ∃ τ, ev sO (d + 2) 233 103 [.ref 82, .int (nI c), w2, w3, .int law, .int xa, .int xb, .int 0] [] σ = ev sO (d + 2) 233 103 [.ref 82, .int (nI c), w2, w3, .int law, .int xa, .int xb, .int (nI 11)] [] τ ∧ sm [90] σ τ ∧ (∀ j, j < 3 → τ.1 90 j = σ.1 90 j) ∧ dfC (mr σ c) (τ.1 90) cap0 11 := by
  obtain ⟨τ, ⟨p1, p2, p3⟩, e⟩ := loop_P (E := fun k (τ : ax_S) => ev sO (d + 2) 233 103 [.ref 82, .int (nI c), w2, w3, .int law, .int xa, .int xb, .int (nI k)] [] τ) (N := 11) (P := fun k τ => sm [90] σ τ ∧ (∀ j, j < 3 → τ.1 90 j = σ.1 90 j) ∧ dfC (mr σ c) (τ.1 90) cap0 k) (fun k τ hk hp => by
    obtain ⟨p1, p2, p3⟩ := hp
    have e88 : τ.1 88 = σ.1 88 := p1.1 88 (by decide)
    obtain ⟨emr, -, -, -, ems, emk, -⟩ := m88 e88
    have go : ∀ v : Int32, (if v < 0 then -1000000 else v) = mr σ c k → v.toInt ≤ cap0 k → sm [90] σ (sI (sI τ 90 (4 + k) (if v < 0 then 0 else v)) 90 3 (τ.1 90 3 ||| (if v < 0 then b1 k else 0))) ∧ (∀ j, j < 3 → (sI (sI τ 90 (4 + k) (if v < 0 then 0 else v)) 90 3 (τ.1 90 3 ||| (if v < 0 then b1 k else 0))).1 90 j = σ.1 90 j) ∧ dfC (mr σ c) ((sI (sI τ 90 (4 + k) (if v < 0 then 0 else v)) 90 3 (τ.1 90 3 ||| (if v < 0 then b1 k else 0))).1 90) cap0 (k + 1) := fun v hv hv2 => by
      refine ⟨(p1.set _ _ (by decide)).set _ _ (by decide), fun j hj => ?_, ?_⟩
      · rw [sI_k _ (by omega), sI_k _ (by omega)]
        exact p2 j hj
      · exact dfC_lay (v := v) p3 hk (by rw [hv]; exact upd_self _ _) (by rw [sI_u, sI_u]) (cap0_0 k) hv2
    rw [u_233_82p103 _ _ _ _ h2 _ h3, if_pos (l11 hk), m_isKnown d τ (show c < 12 by omega) hk, Option.bind_some]
    simp only [bi_0, nI_add1]
    cases hb : bt (ms τ c) k
    · rw [if_neg (by decide), m_mark _ _ (show c < 12 by omega) hk, Option.bind_some]
      simp only [m_lay _ _ _ hk, Option.bind_some]
      have hm : 0 ≤ (mk σ c k).toInt := ((hi c hc).1 k hk).1
      rw [emk]
      refine ⟨_, go (mk σ c k) ?_ (hcap k hk), rfl⟩
      rw [if_neg (by rw [i_lt, i_0]; omega), mr_f (by rw [← ems]; exact hb)]
    · rw [if_pos (by decide), m_lay _ _ _ hk, Option.bind_some]
      refine ⟨_, go (-1) ?_ ?_, rfl⟩
      · rw [if_pos (by decide), mr_t (by rw [← ems]; exact hb)]
      · have := cap0_0 k
        rw [show (-1 : Int32).toInt = -1 from rfl]
        omega) σ ⟨sm.rf _ _, fun j hj => rfl, dfC_0 h90⟩
  exact ⟨τ, e, p1, p2, p3⟩
theorem dfP_k {f g : Nat → Int32} {cap : Nat → Int} {k : Nat} (h : dfP f g cap k) : (9999 : Int32) < f k ↔ (9999 : Int32) < g (4 + k) := by
  obtain ⟨h1, h2, -, h4⟩ := h
  cases e : bt (g 3) k
  · rw [e, if_neg (by decide)] at h1
    rw [h1]
  · rw [e, if_pos rfl] at h1
    rw [h1, h4 e]
    exact ⟨fun q => absurd q (by decide), fun q => absurd q (by decide)⟩
abbrev cpG (n : Nat) (yr : Nat → Int32) (x1 x2 x3 x4 x5 x6 : Int32) : Prop := hasP (nI n) x1 ∧ rgP 0 3 x2 ∧ rgP 1800 2000 x3 ∧ ¬ x3 < yr x1.toNatClampNeg ∧ rgP 0 6 x4 ∧ rgP 0 7 x5 ∧ rgP 0 7 x6 ∧ ¬ (x4 = 4 ∧ x5 = x6)
theorem s_yearB (d : Nat) {σ : ax_S} {n : Nat} {x : Int32} (hs : σ.1 17 0 = nI n) (hn : n ≤ 12) (h : hasP (nI n) x) : cI sO (d + 1) 91 [.ref 17, .int x] σ = some (σ.1 19 x.toNatClampNeg, σ) := by
  obtain ⟨c, hc, e⟩ := hasP_of hn h
  rw [e, s_yearOf d hs hn hc, nI_c (by omega)]
theorem m_yearB (d : Nat) {σ : ax_S} {n : Nat} {x : Int32} (hn : n ≤ 12) (h : hasP (nI n) x) : cI sO d 232 [.ref 82, .int x, .int 2] σ = some (my σ x.toNatClampNeg, σ) := by
  obtain ⟨c, hc, e⟩ := hasP_of hn h
  rw [e, m_of2 _ _ (show c < 12 by omega), nI_c (by omega)]
theorem t_copied (d : Nat) {σ : ax_S} (x1 x2 x3 x4 x5 x6 : Int32) (r : RA σ) : PB d σ 95 233 [.int x1, .int x2, .int x3, .int x4, .int x5, .int x6] := by
  obtain ⟨n, h⟩ := r.1
  obtain ⟨hn, hs, hs88, hi, hm, hm2, hE, hmo, -⟩ := rd_of h
  have i6n : ∀ {y : Int32}, rgP 0 6 y → ¬ (6 : Int32) < y := fun q => by rw [i_nlt _ 6 (by omega)]; have := q.2; omega
  by_cases hb : cpG n (σ.1 19) x1 x2 x3 x4 x5 x6
  · obtain ⟨g1, g2, g3, g4, g5, g6, g7, g8⟩ := hb
    obtain ⟨c, hc, e1⟩ := hasP_of hn g1
    obtain ⟨a, ha, e5⟩ := rgP_of (b := 7) (by omega) g6
    obtain ⟨b, hb, e6⟩ := rgP_of (b := 7) (by omega) g7
    have ha : a < 8 := by omega
    have hb : b < 8 := by omega
    obtain ⟨τ1, b1', b2, b3, b4, -, -, -, -⟩ := s_pbegin (d + 18) σ x2 x3
    obtain ⟨τ2, t1, t2, t3⟩ := s_takeMarks (d + 17) (σ := τ1) (n := n) (by rw [b2.1 17 (by decide)]; exact hs) hn hc
    obtain ⟨τ3, l1, l2, l3⟩ := s_law (d + 18) τ2 x4 ha hb
    have cr1 : cr τ1 c = cr σ c := by unfold cr; rw [b2.1 21 (by decide)]
    -- the class, behind its numbers
    have cls : ∀ β, (if bi (¬ 9999 < τ3.1 62 a ∧ ¬ 9999 < τ3.1 62 b) = 0 then some (some (Value.long (-9000000000000000002)), τ3) else ((cI sO (d + 19) 68 [.ref 17] τ3).bind fun u9 => if u9.1 = 0 then ((cI sO (d + 19) 78 [.ref 17, .ref 61, .int x1] u9.2).bind fun u10 => some (some (Value.long u10.1.toInt64), u10.2)) else some (some (Value.long (-9000000000000000003)), u9.2))) = β → ev sO (d + 20) 95 0 [.ref 0, .int x1, .int x2, .int x3, .int x4, .int x5, .int x6] [] σ = β := fun β hβ => by
      have e0 : cV sO (d + 19) 96 [.ref 61, .ref 17, .int x1] τ1 = some τ2 := by rw [e1]; exact t1
      have e00 : cI sO (d + 19) 98 [.ref 61, .int x4, .int x5, .int x6] τ2 = some (bi (¬ 9999 < τ3.1 62 a ∧ ¬ 9999 < τ3.1 62 b), τ3) := by rw [e5, e6]; exact l1
      rw [u_95_0]
      simp only [s_has, hs, s_isLand, s_isYear, s_isThing, Option.bind_some, bi_0]
      rw [if_neg (fun q => q g1), if_neg (fun q => q g2), if_neg (fun q => q g3), s_yearB _ hs hn g1, Option.bind_some]
      (try simp only)
      rw [if_neg g4, if_neg (rg01 g5), if_neg (i6n g5), if_neg (fun q => q g6), if_neg (fun q => q g7)]
      by_cases q4 : x4 = 4
      · rw [if_pos q4, if_neg (fun q => g8 ⟨q4, q⟩), b1', Option.bind_some, e0, Option.bind_some, e00, Option.bind_some]
        exact hβ
      · rw [if_neg q4, b1', Option.bind_some, e0, Option.bind_some, e00, Option.bind_some]
        exact hβ
    -- the reference, behind its numbers
    have mod : ∀ (τ : ax_S), (∀ b, b ≠ 17 → b ≠ 18 → b ≠ 19 → b ≠ 20 → b ≠ 21 → b ≠ 61 → b ≠ 62 → τ.1 b = σ.1 b) → ∃ ρ1, sm [82, 90] τ ρ1 ∧ (∀ f, f ≠ 0 → ρ1.1 82 f = τ.1 82 f) ∧ ρ1.1 90 0 = x2 ∧ ρ1.1 90 1 = x3 ∧ ρ1.1 90 2 = nI c ∧ dfC (τ3.1 62) (ρ1.1 90) (cap1 a b) 11 ∧ ev sO (d + 20) 233 0 [.ref 82, .int x1, .int x2, .int x3, .int x4, .int x5, .int x6, .null] [] τ = cpT (d + 18) a b ρ1 := fun τ ht => by
      have e88 : (sI τ 82 0 0).1 88 = σ.1 88 := by rw [sI_n _ _ (by decide), ht 88 (by decide) (by decide) (by decide) (by decide) (by decide) (by decide) (by decide)]
      have hs2 : (sI τ 82 0 0).1 88 0 = nI n := by rw [e88]; exact hs88
      obtain ⟨ρ0, k1, k2, k3, k4, k5, k6⟩ := m_clear (d + 19) (sI τ 82 0 0) x2 x3 (nI c)
      have f88 : ρ0.1 88 = σ.1 88 := by rw [k2.1 88 (by decide), e88]
      obtain ⟨emr, emy, -, -, ems, emk, hmi⟩ := m88 f88
      obtain ⟨-, emy', -⟩ := m88 e88
      have hcap : ∀ k, k < 11 → (mk ρ0 c k).toInt ≤ cap0 k := fun k hk => by
        rw [emk]
        obtain ⟨-, -, -, h4⟩ := h
        obtain ⟨-, -, -, -, q, -⟩ := h4 c hc
        exact (q k hk).2.2.1
      obtain ⟨ρ2, m1, m2, m3, m4⟩ := m_marks (d + 18) x4 (nI a) (nI b) (.int x2) (.int x3) rfl rfl hn (hmi n hi) hc (k6 3 (by decide) (by decide)) hcap
      obtain ⟨ρ1, w1, w2, w3⟩ := m_law (d + 18) (σ := ρ2) (c := c) x4 (.int x2) (.int x3) rfl rfl ha hb (show c < 12 by omega)
      have g88 : ρ2.1 88 = σ.1 88 := by rw [m2.1 88 (by decide), f88]
      obtain ⟨-, -, -, -, ems2, -, -⟩ := m88 g88
      have hd0 : dfC (τ2.1 62) (ρ2.1 90) cap0 11 := dfC_f m4 (fun k hk => by rw [t3 k hk, cr1, emr, (hE c hc).2 k hk])
      have kb : (!(bt (ms ρ2 c) 8)) = !(bt (ρ2.1 90 3) 8) := by
        have q1 := dfP_n (hd0.1 8 (by omega))
        have q2 : τ2.1 62 8 = mr σ c 8 := by rw [t3 8 (by omega), cr1, (hE c hc).2 8 (by omega)]
        rw [ems2]
        have q3 := mr_kn hi hc (show 8 < 11 by omega)
        cases z1 : bt (ms σ c) 8 <;> cases z2 : bt (ρ2.1 90 3) 8
        · rfl
        · exact absurd (q2 ▸ q1.mpr z2) (q3.mp z1)
        · have : mr σ c 8 = -1000000 := mr_t z1
          rw [← q2] at this
          rw [q1.mp this] at z2
          exact absurd z2 (by decide)
        · rfl
      obtain ⟨rel, rel2⟩ := lw_rel (law := x4) hd0 ha hb (fun q4 q => g8 ⟨q4, by rw [e5, e6, q]⟩) kb
      refine ⟨ρ1, ((sm.rf _ _).set _ _ (by decide)).tr ((k2.up (by decide)).tr ((m2.up (by decide)).tr (w2.up (by decide)))), fun f hf => ?_, ?_, ?_, ?_, ?_, ?_⟩
      · rw [w2.1 82 (by decide), m2.1 82 (by decide), k2.1 82 (by decide), sI_k _ hf]
      · rw [w3, rel2 0 (by decide), m3 0 (by decide), k3]
      · rw [w3, rel2 1 (by decide), m3 1 (by decide), k4]
      · rw [w3, rel2 2 (by decide), m3 2 (by decide), k5]
      · rw [l3, w3]
        exact rel
      · rw [u_233_82]
        simp only [m_isCard _ _ hs2 hn, m_isLand, m_isYear, m_in, l_i, l_0, show (6 : Int64).toInt = 6 by decide, show (7 : Int64).toInt = 7 by decide, Option.bind_some, bi_0]
        have g4' : ¬ x3 < my (sI τ 82 0 0) x1.toNatClampNeg := by
          rw [emy', e1, nI_c (by omega), ← (hE c hc).1]
          rw [e1, nI_c (by omega)] at g4
          exact g4
        have go : ((cV sO (d + 19) 220 [.ref 82, .int x2, .int x3, .int x1] (sI τ 82 0 0)).bind fun u7 => ev sO (d + 20) 233 103 [.ref 82, .int x1, .int x2, .int x3, .int x4, .int x5, .int x6, .int 0] [] u7) = cpT (d + 18) a b ρ1 := by
          rw [e1, e5, e6, k1, Option.bind_some, m1, w1]
        rw [if_neg (fun q => q g1), if_neg (fun q => q g2), if_neg (fun q => q g3), m_yearB _ hn g1, Option.bind_some]
        (try simp only)
        rw [if_neg g4', if_neg (fun q => q g5), if_neg (fun q => q g6), if_neg (fun q => q g7)]
        by_cases q4 : x4 = 4
        · rw [if_pos q4, if_neg (fun q => g8 ⟨q4, q⟩)]
          exact go
        · rw [if_neg q4]
          exact go
    have s3 : sm [61, 62] σ τ3 := (b2.tr (t2.up (by decide))).tr (l2.up (by decide))
    have hs3 : τ3.1 17 0 = nI n := by rw [s3.1 17 (by decide)]; exact hs
    have o3 : ∀ b, b ≠ 17 → b ≠ 18 → b ≠ 19 → b ≠ 20 → b ≠ 21 → b ≠ 61 → b ≠ 62 → τ3.1 b = σ.1 b := fun b _ _ _ _ _ q1 q2 => s3.1 b (by simp only [List.mem_cons, List.not_mem_nil, or_false]; omega)
    -- both refuse
    have refuse : ∀ (u : Int64) (ρ1 : ax_S), sm [82, 90] τ3 ρ1 → (∀ f, f ≠ 0 → ρ1.1 82 f = τ3.1 82 f) → ev sO (d + 20) 95 0 [.ref 0, .int x1, .int x2, .int x3, .int x4, .int x5, .int x6] [] σ = some (some (.long u), τ3) → ev sO (d + 20) 233 0 [.ref 82, .int x1, .int x2, .int x3, .int x4, .int x5, .int x6, .null] [] τ3 = some (some (.long u), ρ1) → PB d σ 95 233 [.int x1, .int x2, .int x3, .int x4, .int x5, .int x6] := fun u ρ1 q1 q2 q3 q4 => by
      have hSd : Sd σ ρ1 := by
        refine ⟨(s3.up (by decide)).tr (q1.up (by decide)), ?_, ?_, ?_, ?_, ?_⟩
        all_goals rw [q2 _ (by decide), s3.1 82 (by decide)]
      have hR : Rd ρ1 := Rd_c (fun b hb => by
        simp only [List.mem_cons, List.not_mem_nil, or_false] at hb
        rw [q1.1 b (by simp only [List.mem_cons, List.not_mem_nil, or_false]; omega), s3.1 b (by simp only [List.mem_cons, List.not_mem_nil, or_false]; omega)]) r.1
      exact ⟨u, τ3, ρ1, cL_ev mi_95 q3 rfl, cL_ev mi_233 q4 rfl, RA_Sd hSd hR r, Fo_Sd hSd⟩
    obtain ⟨ρ1, r1, r2, r3, r4, r5, r6, r7⟩ := mod τ3 o3
    have ka := dfP_k (r6.1 a (by omega))
    have kb := dfP_k (r6.1 b (by omega))
    by_cases qa : (9999 : Int32) < τ3.1 62 a
    · refine refuse (-9000000000000000002) ρ1 r1 r2 (cls _ ?_) (r7.trans ?_)
      · rw [bi_f (fun q => q.1 qa), if_pos rfl]
      · unfold cpT
        rw [if_pos (ka.mp qa)]
    · by_cases qb : (9999 : Int32) < τ3.1 62 b
      · refine refuse (-9000000000000000002) ρ1 r1 r2 (cls _ ?_) (r7.trans ?_)
        · rw [bi_f (fun q => q.2 qb), if_pos rfl]
        · unfold cpT
          rw [if_neg (fun q => qa (ka.mpr q)), if_pos (kb.mp qb)]
      · have r88 : ρ1.1 88 = σ.1 88 := by rw [r1.1 88 (by decide), s3.1 88 (by decide)]
        by_cases hf : n = 12
        · refine refuse (-9000000000000000003) ρ1 r1 r2 (cls _ ?_) (r7.trans ?_)
          · rw [bi_t ⟨qa, qb⟩, if_neg (by decide), s_isFull _ hs3 hn, Option.bind_some]
            simp only [bi_0]
            rw [if_neg (fun q => q hf)]
          · unfold cpT
            rw [if_neg (fun q => qa (ka.mpr q)), if_neg (fun q => qb (kb.mpr q)), r88, hs88, hf, if_pos (show nI 12 = 12 from rfl)]
        · have n12 : ¬ nI n = 12 := fun q => hf (nI_inj (b := 12) (by omega) (by omega) q)
          obtain ⟨τ4, s1, s2, s4, s5, s6, s7, s8⟩ := s_add (d + 17) x1 hs3 (show n < 12 by omega)
          have o4 : ∀ b, b ≠ 17 → b ≠ 18 → b ≠ 19 → b ≠ 20 → b ≠ 21 → b ≠ 61 → b ≠ 62 → τ4.1 b = σ.1 b := fun b q17 q18 q19 q20 q21 q1 q2 => by
            rw [s2.1 b (by simp only [List.mem_cons, List.not_mem_nil, or_false]; omega)]
            exact o3 b q17 q18 q19 q20 q21 q1 q2
          obtain ⟨ρ2, v1, v2, v3, v4, v5, v6, v7⟩ := mod τ4 o4
          have v88 : ρ2.1 88 = σ.1 88 := by rw [v1.1 88 (by decide), o4 88 (by decide) (by decide) (by decide) (by decide) (by decide) (by decide) (by decide)]
          have ka := dfP_k (v6.1 a (by omega))
          have kb := dfP_k (v6.1 b (by omega))
          obtain ⟨ρ, k1, k2, k3, k4, k5⟩ := m_keep (d + 19) (σ := ρ2) (n := n) (by rw [v88]; exact hs88) (by omega)
          have hd : dfC (τ3.1 62) (ρ2.1 90) cap0 11 := by
            refine ⟨fun k hk => ?_, v6.2⟩
            obtain ⟨z1, z2, z3, z4⟩ := v6.1 k hk
            refine ⟨z1, z2, ?_, z4⟩
            by_cases q1 : k = a
            · subst q1
              have : ¬ (9999 : Int32) < ρ2.1 90 (4 + k) := fun q => qa (ka.mpr q)
              rw [i_nlt _ 9999 (by omega)] at this
              unfold cap0
              rw [if_pos ha]
              omega
            · by_cases q2 : k = b
              · subst q2
                have : ¬ (9999 : Int32) < ρ2.1 90 (4 + k) := fun q => qb (kb.mpr q)
                rw [i_nlt _ 9999 (by omega)] at this
                unfold cap0
                rw [if_pos hb]
                omega
              · unfold cap1 at z3
                rw [if_neg (fun q => q.elim q1 q2)] at z3
                exact z3
          have cr3 : cr τ3 = cr σ := by
            funext j k
            unfold cr
            rw [s3.1 21 (by decide)]
          have hR : Rd ρ := by
            refine Rd_more (σ := σ) (τ := τ4) (ρ0 := ρ2) (x := x1) h (show n < 12 by omega) s4 ?_ ?_ ?_ (τ3.1 62) (fun j k hk => ?_) (fun b q17 q21 => ?_) k3 k4 (fun j j0 hj => by rw [k5 j j0 hj, v88]) ?_ (Or.inr ⟨c, hc, e1⟩) hd (by rw [v3]; exact g2) (by rw [v4]; exact g3)
            · rw [s5, v3, s3.1 18 (by decide), l2.1 61 (by decide), t2.1 61 (by decide), b3]
            · rw [s6, v4, s3.1 19 (by decide), l2.1 61 (by decide), t2.1 61 (by decide), b4]
            · rw [s7, s3.1 20 (by decide)]
            · rw [s8 j k hk, cr3]
            · rw [k2.1 b (by simp only [List.mem_cons, List.not_mem_nil, or_false]; omega), v1.1 b (by simp only [List.mem_cons, List.not_mem_nil, or_false]; omega)]
            · rw [v5, if_neg (show ¬ nI c < 0 from nnl (N := 0) (by omega)), e1]
          have hSd : Sd σ ρ := by
            refine ⟨(s3.up (by decide)).tr ((s2.up (by decide)).tr ((v1.up (by decide)).tr (k2.up (by decide)))), ?_, ?_, ?_, ?_, ?_⟩
            all_goals rw [k2.1 82 (by decide), v2 _ (by decide), o4 82 (by decide) (by decide) (by decide) (by decide) (by decide) (by decide) (by decide)]
          refine ⟨(nI n).toInt64, τ4, ρ, cL_ev mi_95 (cls _ ?_) rfl, cL_ev mi_233 (v7.trans ?_) rfl, RA_Sd hSd hR r, Fo_Sd hSd⟩
          · rw [bi_t ⟨qa, qb⟩, if_neg (by decide), s_isFull _ hs3 hn, Option.bind_some]
            simp only [bi_0]
            rw [if_pos hf, s1, Option.bind_some]
          · unfold cpT
            rw [if_neg (fun q => qa (ka.mpr q)), if_neg (fun q => qb (kb.mpr q)), v88, hs88, if_neg n12, k1, Option.bind_some]
  · refine AK.pb ⟨BADv, sI σ 82 0 0, cL_ev mi_95 ((u_95_0 _ σ _ _ _ _ _ _).trans ?_) rfl, cL_ev mi_233 ((u_233_82 _ σ _ _ _ _ _ _).trans ?_) rfl, Sc_0 σ⟩ r
    · simp only [s_has, hs, s_isLand, s_isYear, s_isThing, Option.bind_some, bi_0]
      by_cases g1 : hasP (nI n) x1
      · rw [if_neg (fun q => q g1)]
        by_cases g2 : rgP 0 3 x2
        · rw [if_neg (fun q => q g2)]
          by_cases g3 : rgP 1800 2000 x3
          · rw [if_neg (fun q => q g3), s_yearB _ hs hn g1, Option.bind_some]
            (try simp only)
            by_cases g4 : x3 < σ.1 19 x1.toNatClampNeg
            · rw [if_pos g4]
            · rw [if_neg g4]
              by_cases g5 : rgP 0 6 x4
              · rw [if_neg (rg01 g5), if_neg (i6n g5)]
                by_cases g6 : rgP 0 7 x5
                · rw [if_neg (fun q => q g6)]
                  by_cases g7 : rgP 0 7 x6
                  · rw [if_neg (fun q => q g7)]
                    by_cases g8 : x4 = 4 ∧ x5 = x6
                    · rw [if_pos g8.1, if_pos g8.2]
                    · exact absurd ⟨g1, g2, g3, g4, g5, g6, g7, g8⟩ hb
                  · rw [if_pos g7]
                · rw [if_pos g6]
              · by_cases q : x4 < 0
                · rw [if_pos q]
                · rw [if_neg q, if_pos]
                  rw [i_lt, i_0] at q
                  rw [i_nlt _ 6 (by omega)]
                  apply Int.lt_of_not_ge
                  exact fun z => g5 ⟨by omega, z⟩
          · rw [if_pos g3]
        · rw [if_pos g2]
      · rw [if_pos g1]
    · obtain ⟨ms0, -, -, he, -⟩ := rd_m h (ρ := sI σ 82 0 0) (sI_n _ _ (by decide))
      simp only [m_isCard _ _ ms0 hn, m_isLand, m_isYear, m_in, l_i, l_0, show (6 : Int64).toInt = 6 by decide, show (7 : Int64).toInt = 7 by decide, Option.bind_some, bi_0]
      by_cases g1 : hasP (nI n) x1
      · rw [if_neg (fun q => q g1)]
        by_cases g2 : rgP 0 3 x2
        · rw [if_neg (fun q => q g2)]
          by_cases g3 : rgP 1800 2000 x3
          · rw [if_neg (fun q => q g3), m_yearB _ hn g1, Option.bind_some]
            (try simp only)
            obtain ⟨c, hc, e1⟩ := hasP_of hn g1
            have ey : my (sI σ 82 0 0) x1.toNatClampNeg = σ.1 19 x1.toNatClampNeg := by
              rw [e1, nI_c (by omega)]
              exact (he c hc).1.symm
            rw [ey]
            by_cases g4 : x3 < σ.1 19 x1.toNatClampNeg
            · rw [if_pos g4]
            · rw [if_neg g4]
              by_cases g5 : rgP 0 6 x4
              · rw [if_neg (fun q => q g5)]
                by_cases g6 : rgP 0 7 x5
                · rw [if_neg (fun q => q g6)]
                  by_cases g7 : rgP 0 7 x6
                  · rw [if_neg (fun q => q g7)]
                    by_cases g8 : x4 = 4 ∧ x5 = x6
                    · rw [if_pos g8.1, if_pos g8.2]
                    · exact absurd ⟨g1, g2, g3, g4, g5, g6, g7, g8⟩ hb
                  · rw [if_pos g7]
                · rw [if_pos g6]
              · rw [if_pos g5]
          · rw [if_pos g3]
        · rw [if_pos g2]
      · rw [if_pos g1]
