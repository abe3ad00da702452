/-! THE PUBLIC METHODS, 38: card, of both -/
theorem t_card (d : Nat) {σ : ax_S} (r : RA σ) : PB d σ 66 219 [] := by
  obtain ⟨nd, hRD⟩ := r.1
  obtain ⟨hnd, hs17, hs88, -⟩ := rd_of hRD
  obtain ⟨m, p, hm16, hp8, hm, -, hK⟩ := rk_of r.2.1
  obtain ⟨-, -, -, n0, -, -, hK1, -, -, hK4, -⟩ := hK
  obtain ⟨rt0, n, hn, s1, s2, s3⟩ := r.2.2.2.1
  have e827 : (sI σ 82 0 0).1 82 7 = σ.1 8 0 := by rw [sI_k _ (by decide)]; exact r.2.1.2.1
  have e88 : (sI σ 82 0 0).1 88 0 = nI nd := by rw [sI_n _ _ (by decide)]; exact hs88
  have refuse : ∀ u : Int64, cL sO (d + 20) 66 [.ref 0] σ = some (u, σ) → cL sO (d + 20) 219 [.ref 82] σ = some (u, sI σ 82 0 0) → PB d σ 66 219 [] := fun u hc hm =>
    AK.pb ⟨u, sI σ 82 0 0, hc, hm, Sc_0 σ⟩ r
  by_cases h8 : σ.1 8 0 = 0
  · refine refuse (-9000000000000000002) (cL_ev mi_66 ((u_66_0 (d + 11) σ).trans ?_) rfl) (cL_ev mi_219 ((u_219_82 (d + 13) σ).trans ?_) rfl)
    · rw [s_isThere _ r.2.1.1, Option.bind_some]
      (try simp only)
      rw [if_pos h8]
    · rw [e827, if_pos h8]
  · have h8' : σ.1 8 0 = 1 := r.2.1.1.elim (fun q => absurd q h8) id
    by_cases hf : nd = 12
    · refine refuse (-9000000000000000003) (cL_ev mi_66 ((u_66_0 (d + 11) σ).trans ?_) rfl) (cL_ev mi_219 ((u_219_82 (d + 13) σ).trans ?_) rfl)
      · rw [s_isThere _ r.2.1.1, Option.bind_some]
        (try simp only)
        rw [if_neg h8, s_isFull _ hs17 hnd, Option.bind_some]
        simp only [bi_0]
        rw [if_neg (fun z => z hf)]
      · rw [e827, if_neg h8, e88, hf, if_pos (show nI 12 = 12 from rfl)]
    · have hn12 : nd < 12 := by clear h8 h8' refuse e88 e827 s3; omega
      have n12 : ¬ nI nd = 12 := fun q => hf (nI_inj (b := 12) (by omega) (by omega) q)
      generalize hb : σ.1 89 = b at s3
      -- the class begins
      obtain ⟨θ1, a1, a2, a3, a4, a5, a6, a7, a8⟩ := s_pbegin (d + 17) σ 0 1800
      obtain ⟨θ2, c1', c2, c3⟩ := s_tbegin (d + 16) (σ := θ1) (b := b) (n := n) ⟨hn, by rw [a2.1 5 (by decide)]; exact s1, fun i hi => by rw [a2.1 6 (by decide)]; exact s3 i hi⟩
      have eL : θ1.1 5 2 = σ.1 5 2 := by rw [a2.1 5 (by decide)]
      rw [eL] at c3
      have t00 : ((0, 0, nxt b n 0) : TK).1 = 0 := rfl
      have mb : ∀ τ : ax_S, τ.1 89 = σ.1 89 → τ.1 82 10 = σ.1 82 10 → ∃ ρ, cV sO (d + 19) 205 [.ref 82] τ = some ρ ∧ sm [82] τ ρ ∧ (∀ f, nq f → f ≠ 10 → f ≠ 12 → ρ.1 82 f = τ.1 82 f) ∧ ρ.1 82 10 = 0 ∧ MSt ρ b n (0, 0, nxt b n 0) := fun τ h1 h2 => by
        exact m_begins (d + 17) hn (h2.trans s2) (fun i hi => ⟨by rw [h1, hb], (s3 i hi).1, (s3 i hi).2.1⟩)
      generalize ((0, 0, nxt b n 0) : TK) = T0 at c3 t00 mb
      have te0 : tE T0 ≤ n := c3.2.1.2.2.1
      obtain ⟨T', S', A', la, ye, l1, l2, l3⟩ := card_parse b n hn t00 te0 (kc σ) (σ.1 86) m (fun s x y => grn_c s x y (fun i hi => hK1 i hi)) hm16 (fun k hk => (hK4 k hk).2) n0
      have f61 : ∀ f, θ2.1 61 f = θ1.1 61 f := fun f => by rw [c2.1 61 (by decide)]
      have k12 : θ2.1 8 1 = nI m ∧ kc θ2 = kc σ := ⟨by rw [c2.1 8 (by decide), a2.1 8 (by decide)]; exact hm, by
        rw [← kcb_8, ← kcb_8]
        exact kcb_c (fun x h1 h2 => by rw [c2.1 x (fun z => by simp only [List.mem_cons, List.not_mem_nil, or_false] at z; omega), a2.1 x (fun z => by simp only [List.mem_cons, List.not_mem_nil, or_false] at z; omega)])⟩
      obtain ⟨θ3, d1, d2, d3, d4⟩ := l2 (d + 11) (σ.1 5 2) θ2 c3 (by rw [f61, a5]) (by rw [f61, a6]) (by rw [f61, a7]) (fun k hk => by rw [c2.1 62 (by decide)]; exact a8 k hk) k12.1 k12.2
      obtain ⟨θ4, e1, e2, e3⟩ := s_passEnd (d + 17) d3
      have hpT : pTl (d + 11) θ3 = some (some (.int (bi ((pE T').1 = 0))), θ4) := by
        unfold pTl
        rw [e1, Option.bind_some, s_failed _ e3, Option.bind_some]
        by_cases t : (pE T').1 = 0
        · simp only [if_pos t, bi_t t]
          rw [if_pos trivial]
        · simp only [if_neg t, bi_f t]
          rw [if_neg (by decide)]
      have hR : cI sO (d + 19) 69 [.ref 61, .ref 5, .ref 8] σ = some (bi ((pE T').1 = 0), θ4) := by
        refine cI_ev mi_69 ((u_69_61_5_8 (d + 11) σ).trans ?_) rfl
        rw [a1, Option.bind_some, c1', Option.bind_some]
        exact d1.trans hpT
      have hcl : cV sO (d + 19) 60 [.ref 5] θ4 = some (sI θ4 5 1 0) := cV_ev mi_60 (u_60_5 _ θ4) rfl
      have p5 : (sI θ4 5 1 0).1 5 1 = 0 := sI_1 _ _ _ _
      have p52 : ∀ f, f ≠ 1 → (sI θ4 5 1 0).1 5 f = θ4.1 5 f := fun f hf => sI_k _ hf
      have p53 : ∀ a, a ≠ 5 → (sI θ4 5 1 0).1 a = θ4.1 a := fun a ha => sI_n _ _ ha
      have sC : sm [5, 61, 62] σ (sI θ4 5 1 0) := ((((a2.up (by decide)).tr (c2.up (by decide))).tr d2).tr (e2.up (by decide))).set _ _ (by decide)
      generalize sI θ4 5 1 0 = θ5 at hcl p5 p52 p53 sC
      have eC := u_66_0 (d + 11) σ
      rw [s_isThere _ r.2.1.1, Option.bind_some] at eC
      (try simp only at eC)
      rw [if_neg h8, s_isFull _ hs17 hnd, Option.bind_some] at eC
      simp only [bi_0] at eC
      rw [if_pos hf, hR, Option.bind_some] at eC
      simp only [bi_0] at eC
      rw [hcl, Option.bind_some] at eC
      have hte : (pE T').1 = 0 → T'.1 = 0 := fun z => by
        by_cases t : T'.1 = 0
        · exact t
        · rw [pE_n t] at z
          exact z
      -- the reference, whatever the class left
      have mR : ∀ τ : ax_S, (∀ x, 82 ≤ x → τ.1 x = σ.1 x) → ∃ ρ, ev sO (d + 20) 219 0 [.ref 82, .null, .null, .null, .null] [] τ = mcT (d + 13) ρ ∧ sm [82, 90] τ ρ ∧ (∀ f, nq f → f ≠ 0 → f ≠ 10 → f ≠ 12 → f ≠ 20 → ρ.1 82 f = σ.1 82 f) ∧ ρ.1 82 10 = 0 ∧ MSt ρ b n T' ∧ (T'.1 = 0 → ρ.1 90 0 = la ∧ ρ.1 90 1 = ye ∧ ρ.1 90 2 = -1 ∧ pmA (ρ.1 90) A') := fun τ ht => by
        have q82 : ∀ f, f ≠ 0 → (sI τ 82 0 0).1 82 f = σ.1 82 f := fun f hf => by rw [sI_k _ hf, ht 82 (by decide)]
        obtain ⟨u1, g1, g2, g3, g4, g5⟩ := mb (sI τ 82 0 0) (by rw [sI_n _ _ (by decide), ht 89 (by decide)]) (q82 10 (by decide))
        obtain ⟨u2, i1, i2, i3, i4, i5⟩ := l3 (d + 13) u1 g5 (by rw [g2.1 86 (by decide), sI_n _ _ (by decide), ht 86 (by decide)])
        refine ⟨u2, ?_, (((sm.rf _ _).set _ _ (by decide)).tr (g2.up (by decide))).tr i2, fun f hf h0 h10 h12 h20 => ?_, ?_, i4, i5⟩
        · refine (show ev sO (d + 13 + 7) 219 0 [.ref 82, .null, .null, .null, .null] [] τ = (if ((sI τ 82 0 0).1 82 7) = 0 then (some (some (.long (-9000000000000000002 : Int64)), (sI τ 82 0 0))) else (if ((sI τ 82 0 0).1 88 0) = 12 then (some (some (.long (-9000000000000000003 : Int64)), (sI τ 82 0 0))) else ((cV sO (d + 13 + 6) 205 [.ref 82] (sI τ 82 0 0)).bind fun u0 => ((cL sO (d + 13 + 6) 210 [.ref 82] u0).bind fun u1 => if (lg_cmp u1.1 (1667330660 : Int64)) = 0 then ((cV sO (d + 13 + 6) 213 [.ref 82, .int 1] u1.2).bind fun u2 => mcH (d + 13) u2) else ((cV sO (d + 13 + 6) 213 [.ref 82, .int 0] u1.2).bind fun u2 => mcH (d + 13) u2))))) from u_219_82 (d + 13) τ).trans ?_
          rw [q82 7 (by decide), r.2.1.2.1, if_neg h8, sI_n (x := 88) _ _ (by decide), ht 88 (by decide), hs88, if_neg n12, g1, Option.bind_some]
          exact i1
        · rw [i3 f hf h20, g3 f hf h10 h12]
          exact q82 f h0
        · rw [i3 10 (by decide) (by decide)]
          exact g4
      have e30 := e3.2.2.2.2.2.2
      have e2a := e2.1
      clear e3 d3 c3 e2 c2 a2
      by_cases t : (pE T').1 = 0
      · rw [if_neg (fun z => z t)] at eC
        obtain ⟨l4, l5, l6⟩ := l1 (hte t)
        obtain ⟨y1, y2, y3⟩ := d4 (hte t)
        have g17 : θ5.1 17 0 = nI nd := by rw [sC.1 17 (by decide)]; exact hs17
        obtain ⟨τ5, f1, f2, f3, f4, f5, f6, f7⟩ := s_add (d + 17) (σ := θ5) (n := nd) (-1000000) g17 hn12
        have hi82 : ∀ x, 82 ≤ x → τ5.1 x = σ.1 x := fun x hx => by rw [f2.1 x (fun z => by simp only [List.mem_cons, List.not_mem_nil, or_false] at z; omega), sC.1 x (fun z => by simp only [List.mem_cons, List.not_mem_nil, or_false] at z; omega)]
        obtain ⟨ρ1, r1, r2, r3, r4, r5, r6⟩ := mR τ5 hi82
        obtain ⟨k1, k2, k3, k4⟩ := r6 (hte t)
        have p88 : ρ1.1 88 = σ.1 88 := by rw [r2.1 88 (by decide), hi82 88 (by decide)]
        obtain ⟨ρ2, u1, u2, u3, u4, u5⟩ := m_keep (d + 19) (σ := ρ1) (n := nd) (by rw [p88]; exact hs88) hn12
        have p61 : ∀ f, θ5.1 61 f = θ3.1 61 f := fun f => by rw [p53 _ (by decide), e2a 61 (by decide)]
        have p62 : ∀ f, θ5.1 62 f = θ3.1 62 f := fun f => by rw [p53 _ (by decide), e2a 62 (by decide)]
        have cr2 : cr θ5 = cr σ := by
          funext j k
          unfold cr
          rw [sC.1 21 (by decide)]
        have sR : sm [5, 17, 18, 19, 20, 21, 61, 62, 82, 88, 90] σ ρ2 := (((sC.up (by decide)).tr (f2.up (by decide))).tr (r2.up (by decide))).tr (u2.up (by decide))
        have r82 : ∀ f, nq f → f ≠ 0 → f ≠ 10 → f ≠ 12 → f ≠ 20 → ρ2.1 82 f = σ.1 82 f := fun f hf h0 h10 h12 h20 => by rw [u2.1 82 (by decide)]; exact r3 f hf h0 h10 h12 h20
        have rlo : ∀ x, x ≠ 82 → x ≠ 88 → x ≠ 90 → ρ2.1 x = τ5.1 x := fun x h1 h2 h3 => by
          rw [u2.1 x (fun q => by simp only [List.mem_cons, List.not_mem_nil, or_false] at q; omega), r2.1 x (fun q => by simp only [List.mem_cons, List.not_mem_nil, or_false] at q; omega)]
        have rd : Rd ρ2 := by
          refine Rd_more (σ := σ) (τ := τ5) (ρ0 := ρ1) hRD hn12 f3 ?_ ?_ ?_ (fun k => θ5.1 62 k) (fun j k hk => ?_) (fun x h17 h21 => rlo x (by omega) (by omega) (by omega)) u3 u4 (fun j j0 hj => by rw [u5 j j0 hj, p88]) ?_ (Or.inl rfl) ?_ (by rw [k1]; exact l5) (by rw [k2]; exact l6)
          · rw [f4, k1, sC.1 18 (by decide), p61, y1]
          · rw [f5, k2, sC.1 19 (by decide), p61, y2]
          · rw [f6, sC.1 20 (by decide)]
          · rw [f7 j k hk, cr2]
          · rw [k3, if_pos (by decide)]
          · exact dfC_pg l4 (fun k hk => by rw [p62]; exact y3 k hk) k4
        have c5 : ∀ f, ρ2.1 5 f = θ5.1 5 f := fun f => by rw [rlo 5 (by decide) (by decide) (by decide), f2.1 5 (by decide)]
        have rt : Rt ρ2 := ⟨by rw [r82 11 (by decide) (by decide) (by decide) (by decide) (by decide), c5, p52 _ (by decide), e30.1 t, rt0], 0, by omega, by rw [c5, p5]; rfl, by rw [u2.1 82 (by decide), r4]; rfl, fun i hi => absurd hi (Nat.not_lt_zero i)⟩
        have rk : Rk ρ2 := Rk_c (fun a ha => sR.1 a (by simp only [List.mem_cons, List.not_mem_nil, or_false] at ha ⊢; omega)) (r82 7 (by decide) (by decide) (by decide) (by decide) (by decide)) r.2.1
        obtain ⟨w1, w2⟩ := RA_kt sR (fun a ha => by simp only [List.mem_cons, List.not_mem_nil, or_false] at ha; omega) (r82 1 (by decide) (by decide) (by decide) (by decide) (by decide)) (r82 43 (by decide) (by decide) (by decide) (by decide) (by decide)) (fun z => by rw [sR.1 8 (by decide)]; exact z) rk rd rt r
        refine ⟨(nI nd).toInt64, τ5, ρ2, cL_ev mi_66 (eC.trans ?_) rfl, cL_ev mi_219 (r1.trans ?_) rfl, w1, w2⟩
        · rw [f1, Option.bind_some]
        · unfold mcT
          rw [(m_ended (d + 18) r5).1 t, Option.bind_some]
          simp only [lg_cmp_lt]
          rw [if_neg (by decide), u1, Option.bind_some]
      · rw [if_pos t] at eC
        obtain ⟨ρ1, r1, r2, r3, r4, r5, -⟩ := mR θ5 (fun x hx => sC.1 x (fun z => by simp only [List.mem_cons, List.not_mem_nil, or_false] at z; omega))
        obtain ⟨ρ2, u1, u2, u3, u4, u5⟩ := (m_ended (d + 18) r5).2 t
        have sR : sm [5, 61, 62, 82, 90] σ ρ2 := ((sC.up (by decide)).tr (r2.up (by decide))).tr (u2.up (by decide))
        have r82 : ∀ f, nq f → f ≠ 0 → f ≠ 10 → f ≠ 12 → f ≠ 20 → f ≠ 11 → ρ2.1 82 f = σ.1 82 f := fun f hf h0 h10 h12 h20 h11 => by rw [u3 f hf h11]; exact r3 f hf h0 h10 h12 h20
        have r5' : ∀ f, ρ2.1 5 f = θ5.1 5 f := fun f => by rw [u2.1 5 (by decide), r2.1 5 (by decide)]
        obtain ⟨-, x2, x3, x4⟩ := e30.2 t
        have rt : Rt ρ2 := ⟨by rw [u4, r5', p52 _ (by decide), x2], 0, by omega, by rw [r5', p5]; rfl, by rw [u3 10 (by decide) (by decide), r4]; rfl, fun i hi => absurd hi (Nat.not_lt_zero i)⟩
        have rk : Rk ρ2 := Rk_c (fun a ha => sR.1 a (by simp only [List.mem_cons, List.not_mem_nil, or_false] at ha ⊢; omega)) (r82 7 (by decide) (by decide) (by decide) (by decide) (by decide) (by decide)) r.2.1
        have rd : Rd ρ2 := Rd_c (fun a ha => sR.1 a (by simp only [List.mem_cons, List.not_mem_nil, or_false] at ha ⊢; omega)) r.1
        obtain ⟨w1, w2⟩ := RA_kt sR (fun a ha => by simp only [List.mem_cons, List.not_mem_nil, or_false] at ha; omega) (r82 1 (by decide) (by decide) (by decide) (by decide) (by decide) (by decide)) (r82 43 (by decide) (by decide) (by decide) (by decide) (by decide) (by decide)) (fun z => by rw [sR.1 8 (by decide)]; exact z) rk rd rt r
        refine ⟨(-9000000000000000100 : Int64) - (nI (pE T').2.1).toInt64, θ5, ρ2, cL_ev mi_66 (eC.trans ?_) rfl, cL_ev mi_219 (r1.trans ?_) rfl, w1, w2⟩
        · have q1 : cI sO (d + 19) 61 [.ref 5] θ5 = some (nI (pE T').2.1, θ5) := by
            refine cI_ev mi_61 ((u_61_5 _ _).trans ?_) rfl
            rw [p52 _ (by decide), x3]
          rw [q1, Option.bind_some]
        · unfold mcT
          rw [u1, Option.bind_some]
          simp only [lg_cmp_lt]
          rw [if_pos]
          exact L_nos u5
