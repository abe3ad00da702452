/-! THE PUBLIC METHODS, 37: kitchen -/
theorem L_nos {x : Nat} (h : x ≤ 500) : (-9000000000000000100 : Int64) - (nI x).toInt64 < 0 := by
  rw [Int64.lt_iff_toInt_lt, Int64.toInt_sub, l_i, nI_i (by omega), show (-9000000000000000100 : Int64).toInt = -9000000000000000100 by decide, l_0, Int.bmod_eq_of_le (by omega) (by omega)]
  omega
theorem m_zero (d : Nat) (w2 w3 : Value) (h2 : c1 w2) (h3 : c1 w3) (σ : ax_S) : ∃ τ, ev sO (d + 5) 204 7 [.ref 82, .int 0, w2, w3] [] σ = ((cV sO (d + 4) 205 [.ref 82] τ).bind fun u0 => ev sO (d + 5) 204 30 [.ref 82, .int 102, w2, w3] [] u0) ∧ sm [87] σ τ ∧ ∀ i, i < 102 → τ.1 87 i = 0 := by
  obtain ⟨τ, ⟨p1, p2⟩, e⟩ := loop_P (E := fun k (τ : ax_S) => ev sO (d + 5) 204 7 [.ref 82, .int (nI k), w2, w3] [] τ) (N := 102) (P := fun k τ => sm [87] σ τ ∧ ∀ i, i < k → τ.1 87 i = 0) (fun k τ hk hp => by
    obtain ⟨p1, p2⟩ := hp
    refine ⟨sI τ 87 k 0, ⟨p1.set _ _ (by decide), fun i hi => ?_⟩, ?_⟩
    · by_cases q : i = k
      · rw [q, sI_1]
      · rw [sI_k _ q]
        exact p2 i (by omega)
    · (try simp only)
      rw [u_204_82p7 _ _ _ _ h2 _ h3, if_pos (show nI k < (102 : Int32) from nlt (N := 102) hk), gd_t (nI_g hk (by omega)), nI_add1, nI_c (by omega)]) σ ⟨sm.rf _ _, fun i hi => absurd hi (Nat.not_lt_zero i)⟩
  refine ⟨τ, Eq.trans e ?_, p1, p2⟩
  (try simp only)
  rw [u_204_82p7 _ _ _ _ h2 _ h3, if_neg (show ¬ nI 102 < (102 : Int32) from nnl (N := 102) (Nat.le_refl _))]
  rfl
theorem u168L (d : Nat) (σ : ax_S) (y1 : Int64) (w2 : Value) (hw2 : w2.category = 1) (x3 : Int32) : ev sO (d + 5) 204 168 [.ref 82, .long y1, w2, .int x3] [] σ = if x3 < (102 : Int32) then (gd (0 ≤ x3.toInt ∧ x3.toInt < (102 : Nat)) (gd (0 ≤ x3.toInt ∧ x3.toInt < (102 : Nat)) (ev sO (d + 5) 204 168 [.ref 82, .long y1, w2, .int (x3 + (1 : Int32))] [] (sI σ 86 x3.toNatClampNeg (σ.1 87 x3.toNatClampNeg))))) else (some (some (.long ((((sI σ 88 0 (0 : Int32)).1 86 0) + ((sI σ 88 0 (0 : Int32)).1 86 1)).toInt64)), (sI σ 88 0 (0 : Int32)))) := by
  refine (E_il c_204_168 rfl).trans ?_
  refine (E_ic (v := (102 : Int32)) c_204_169 (by decide)).trans ?_
  refine (E_br_ge (q := 192) c_204_171 rfl).trans (ax_ite ?_ ?_)
  · refine (E_al c_204_174 rfl (by decide)).trans ?_
    refine (E_gfr (k := 5) (r := 86) c_204_175 sh_82 rfl rfl rfl).trans ?_
    refine (E_il c_204_178 rfl).trans ?_
    refine (E_al c_204_179 rfl (by decide)).trans ?_
    refine (E_gfr (k := 6) (r := 87) c_204_180 sh_82 rfl rfl rfl).trans ?_
    refine (E_il c_204_183 rfl).trans ?_
    refine (E_ial c_204_184 sh_87).trans (ax_gd ?_)
    refine (E_ias (v := (σ.1 87 x3.toNatClampNeg)) c_204_185 sh_86 rfl).trans (ax_gd ?_)
    refine (E_inc (v := (1 : Int32)) (L' := [.ref 82, .long y1, w2, .int (x3 + (1 : Int32))]) c_204_186 rfl (by decide) (by simp [ax_st1, ax_drp, hw2])).trans ?_
    refine (E_goto (q := 168) c_204_189 rfl).trans ?_
    rfl
  · refine (E_al c_204_192 rfl (by decide)).trans ?_
    refine (E_gfr (k := 8) (r := 88) c_204_193 sh_82 rfl rfl rfl).trans ?_
    refine (E_ic (v := (0 : Int32)) c_204_196 (by decide)).trans ?_
    refine (E_ic (v := (0 : Int32)) c_204_197 (by decide)).trans ?_
    refine (E_iask (k := 0) (v := (0 : Int32)) c_204_198 sh_88 rfl (by decide) (by decide)).trans ?_
    refine (E_al c_204_199 rfl (by decide)).trans ?_
    refine (E_gfr (k := 5) (r := 86) c_204_200 sh_82 rfl rfl rfl).trans ?_
    refine (E_ic (v := (0 : Int32)) c_204_203 (by decide)).trans ?_
    refine (E_ialk (k := 0) c_204_204 sh_86 (by decide) (by decide)).trans ?_
    refine (E_al c_204_205 rfl (by decide)).trans ?_
    refine (E_gfr (k := 5) (r := 86) c_204_206 sh_82 rfl rfl rfl).trans ?_
    refine (E_ic (v := (1 : Int32)) c_204_209 (by decide)).trans ?_
    refine (E_ialk (k := 1) c_204_210 sh_86 (by decide) (by decide)).trans ?_
    refine (E_iadd c_204_211).trans ?_
    refine (E_i2l c_204_212).trans ?_
    exact E_rL c_204_213 mi_204
set_option maxHeartbeats 4000000 in
theorem m_kcopy (d : Nat) (w1 : Int64) (w2 : Value) (h2 : c1 w2) (σ : ax_S) : ∃ τ, ev sO (d + 5) 204 168 [.ref 82, .long w1, w2, .int 0] [] σ = some (some (.long ((τ.1 86 0 + τ.1 86 1).toInt64)), sI τ 88 0 0) ∧ sm [86] σ τ ∧ ∀ i, i < 102 → τ.1 86 i = σ.1 87 i := by
  obtain ⟨τ, ⟨p1, p2⟩, e⟩ := loop_P (E := fun k (τ : ax_S) => ev sO (d + 5) 204 168 [.ref 82, .long w1, w2, .int (nI k)] [] τ) (N := 102) (P := fun k τ => sm [86] σ τ ∧ ∀ i, i < k → τ.1 86 i = σ.1 87 i) (fun k τ hk hp => by
    obtain ⟨p1, p2⟩ := hp
    refine ⟨sI τ 86 k (σ.1 87 k), ⟨p1.set _ _ (by decide), fun i hi => ?_⟩, ?_⟩
    · by_cases q : i = k
      · rw [q, sI_1]
      · rw [sI_k _ q]
        exact p2 i (by omega)
    · (try simp only)
      rw [u168L _ _ _ _ h2, if_pos (show nI k < (102 : Int32) from nlt (N := 102) hk), gd_t (nI_g hk (by omega)), gd_t (nI_g hk (by omega)), nI_add1, nI_c (by omega), p1.1 87 (by decide)]) σ ⟨sm.rf _ _, fun i hi => absurd hi (Nat.not_lt_zero i)⟩
  refine ⟨τ, Eq.trans e ?_, p1, p2⟩
  (try simp only)
  rw [u168L _ _ _ _ h2, if_neg (show ¬ nI 102 < (102 : Int32) from nnl (N := 102) (Nat.le_refl _)), sI_n _ _ (by decide)]
/-- the row of a kitchen just read -/
theorem kcb_row {σ : ax_S} {K : Nat → Int32} {m p : Nat} (h1 : σ.1 52 1 = nI m) (h6 : σ.1 52 6 = nI p) (hm : m ≤ 16) (hp : p ≤ 8) (rm : rwC σ K m) (rp : pwC σ K p) : kcb σ 52 0 = nI m ∧ kcb σ 52 1 = nI p ∧ (∀ i, i < 4 * m → kcb σ 52 (2 + i) = K (2 + i)) ∧ (∀ i, i < 3 * p → kcb σ 52 (66 + i) = K (66 + i)) ∧ (∀ j, j < 8 → kcb σ 52 (90 + j) = σ.1 60 j) ∧ kcb σ 52 98 = σ.1 52 11 ∧ kcb σ 52 99 = σ.1 52 12 ∧ kcb σ 52 100 = σ.1 52 13 ∧ kcb σ 52 101 = σ.1 52 14 := by
  refine ⟨h1, h6, fun i hi => ?_, fun i hi => ?_, fun j hj => ?_, rfl, rfl, rfl, rfl⟩
  · have := rm (i / 4) (by omega) (i % 4) (by omega)
    unfold kcb
    rw [if_neg (by omega), if_neg (by omega), if_pos (by omega), show 52 + 1 + (2 + i - 2) % 4 = 53 + i % 4 by omega, show (2 + i - 2) / 4 = i / 4 by omega, this, show 2 + 4 * (i / 4) + i % 4 = 2 + i by omega]
  · have := rp (i / 3) (by omega) (i % 3) (by omega)
    unfold kcb
    rw [if_neg (by omega), if_neg (by omega), if_neg (by omega), if_pos (by omega), show 52 + 5 + (66 + i - 66) % 3 = 57 + i % 3 by omega, show (66 + i - 66) / 3 = i / 3 by omega, this, show 66 + 3 * (i / 3) + i % 3 = 66 + i by omega]
  · unfold kcb
    rw [if_neg (by omega), if_neg (by omega), if_neg (by omega), if_neg (by omega), if_pos (by omega), show 90 + j - 90 = j by omega]
theorem t_kitchen (d : Nat) {σ : ax_S} (r : RA σ) : PB d σ 30 204 [] := by
  obtain ⟨rt0, n, hn, s1, s2, s3⟩ := r.2.2.2.1
  generalize hb : σ.1 89 = b at s3
  obtain ⟨τ1, c1', c2, c3⟩ := s_tbegin (d + 16) (σ := sI (sI σ 52 1 0) 52 6 0) (b := b) (n := n) ⟨hn, by rw [sI_n _ _ (by decide), sI_n _ _ (by decide)]; exact s1, fun i hi => by rw [sI_n _ _ (by decide), sI_n _ _ (by decide)]; exact s3 i hi⟩
  have eL : (sI (sI σ 52 1 0) 52 6 0).1 5 2 = σ.1 5 2 := by rw [sI_n _ _ (by decide), sI_n _ _ (by decide)]
  rw [eL] at c3
  have t00 : ((0, 0, nxt b n 0) : TK).1 = 0 := rfl
  have c52 : ∀ f, τ1.1 52 f = (sI (sI σ 52 1 0) 52 6 0).1 52 f := fun f => by rw [c2.1 52 (by decide)]
  have mb : ∀ τ : ax_S, τ.1 89 = σ.1 89 → τ.1 82 10 = σ.1 82 10 → ∃ ρ, cV sO (d + 19) 205 [.ref 82] τ = some ρ ∧ sm [82] τ ρ ∧ (∀ f, nq f → f ≠ 10 → f ≠ 12 → ρ.1 82 f = τ.1 82 f) ∧ ρ.1 82 10 = 0 ∧ MSt ρ b n (0, 0, nxt b n 0) := fun τ h1 h2 => by
    exact m_begins (d + 17) hn (h2.trans s2) (fun i hi => ⟨by rw [h1, hb], (s3 i hi).1, (s3 i hi).2.1⟩)
  generalize ((0, 0, nxt b n 0) : TK) = T0 at c3 t00 mb
  obtain ⟨m, p, K, T2, hm, hp, hg, kC, kM⟩ := kit_parse b n t00
  obtain ⟨U, Te, q⟩ := rRP_ex b n T2
  obtain ⟨τ2, d1, d2, d3, d4⟩ := kC (d + 12) (σ.1 5 2) τ1 c3 (by rw [c52, sI_k _ (by decide), sI_1]) (by rw [c52, sI_1])
  obtain ⟨τ3, e1, e2, e3, e4, e5, e6⟩ := s_kTl (d + 12) q d3
  have hte : (pE Te).1 = 0 → Te.1 = 0 := fun z => by
    by_cases t : Te.1 = 0
    · exact t
    · rw [pE_n t] at z
      exact z
  have ht2 : Te.1 = 0 → T2.1 = 0 := fun z => by
    have z12 : (U 12).1 = 0 := by rw [q.2.2] at z; exact (pM_ok z).1
    have down : ∀ k, k ≤ 12 → (U (12 - k)).1 = 0 := fun k => by
      induction k with
      | zero => intro _; exact z12
      | succ k ih =>
        intro hk
        have := ih (by omega)
        rw [show 12 - k = (12 - (k + 1)) + 1 by omega] at this
        exact (rR_ok q (by omega) this).1
    have z0 : (U 0).1 = 0 := down 12 (Nat.le_refl _)
    rw [q.1] at z0
    exact (pM_ok z0).1
  have hR : cI sO (d + 19) 31 [.ref 52, .ref 5] σ = some (bi ((pE Te).1 = 0), τ3) := by
    refine cI_ev mi_31 ((u_31_52_5 (d + 12) σ).trans ?_) rfl
    rw [c1', Option.bind_some]
    exact d1.trans e1
  have hcl : cV sO (d + 19) 60 [.ref 5] τ3 = some (sI τ3 5 1 0) := cV_ev mi_60 (u_60_5 _ τ3) rfl
  have sC : sm [5, 52, 53, 54, 55, 56, 57, 58, 59, 60] σ (sI τ3 5 1 0) := ((((((sm.rf _ _).set _ _ (by decide)).set _ _ (by decide)).tr (c2.up (by decide))).tr (d2.up (by decide))).tr (e2.up (by decide))).set _ _ (by decide)
  have eC := u_30_0 (d + 12) σ
  rw [hR, Option.bind_some] at eC
  simp only [bi_0] at eC
  rw [hcl, Option.bind_some] at eC
  -- the reference, whatever the class left
  have mR : ∀ τ : ax_S, τ.1 89 = σ.1 89 → (∀ f, τ.1 82 f = σ.1 82 f) → ∃ ρ, ev sO (d + 20) 204 0 [.ref 82, .null, .null, .null] [] τ = ((cL sO (d + 19) 218 [.ref 82] ρ).bind fun u4 => if (lg_cmp u4.1 (0 : Int64)) < 0 then (some (some (.long u4.1), u4.2)) else (ev sO (d + 20) 204 168 [.ref 82, .long u4.1, .null, .int (0 : Int32)] [] (sI u4.2 82 7 (1 : Int32)))) ∧ sm [82, 87] τ ρ ∧ (∀ f, nq f → f ≠ 0 → f ≠ 10 → f ≠ 12 → ρ.1 82 f = σ.1 82 f) ∧ ρ.1 82 10 = 0 ∧ MSt ρ b n Te ∧ (Te.1 = 0 → ρ.1 87 0 = nI m ∧ ρ.1 87 1 = nI p ∧ rwM ρ K m ∧ pwM ρ K p ∧ ∀ j, j < 12 → ρ.1 87 (90 + j) = vT b (U j)) := fun τ h1 h2 => by
    obtain ⟨a1, f1, f2, f3⟩ := m_zero (d + 15) .null .null rfl rfl (sI τ 82 0 0)
    have a89 : a1.1 89 = σ.1 89 := by rw [f2.1 89 (by decide), sI_n _ _ (by decide), h1]
    have a82 : ∀ f, f ≠ 0 → a1.1 82 f = σ.1 82 f := fun f hf => by rw [f2.1 82 (by decide), sI_k _ hf, h2]
    obtain ⟨a2, g1, g2, g3, g4, g5⟩ := mb a1 a89 (a82 10 (by decide))
    obtain ⟨a3, i1, i2, i3, i4, i5⟩ := kM (d + 15) (.int 102) .null .null a2 rfl rfl rfl g5 (by rw [g2.1 87 (by decide)]; exact f3 0 (by decide)) (by rw [g2.1 87 (by decide)]; exact f3 1 (by decide))
    obtain ⟨a4, j1, j2, j3, j4, j5, j6⟩ := m_kTl (d + 15) q i4
    refine ⟨a4, ?_, ((((sm.rf _ _).set _ _ (by decide)).tr (f2.up (by decide))).tr (g2.up (by decide))).tr (i2.tr j2), fun f hf h0 h10 h12 => ?_, ?_, j4, fun z => ?_⟩
    · refine (u_204_82 (d + 15) τ).trans (f1.trans ?_)
      rw [g1, Option.bind_some]
      exact i1.trans j1
    · rw [j3 f hf, i3 f hf, g3 f hf h10 h12]
      exact a82 f h0
    · rw [j3 10 (by decide), i3 10 (by decide)]
      exact g4
    · obtain ⟨k1, k2, k3, k4⟩ := i5 (ht2 z)
      exact ⟨(j5 0 (by decide)).trans k1, (j5 1 (by decide)).trans k2, fun k hk r hr => (j5 _ (by omega)).trans (k3 k hk r hr), fun k hk r hr => (j5 _ (by omega)).trans (k4 k hk r hr), fun j hj => j6 z j hj⟩
  by_cases t : (pE Te).1 = 0
  · rw [if_neg (fun z => z t)] at eC
    obtain ⟨y1, y2, y3, y4⟩ := d4 (ht2 (hte t))
    obtain ⟨z1, z2, z3, z4, z5⟩ := e6 t
    obtain ⟨g1, g2⟩ := hg (ht2 (hte t))
    have h52 : (sI τ3 5 1 0).1 52 0 = 1 := by rw [sI_n _ _ (by decide), e4, bi_t t]
    obtain ⟨τ4, f1, f2, f3, f4⟩ := s_kbe_8_52 (d + 19) (σ := sI τ3 5 1 0) (Or.inr h52)
    obtain ⟨ρ1, r1, r2, r3, r4, r5, r6⟩ := mR (sI τ4 17 0 0) (by rw [sI_n _ _ (by decide), f2.1 89 (by decide), sC.1 89 (by decide)]) (fun f => by rw [sI_n _ _ (by decide), f2.1 82 (by decide), sC.1 82 (by decide)])
    obtain ⟨k1, k2, k3, k4, k5⟩ := r6 (hte t)
    obtain ⟨ρ2, u1, u2, u3⟩ := m_kcopy (d + 15) 0 .null rfl (sI ρ1 82 7 1)
    have u3' : ∀ i, i < 102 → ρ2.1 86 i = ρ1.1 87 i := fun i hi => by rw [u3 i hi, sI_n _ _ (by decide)]
    have g52 : ∀ x, 52 ≤ x → x ≤ 60 → (sI τ4 17 0 0).1 x = τ3.1 x := fun x h1 h2 => by rw [sI_n _ _ (by omega), f2.1 x (fun q => by simp only [List.mem_cons, List.not_mem_nil, or_false] at q; omega), sI_n _ _ (by omega)]
    have sR : sm [5, 8, 9, 10, 11, 12, 13, 14, 15, 16, 17, 52, 53, 54, 55, 56, 57, 58, 59, 60, 82, 86, 87, 88] σ (sI ρ2 88 0 0) := (((((sC.up (by decide)).tr (f2.up (by decide))).set _ _ (by decide)).tr (r2.up (by decide))).set _ _ (by decide)).tr (u2.up (by decide)) |>.set _ _ (by decide)
    have r82 : ∀ f, nq f → f ≠ 0 → f ≠ 7 → f ≠ 10 → f ≠ 12 → (sI ρ2 88 0 0).1 82 f = σ.1 82 f := fun f hf h0 h7 h10 h12 => by rw [sI_n _ _ (by decide), u2.1 82 (by decide), sI_k _ h7]; exact r3 f hf h0 h10 h12
    have rlo : ∀ x, x ≠ 82 → x ≠ 86 → x ≠ 87 → x ≠ 88 → (sI ρ2 88 0 0).1 x = (sI τ4 17 0 0).1 x := fun x h1 h2 h3 h4 => by
      rw [sI_n _ _ h4, u2.1 x (fun q => by simp only [List.mem_cons, List.not_mem_nil, or_false] at q; omega), sI_n _ _ h1, r2.1 x (fun q => by simp only [List.mem_cons, List.not_mem_nil, or_false] at q; omega)]
    have h8 : (sI ρ2 88 0 0).1 8 0 = 1 := by rw [rlo 8 (by decide) (by decide) (by decide) (by decide), sI_n _ _ (by decide), f3, h52]
    have kc52 : kcb (sI ρ2 88 0 0) 8 = kcb τ3 52 := by
      rw [kcb_c (σ := τ4) (ρ := sI ρ2 88 0 0) (a := 8) (fun x h1 h2 => by rw [rlo x (by omega) (by omega) (by omega) (by omega), sI_n _ _ (by omega)]), f4, kcb_c (σ := τ3) (ρ := sI τ3 5 1 0) (a := 52) (fun x h1 h2 => sI_n _ _ (by omega))]
    have t1 : τ3.1 52 1 = nI m := (e3 1 (by decide) (by decide)).trans y1
    have t6 : τ3.1 52 6 = nI p := (e3 6 (by decide) (by decide)).trans y2
    obtain ⟨w1, w2, w3, w4, w5, w6, w7, w8, w9⟩ := kcb_row (σ := τ3) (K := K) t1 t6 hm hp (fun k hk r hr => by rw [e2.1 (53 + r) (fun q => by simp only [List.mem_cons, List.not_mem_nil, or_false] at q; omega)]; exact y3 k hk r hr) (fun k hk r hr => by rw [e2.1 (57 + r) (fun q => by simp only [List.mem_cons, List.not_mem_nil, or_false] at q; omega)]; exact y4 k hk r hr)
    have e86 : ∀ i, i < 102 → (sI ρ2 88 0 0).1 86 i = ρ1.1 87 i := fun i hi => by rw [sI_n _ _ (by decide)]; exact u3' i hi
    have eM : ∀ k, k < m → ∀ r, r < 4 → (sI ρ2 88 0 0).1 86 (2 + 4 * k + r) = K (2 + 4 * k + r) := fun k hk r hr => (e86 _ (by omega)).trans (k3 k hk r hr)
    have eP : ∀ k, k < p → ∀ r, r < 3 → (sI ρ2 88 0 0).1 86 (66 + 3 * k + r) = K (66 + 3 * k + r) := fun k hk r hr => (e86 _ (by omega)).trans (k4 k hk r hr)
    have rng : ∀ j, j < 12 → rgP 0 (hiR j).toInt (vT b (U j)) := fun j hj => by
      have z12 : (U 12).1 = 0 := by have := hte t; rw [q.2.2] at this; exact (pM_ok this).1
      have down : ∀ k, k ≤ 12 → (U (12 - k)).1 = 0 := fun k => by
        induction k with
        | zero => intro _; exact z12
        | succ k ih =>
          intro hk
          have := ih (by omega)
          rw [show 12 - k = (12 - (k + 1)) + 1 by omega] at this
          exact (rR_ok q (by omega) this).1
      have := down (11 - j) (by omega)
      rw [show 12 - (11 - j) = j + 1 by omega] at this
      exact (rR_ok q hj this).2
    have hiv : ∀ j, (hiR j).toInt = if j < 9 then 9 else if j < 11 then 99 else 9999 := fun j => by
      unfold hiR
      split
      · rfl
      · split <;> rfl
    have rk : Rk (sI ρ2 88 0 0) := by
      refine ⟨Or.inr h8, by rw [sI_n _ _ (by decide), u2.1 82 (by decide), sI_1, h8], m, p, hm, hp, ?_, ?_, ?_, ?_, fun i hi => ?_, fun i hi => ?_, fun i h90 h102 => ?_, fun k hk => ?_, fun k hk => ?_⟩
      · rw [kc52]; exact w1
      · rw [e86 0 (by decide)]; exact k1
      · rw [kc52]; exact w2
      · rw [e86 1 (by decide)]; exact k2
      · have := eM (i / 4) (by omega) (i % 4) (by omega)
        rw [show 2 + 4 * (i / 4) + i % 4 = 2 + i by omega] at this
        rw [kc52, w3 i hi, this]
      · have := eP (i / 3) (by omega) (i % 3) (by omega)
        rw [show 66 + 3 * (i / 3) + i % 3 = 66 + i by omega] at this
        rw [kc52, w4 i hi, this]
      · obtain ⟨j, rfl⟩ : ∃ j, i = 90 + j := ⟨i - 90, by omega⟩
        have ev' : (sI ρ2 88 0 0).1 86 (90 + j) = vT b (U j) := (e86 _ h102).trans (k5 j (by omega))
        have rg := rng j (by omega)
        rw [hiv j] at rg
        rw [ev', kc52]
        refine ⟨?_, rg.1, ?_⟩
        · have : j < 8 ∨ j = 8 ∨ j = 9 ∨ j = 10 ∨ j = 11 := by omega
          obtain g | rfl | rfl | rfl | rfl := this
          · rw [w5 j g, z1 j g]
          · exact w6.trans z2
          · exact w7.trans z3
          · exact w8.trans z4
          · exact w9.trans z5
        · have := rg.2
          by_cases q1 : j < 9
          · rw [if_pos q1] at this
            rw [if_pos (by omega)]
            exact this
          · rw [if_neg q1] at this
            rw [if_neg (by omega)]
            by_cases q2 : j < 11
            · rw [if_pos q2] at this
              rw [if_pos (by omega)]
              exact this
            · rw [if_neg q2] at this
              rw [if_neg (by omega)]
              exact this
      · rw [eM k hk 2 (by omega), eM k hk 3 (by omega)]
        exact g1 k hk
      · have e0 : (sI ρ2 88 0 0).1 86 (66 + 3 * k) = K (66 + 3 * k) := eP k hk 0 (by omega)
        rw [e0, eP k hk 1 (by omega), eP k hk 2 (by omega)]
        exact g2 k hk
    have rd : Rd (sI ρ2 88 0 0) := ⟨0, by omega, by rw [rlo 17 (by decide) (by decide) (by decide) (by decide), sI_1]; rfl, by rw [sI_1]; rfl, fun j hj => absurd hj (Nat.not_lt_zero j)⟩
    have c5 : ∀ f, f ≠ 1 → (sI ρ2 88 0 0).1 5 f = τ3.1 5 f := fun f hf => by rw [rlo 5 (by decide) (by decide) (by decide) (by decide), sI_n _ _ (by decide), f2.1 5 (by decide), sI_k _ hf]
    have rt : Rt (sI ρ2 88 0 0) := ⟨by rw [r82 11 (by decide) (by decide) (by decide) (by decide) (by decide), c5 2 (by decide), e5.2.2.2.2.2.2.1 t, rt0], 0, by omega, by rw [rlo 5 (by decide) (by decide) (by decide) (by decide), sI_n _ _ (by decide), f2.1 5 (by decide), sI_1]; rfl, by rw [sI_n _ _ (by decide), u2.1 82 (by decide), sI_k _ (by decide), r4]; rfl, fun i hi => absurd hi (Nat.not_lt_zero i)⟩
    obtain ⟨a1, a2⟩ := RA_kt sR (fun a ha => by simp only [List.mem_cons, List.not_mem_nil, or_false] at ha; omega) (r82 1 (by decide) (by decide) (by decide) (by decide) (by decide)) (r82 43 (by decide) (by decide) (by decide) (by decide) (by decide)) (fun _ => h8) rk rd rt r
    refine ⟨(nI m + nI p).toInt64, sI τ4 17 0 0, sI ρ2 88 0 0, cL_ev mi_30 (eC.trans ?_) rfl, cL_ev mi_204 (r1.trans ?_) rfl, a1, a2⟩
    · rw [f1, Option.bind_some, s_clear, Option.bind_some]
      have q1 : cI sO (d + 19) 64 [.ref 52] (sI τ4 17 0 0) = some (nI m, sI τ4 17 0 0) := by
        refine cI_ev mi_64 ((u_64_52 _ _).trans ?_) rfl
        rw [g52 52 (by decide) (by decide), t1]
      have q2 : cI sO (d + 19) 65 [.ref 52] (sI τ4 17 0 0) = some (nI p, sI τ4 17 0 0) := by
        refine cI_ev mi_65 ((u_65_52 _ _).trans ?_) rfl
        rw [g52 52 (by decide) (by decide), t6]
      rw [q1, Option.bind_some]
      (try simp only)
      rw [q2, Option.bind_some]
    · rw [(m_ended (d + 18) r5).1 t, Option.bind_some]
      simp only [lg_cmp_lt]
      rw [if_neg (by decide), u1, u3' 0 (by decide), u3' 1 (by decide), k1, k2]
  · rw [if_pos t] at eC
    obtain ⟨ρ1, r1, r2, r3, r4, r5, -⟩ := mR (sI τ3 5 1 0) (sC.1 89 (by decide)) (fun f => by rw [sC.1 82 (by decide)])
    obtain ⟨ρ2, u1, u2, u3, u4, u5⟩ := (m_ended (d + 18) r5).2 t
    have sR : sm [5, 52, 53, 54, 55, 56, 57, 58, 59, 60, 82, 87] σ ρ2 := ((sC.up (by decide)).tr (r2.up (by decide))).tr (u2.up (by decide))
    have r82 : ∀ f, nq f → f ≠ 0 → f ≠ 10 → f ≠ 12 → f ≠ 11 → ρ2.1 82 f = σ.1 82 f := fun f hf h0 h10 h12 h11 => by rw [u3 f hf h11]; exact r3 f hf h0 h10 h12
    have r5' : ∀ f, ρ2.1 5 f = (sI τ3 5 1 0).1 5 f := fun f => by rw [u2.1 5 (by decide), r2.1 5 (by decide)]
    obtain ⟨-, x2, x3, x4⟩ := e5.2.2.2.2.2.2.2 t
    have rt : Rt ρ2 := ⟨by rw [u4, r5', sI_k _ (by decide), x2], 0, by omega, by rw [r5', sI_1]; rfl, by rw [u3 10 (by decide) (by decide), r4]; rfl, fun i hi => absurd hi (Nat.not_lt_zero i)⟩
    have rk : Rk ρ2 := Rk_c (fun a ha => sR.1 a (by simp only [List.mem_cons, List.not_mem_nil, or_false] at ha ⊢; omega)) (r82 7 (by decide) (by decide) (by decide) (by decide) (by decide)) r.2.1
    have rd : Rd ρ2 := Rd_c (fun a ha => sR.1 a (by simp only [List.mem_cons, List.not_mem_nil, or_false] at ha ⊢; omega)) r.1
    obtain ⟨a1, a2⟩ := RA_kt sR (fun a ha => by simp only [List.mem_cons, List.not_mem_nil, or_false] at ha; omega) (r82 1 (by decide) (by decide) (by decide) (by decide) (by decide)) (r82 43 (by decide) (by decide) (by decide) (by decide) (by decide)) (fun z => by rw [sR.1 8 (by decide)]; exact z) rk rd rt r
    refine ⟨(-9000000000000000100 : Int64) - (nI (pE Te).2.1).toInt64, sI τ3 5 1 0, ρ2, cL_ev mi_30 (eC.trans ?_) rfl, cL_ev mi_204 (r1.trans ?_) rfl, a1, a2⟩
    · have q1 : cI sO (d + 19) 61 [.ref 5] (sI τ3 5 1 0) = some (nI (pE Te).2.1, sI τ3 5 1 0) := by
        refine cI_ev mi_61 ((u_61_5 _ _).trans ?_) rfl
        rw [sI_k _ (by decide), x3]
      rw [q1, Option.bind_some]
    · rw [u1, Option.bind_some]
      simp only [lg_cmp_lt]
      rw [if_pos]
      exact L_nos u5
