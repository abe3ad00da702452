/-! THE PUBLIC METHODS, 33: told, of both -/
/-- a card may be new -/
abbrev Se (σ ρ : ax_S) : Prop := sm [0, 5, 17, 18, 19, 20, 21, 61, 62, 82, 88, 90] σ ρ ∧ (∀ f, f ≠ 0 → f ≠ 1 → ρ.1 82 f = σ.1 82 f) ∧ (∀ f, ρ.1 5 f = σ.1 5 f) ∧ ρ.1 82 1 = ρ.1 0 10
theorem RA_Se {σ ρ : ax_S} (h : Se σ ρ) (hd : Rd ρ) (r : RA σ) : RA ρ ∧ Fo σ ρ := by
  obtain ⟨⟨h1, h2⟩, f, f5, ff⟩ := h
  obtain ⟨r1, r2, r3, r4, r5, r6, r7, r8⟩ := r
  refine ⟨⟨hd, Rk_c (fun a ha => h1 a ?_) (f 7 (by decide) (by decide)) r2, Rs_c (fun a ha => h1 a ?_) r3, Rt_c (fun a ha => h1 a ?_) (f5 1) (f5 2) (f 10 (by decide) (by decide)) (f 11 (by decide) (by decide)) r4, Ri_c (fun a ha => h1 a ?_) r5, Ri_c (fun a ha => h1 a ?_) r6, Rtr_c (fun a ha => h1 a ?_) (by rw [h1 80 (by decide)]) (f 43 (by decide) (by decide)) r7, ff⟩, fun a h3 h4 => h1 a ?_, h2⟩
  · simp only [List.mem_cons, List.not_mem_nil, or_false] at ha ⊢; omega
  · simp only [List.mem_cons, List.not_mem_nil, or_false] at ha ⊢; omega
  · simp only [List.mem_cons, List.not_mem_nil, or_false] at ha ⊢; omega
  · simp only [List.mem_cons, List.not_mem_nil, or_false] at ha ⊢; omega
  · simp only [List.mem_cons, List.not_mem_nil, or_false] at ha ⊢; omega
  · simp only [List.mem_cons, List.not_mem_nil, or_false] at ha ⊢; omega
  · simp only [List.mem_cons, List.not_mem_nil, or_false]; omega
/-- what a page and a draft come to: a card more in both -/
theorem Rd_more {σ τ ρ0 ρ : ax_S} {n : Nat} {x : Int32} (h : RD (σ.1 17 0) (σ.1 18) (σ.1 19) (σ.1 20) (σ.1 21) (σ.1 88) n) (hn : n < 12) (t17 : τ.1 17 0 = nI (n + 1)) (t18 : τ.1 18 = upd (σ.1 18) n (ρ0.1 90 0)) (t19 : τ.1 19 = upd (σ.1 19) n (ρ0.1 90 1)) (t20 : τ.1 20 = upd (σ.1 20) n x) (f : Nat → Int32) (t21 : ∀ i m, m < 11 → cr τ i m = if i = n then f m else cr σ i m) (hc : ∀ a, 17 ≤ a → a ≤ 21 → ρ.1 a = τ.1 a) (r0 : ρ.1 88 0 = nI (n + 1)) (r1 : ∀ k, k < 15 → ρ.1 88 (15 * n + 1 + k) = ρ0.1 90 k) (r2 : ∀ i, i ≠ 0 → (∀ k, k < 15 → i ≠ 15 * n + 1 + k) → ρ.1 88 i = σ.1 88 i) (hx : x = if ρ0.1 90 2 < 0 then -1000000 else ρ0.1 90 2) (hx2 : x = -1000000 ∨ ∃ i, i < n ∧ x = nI i) (hd : dfC f (ρ0.1 90) cap0 11) (hl : rgP 0 3 (ρ0.1 90 0)) (hy : rgP 1800 2000 (ρ0.1 90 1)) : Rd ρ := by
  refine ⟨n + 1, ?_⟩
  rw [hc 17 (by decide) (by decide), hc 18 (by decide) (by decide), hc 19 (by decide) (by decide), hc 20 (by decide) (by decide), hc 21 (by decide) (by decide)]
  exact RD_add h hn t17 r0 t18 t19 t20 hx hx2 (fun i m hm => t21 i m hm) r2 r1 hd hl hy
/-- told, behind its numbers -/
noncomputable def tdC (d : Nat) (x1 x2 x3 x4 x5 : Int32) (σ : ax_S) : Option (Option Value × ax_S) :=
  if σ.1 82 7 = 0 then some (some (.long (-9000000000000000002 : Int64)), σ) else if σ.1 88 0 = (12 : Int32) then some (some (.long (-9000000000000000003 : Int64)), σ) else gd (0 ≤ x3.toInt ∧ x3.toInt < (8 : Nat)) (if (σ.1 83 x3.toNatClampNeg) < 0 then ((cL sO (d + 1) 199 [.ref 82, .int (1 : Int32)] σ).bind fun u => some (some (.long u.1), u.2)) else if x4 < 0 then ((cL sO (d + 1) 199 [.ref 82, .int (2 : Int32)] σ).bind fun u => some (some (.long u.1), u.2)) else gd (0 ≤ x3.toInt ∧ x3.toInt < (8 : Nat)) (if 0 < (lg_cmp (x4.toInt64 + (11 : Int64)) ((σ.1 84 x3.toNatClampNeg).toInt64)) then ((cL sO (d + 1) 199 [.ref 82, .int (2 : Int32)] σ).bind fun u => some (some (.long u.1), u.2)) else if x5 = (-1000000 : Int32) then ((cV sO (d + 1) 220 [.ref 82, .int x1, .int x2, .int (-1 : Int32)] σ).bind fun u => ev sO (d + 2) 228 149 [.ref 82, .int x1, .int x2, .int x3, .int x4, .int x5, .int (0 : Int32), .null] [] u) else ((cV sO (d + 1) 220 [.ref 82, .int x1, .int x2, .int x5] σ).bind fun u => ev sO (d + 2) 228 149 [.ref 82, .int x1, .int x2, .int x3, .int x4, .int x5, .int (0 : Int32), .null] [] u)))
abbrev moG (yr : Nat → Int32) (n : Nat) (x y : Int32) : Prop := x = -1000000 ∨ ∃ j, j < n ∧ x = nI j ∧ yr j ≤ y
theorem m_told_1 (d : Nat) {σ : ax_S} {n : Nat} {x1 x2 x3 x4 x5 : Int32} (hs : (sI σ 82 0 0).1 88 0 = nI n) (hn : n ≤ 12) (h1 : rgP 0 3 x1) (h2 : rgP 1800 2000 x2) (h3 : rgP 0 7 x3) (h5 : moG (my (sI σ 82 0 0)) n x5 x2) : ev sO (d + 2) 228 0 [.ref 82, .int x1, .int x2, .int x3, .int x4, .int x5, .null, .null] [] σ = tdC d x1 x2 x3 x4 x5 (sI σ 82 0 0) := by
  rw [u_228_82]
  simp only [m_isLand, m_isYear, m_isRow, m_isCard _ _ hs hn, Option.bind_some, bi_0]
  rw [if_neg (fun q => q h1), if_neg (fun q => q h2), if_neg (fun q => q h3)]
  by_cases q : x5 = -1000000
  · rw [if_pos q]
    rfl
  · rw [if_neg q]
    obtain p | ⟨j, hj, p, py⟩ := h5
    · exact absurd p q
    · have hp : hasP (nI n) x5 := by rw [p]; exact hasP_nI hn hj
      rw [if_neg (fun z => z hp)]
      have e : cI sO (d + 1) 232 [.ref 82, .int x5, .int 2] (sI σ 82 0 0) = some (my (sI σ 82 0 0) j, sI σ 82 0 0) := by rw [p, m_of2 _ _ (show j < 12 by omega)]
      rw [e, Option.bind_some]
      have hny : ¬ x2 < my (sI σ 82 0 0) j := by
        rw [i_lt]
        rw [i_le] at py
        omega
      simp only
      rw [if_neg hny]
      rfl
theorem m_told_bad (d : Nat) {σ : ax_S} {n : Nat} {x1 x2 x3 x4 x5 : Int32} (hs : (sI σ 82 0 0).1 88 0 = nI n) (hn : n ≤ 12) (h : ¬ (rgP 0 3 x1 ∧ rgP 1800 2000 x2 ∧ rgP 0 7 x3 ∧ moG (my (sI σ 82 0 0)) n x5 x2)) : ev sO (d + 2) 228 0 [.ref 82, .int x1, .int x2, .int x3, .int x4, .int x5, .null, .null] [] σ = some (some (.long BADv), sI σ 82 0 0) := by
  rw [u_228_82]
  simp only [m_isLand, m_isYear, m_isRow, m_isCard _ _ hs hn, Option.bind_some, bi_0]
  by_cases h1 : rgP 0 3 x1
  · rw [if_neg (fun q => q h1)]
    by_cases h2 : rgP 1800 2000 x2
    · rw [if_neg (fun q => q h2)]
      by_cases h3 : rgP 0 7 x3
      · rw [if_neg (fun q => q h3)]
        by_cases q : x5 = -1000000
        · exact absurd ⟨h1, h2, h3, Or.inl q⟩ h
        · rw [if_neg q]
          by_cases hp : hasP (nI n) x5
          · obtain ⟨j, hj, p⟩ := hasP_of hn hp
            rw [if_neg (fun z => z hp)]
            have e : cI sO (d + 1) 232 [.ref 82, .int x5, .int 2] (sI σ 82 0 0) = some (my (sI σ 82 0 0) j, sI σ 82 0 0) := by rw [p, m_of2 _ _ (show j < 12 by omega)]
            rw [e, Option.bind_some]
            simp only
            by_cases py : x2 < my (sI σ 82 0 0) j
            · rw [if_pos py]
            · refine absurd ⟨h1, h2, h3, Or.inr ⟨j, hj, p, ?_⟩⟩ h
              rw [i_lt] at py
              rw [i_le]
              omega
          · rw [if_pos hp]
      · rw [if_pos h3]
    · rw [if_pos h2]
  · rw [if_pos h1]
theorem L_11 (x z : Int32) : 0 < lg_cmp (x.toInt64 + (11 : Int64)) z.toInt64 ↔ z.toInt < x.toInt + 11 := by
  have := L_gt x 11 z
  rw [show (11 : Int32).toInt = 11 from rfl] at this
  exact this
theorem t_told (d : Nat) {σ : ax_S} (x y z w v : Int32) (r : RA σ) : PB d σ 87 228 [.int x, .int y, .int z, .int w, .int v] := by
  obtain ⟨n, h⟩ := r.1
  obtain ⟨hn, hs, hs88, hi, hm, hm2, hE, hmo, -⟩ := rd_of h
  have hs3 := r.2.2.1
  have r2 := r.2.1
  have my0 : ∀ τ : ax_S, τ.1 88 = σ.1 88 → (sI τ 82 0 0).1 88 0 = nI n ∧ my (sI τ 82 0 0) = my σ := fun τ ht => by
    have e : (sI τ 82 0 0).1 88 = σ.1 88 := by rw [sI_n _ _ (by decide), ht]
    obtain ⟨-, e2, -⟩ := m88 e
    exact ⟨by rw [e]; exact hs88, e2⟩
  have eG : moG (σ.1 19) n v y ↔ moG (my σ) n v y := by
    constructor
    · rintro (q | ⟨j, a, b, c⟩)
      · exact Or.inl q
      · exact Or.inr ⟨j, a, b, by rw [← (hE j a).1]; exact c⟩
    · rintro (q | ⟨j, a, b, c⟩)
      · exact Or.inl q
      · exact Or.inr ⟨j, a, b, by rw [(hE j a).1]; exact c⟩
  by_cases hb : rgP 0 3 x ∧ rgP 1800 2000 y ∧ rgP 0 7 z ∧ moG (σ.1 19) n v y
  · obtain ⟨h1, h2, h3, h4⟩ := hb
    obtain ⟨a, ha, e3⟩ := rgP_of (b := 7) (by omega) h3
    have ha : a < 8 := by omega
    have gA := nI_g ha (N := 8) (by omega)
    have eA := nI_c (show a < 2147483648 by omega)
    -- both, up to where the class asks for its kitchen
    have hM : ∀ τ : ax_S, τ.1 88 = σ.1 88 → ev sO (d + 20) 228 0 [.ref 82, .int x, .int y, .int z, .int w, .int v, .null, .null] [] τ = tdC (d + 18) x y z w v (sI τ 82 0 0) := fun τ ht => by
      obtain ⟨q1, q2⟩ := my0 τ ht
      exact m_told_1 (d + 18) q1 hn h1 h2 h3 (by rw [q2]; exact eG.mp h4)
    have refuse : ∀ u : Int64, cL sO (d + 20) 87 [.ref 0, .int x, .int y, .int z, .int w, .int v] σ = some (u, σ) → tdC (d + 18) x y z w v (sI σ 82 0 0) = some (some (.long u), sI σ 82 0 0) → PB d σ 87 228 [.int x, .int y, .int z, .int w, .int v] := fun u hc hm =>
      AK.pb ⟨u, sI σ 82 0 0, hc, cL_ev mi_228 ((hM σ rfl).trans hm) rfl, Sc_0 σ⟩ r
    have e827 : (sI σ 82 0 0).1 82 7 = σ.1 8 0 := by rw [sI_k _ (by decide)]; exact r2.2.1
    by_cases h8 : σ.1 8 0 = 0
    · refine refuse (-9000000000000000002) (cL_ev mi_87 ((u_87_0 _ σ _ _ _ _ _).trans ?_) rfl) ?_
      · simp only [s_isLand, s_isYear, s_isRow, s_mayBeMother _ _ _ hs hn, s_isThere _ r2.1, Option.bind_some, bi_0]
        rw [if_neg (fun q => q h1), if_neg (fun q => q h2), if_neg (fun q => q h3), if_neg (fun q => q h4), if_pos h8]
      · unfold tdC
        rw [e827, if_pos h8]
    · have h8' : σ.1 8 0 = 1 := r2.1.elim (fun q => absurd q h8) id
      by_cases hf : n = 12
      · refine refuse (-9000000000000000003) (cL_ev mi_87 ((u_87_0 _ σ _ _ _ _ _).trans ?_) rfl) ?_
        · simp only [s_isLand, s_isYear, s_isRow, s_mayBeMother _ _ _ hs hn, s_isThere _ r2.1, s_isFull _ hs hn, Option.bind_some, bi_0]
          rw [if_neg (fun q => q h1), if_neg (fun q => q h2), if_neg (fun q => q h3), if_neg (fun q => q h4), if_neg h8, if_neg (fun q => q hf)]
        · unfold tdC
          rw [e827, if_neg h8, (my0 σ rfl).1, hf, if_pos (show nI 12 = 12 from rfl)]
      · have n12 : ¬ nI n = 12 := fun q => hf (nI_inj (b := 12) (by omega) (by omega) q)
        obtain ⟨c1', c2⟩ | ⟨m, l, hm40, hl, c3, c84, c2, c83, c4, c5, c6⟩ := RS_c hs3 ha
        · refine ⟨(-9000000000000000010 : Int64) - (1 : Int32).toInt64, sI σ 0 10 1, _, cL_ev mi_87 ((u_87_0 _ σ _ _ _ _ _).trans ?_) rfl, cL_ev mi_228 ((hM (sI σ 0 10 1) (sI_n _ _ (by decide))).trans ?_) rfl, RA_Sf (Sf_1 σ 1) r, Fo_Sf (Sf_1 σ 1)⟩
          · simp only [s_isLand, s_isYear, s_isRow, s_mayBeMother _ _ _ hs hn, s_isThere _ r2.1, s_isFull _ hs hn, Option.bind_some, bi_0]
            rw [if_neg (fun q => q h1), if_neg (fun q => q h2), if_neg (fun q => q h3), if_neg (fun q => q h4), if_neg h8, if_pos hf, e3, s_isMissing _ σ ha, Option.bind_some]
            simp only [bi_0]
            rw [if_neg (fun q => q c1'), s_found, Option.bind_some]
          · unfold tdC
            rw [sI_k (k := 0) _ (by decide), sI_n (x := 82) _ _ (by decide), r2.2.1, if_neg h8, (my0 (sI σ 0 10 1) (sI_n _ _ (by decide))).1, if_neg n12, e3, gd_t gA, eA, sI_n (x := 83) _ _ (by decide), sI_n (x := 83) _ _ (by decide), if_pos c2, m_finding, Option.bind_some]
        · by_cases hsp : spP m w 11
          · obtain ⟨w0, -, w2⟩ := hsp
            rw [show (11 : Int32).toInt = 11 from rfl] at w2
            obtain ⟨i, hi0, ew, ew2⟩ := i_nI w0
            have hi11 : i + 11 ≤ m := by omega
            have hsp : spP m (nI i) 11 := ⟨by rw [nI_i hi0]; omega, by decide, by rw [nI_i hi0, show (11 : Int32).toInt = 11 from rfl]; omega⟩
            have e45 : ∀ k, k < 11 → σ.1 4 (40 * a + i + k) = σ.1 85 (40 * a + i + k) := fun k hk => by
              rw [Nat.add_assoc]
              exact c4 _ (by omega)
            obtain ⟨τ1, b1', b2, b3, b4, -, -, -, -⟩ := s_pbegin (d + 18) σ x y
            have hs1 : τ1.1 17 0 = nI n := by rw [b2.1 17 (by decide)]; exact hs
            have e14 : τ1.1 4 = σ.1 4 := b2.1 4 (by decide)
            have ti := s_takeItems (d + 15) (σ := τ1) ha hm40 (by rw [b2.1 3 (by decide)]; exact c3) hi11
            rw [e14] at ti
            -- the class's own way to the items
            have cls : ∀ β, ((cI sO (d + 19) 92 [.ref 61, .ref 1, .int (nI a), .int (nI i)] τ1).bind fun u10 => if u10.1 = 0 then (some (some (.long (-9000000000000000001 : Int64)), u10.2)) else ((cI sO (d + 19) 78 [.ref 17, .ref 61, .int v] u10.2).bind fun u11 => (cL sO (d + 19) 16 [.ref 0, .long u11.1.toInt64] u11.2).bind fun u12 => some (some (.long u12.1), u12.2))) = β → ev sO (d + 20) 87 0 [.ref 0, .int x, .int y, .int z, .int w, .int v] [] σ = β := fun β hβ => by
              rw [u_87_0]
              simp only [s_isLand, s_isYear, s_isRow, s_mayBeMother _ _ _ hs hn, s_isThere _ r2.1, s_isFull _ hs hn, Option.bind_some, bi_0]
              rw [if_neg (fun q => q h1), if_neg (fun q => q h2), if_neg (fun q => q h3), if_neg (fun q => q h4), if_neg h8, if_pos hf, e3, ew, s_isMissing _ σ ha, Option.bind_some]
              simp only [bi_0]
              rw [if_pos c5, s_spans (d + 17) _ _ ha hm40 c3, Option.bind_some]
              simp only [bi_0]
              rw [if_neg (fun q => q hsp), b1', Option.bind_some]
              exact hβ
            -- the reference's way to the items
            have mod : ∀ (τ : ax_S), (∀ b, b ≠ 0 → b ≠ 17 → b ≠ 18 → b ≠ 19 → b ≠ 20 → b ≠ 21 → b ≠ 61 → b ≠ 62 → τ.1 b = σ.1 b) → ∃ ρ0, sm [82, 90] τ ρ0 ∧ (∀ f, f ≠ 0 → ρ0.1 82 f = τ.1 82 f) ∧ ρ0.1 90 0 = x ∧ ρ0.1 90 1 = y ∧ ρ0.1 90 2 = (if v = -1000000 then -1 else v) ∧ ρ0.1 90 3 = 0 ∧ ρ0.1 85 = σ.1 85 ∧ tdC (d + 18) x y z w v (sI τ 82 0 0) = ev sO (d + 20) 228 149 [.ref 82, .int x, .int y, .int (nI a), .int (nI i), .int v, .int 0, .null] [] ρ0 := fun τ ht => by
              have p827 : (sI τ 82 0 0).1 82 7 = 1 := by rw [sI_k _ (by decide), ht 82 (by decide) (by decide) (by decide) (by decide) (by decide) (by decide) (by decide) (by decide), r2.2.1, h8']
              have p88 : (sI τ 82 0 0).1 88 0 = nI n := (my0 τ (ht 88 (by decide) (by decide) (by decide) (by decide) (by decide) (by decide) (by decide) (by decide))).1
              have p83 : (sI τ 82 0 0).1 83 = σ.1 83 := by rw [sI_n _ _ (by decide), ht 83 (by decide) (by decide) (by decide) (by decide) (by decide) (by decide) (by decide) (by decide)]
              have p84 : (sI τ 82 0 0).1 84 = σ.1 84 := by rw [sI_n _ _ (by decide), ht 84 (by decide) (by decide) (by decide) (by decide) (by decide) (by decide) (by decide) (by decide)]
              obtain ⟨ρ0, k1, k2, k3, k4, k5, k6⟩ := m_clear (d + 19) (sI τ 82 0 0) x y (if v = -1000000 then -1 else v)
              refine ⟨ρ0, ((sm.rf _ _).set _ _ (by decide)).tr (k2.up (by decide)), fun f hf => by rw [k2.1 82 (by decide), sI_k _ hf], k3, k4, k5, k6 3 (by decide) (by decide), by rw [k2.1 85 (by decide), sI_n _ _ (by decide), ht 85 (by decide) (by decide) (by decide) (by decide) (by decide) (by decide) (by decide) (by decide)], ?_⟩
              unfold tdC
              rw [p827, if_neg (by decide), p88, if_neg n12, e3, gd_t gA, eA, p83, if_neg c6, ew, if_neg (show ¬ nI i < 0 from nnl (N := 0) (by omega) hi0), gd_t gA, p84, c84, if_neg (fun q => by rw [L_11, nI_i (by omega), nI_i hi0] at q; omega)]
              by_cases q : v = -1000000
              · rw [if_pos q]
                rw [if_pos q] at k1
                rw [k1, Option.bind_some]
              · rw [if_neg q]
                rw [if_neg q] at k1
                rw [k1, Option.bind_some]
            obtain ⟨τ2, t1, t2, t3, t4⟩ | ⟨τ2, t1, t2, kb, hkb, t3⟩ := ti
            · -- all can be taken
              have hs2 : τ2.1 17 0 = nI n := by rw [t2.1 17 (by decide)]; exact hs1
              obtain ⟨τ3, s1, s2, s3, s4, s5, s6, s7⟩ := s_add (d + 17) v hs2 (show n < 12 by omega)
              have h3o : ∀ b, b ≠ 0 → b ≠ 17 → b ≠ 18 → b ≠ 19 → b ≠ 20 → b ≠ 21 → b ≠ 61 → b ≠ 62 → (sI τ3 0 10 0).1 b = σ.1 b := fun b q0 q17 q18 q19 q20 q21 q61 q62 => by
                rw [sI_n _ _ q0, s2.1 b (by simp only [List.mem_cons, List.not_mem_nil, or_false]; omega), t2.1 b (by simp only [List.mem_cons, List.not_mem_nil, or_false]; omega), b2.1 b (by simp only [List.mem_cons, List.not_mem_nil, or_false]; omega)]
              obtain ⟨ρ0, m1, m2, m3, m4, m5, m6, m7, m8⟩ := mod (sI τ3 0 10 0) h3o
              obtain ⟨ρ1, wv, w1, g1, g2, g3, g4, g5⟩ | ⟨ρ1, g1, g2, kb, hkb, g3⟩ := m_items (d + 18) (σ := ρ0) (.int x) (.int y) (.int v) rfl rfl rfl ha hm40 hi11 m6
              · have p188 : (sI ρ1 82 1 0).1 88 = σ.1 88 := by rw [sI_n _ _ (by decide), g2.1 88 (by decide), m1.1 88 (by decide), h3o 88 (by decide) (by decide) (by decide) (by decide) (by decide) (by decide) (by decide) (by decide)]
                obtain ⟨ρ, k1, k2, k3, k4, k5⟩ := m_keep (d + 19) (σ := sI ρ1 82 1 0) (n := n) (by rw [p188]; exact hs88) (by omega)
                have p90 : (sI ρ1 82 1 0).1 90 = ρ1.1 90 := sI_n _ _ (by decide)
                have q0 : ρ1.1 90 0 = x := by rw [g3 0 (by decide), m3]
                have q1 : ρ1.1 90 1 = y := by rw [g3 1 (by decide), m4]
                have q2 : ρ1.1 90 2 = if v = -1000000 then -1 else v := by rw [g3 2 (by decide), m5]
                have cr2 : cr τ2 = cr σ := by
                  funext j k
                  unfold cr
                  rw [t2.1 21 (by decide), b2.1 21 (by decide)]
                have hv2 : v = -1000000 ∨ ∃ j, j < n ∧ v = nI j := h4.imp id (fun ⟨j, q, q', _⟩ => ⟨j, q, q'⟩)
                have hR : Rd ρ := by
                  refine Rd_more (σ := σ) (τ := τ3) (ρ0 := ρ1) h (show n < 12 by omega) s3 ?_ ?_ ?_ (τ2.1 62) (fun j k hk => ?_) (fun b q17 q21 => ?_) k3 (fun k hk => by rw [k4 k hk, p90]) (fun j j0 hj => by rw [k5 j j0 hj, p188]) ?_ hv2 ?_ (by rw [q0]; exact h1) (by rw [q1]; exact h2)
                  · rw [s4, q0, t2.1 18 (by decide), b2.1 18 (by decide), t2.1 61 (by decide), b3]
                  · rw [s5, q1, t2.1 19 (by decide), b2.1 19 (by decide), t2.1 61 (by decide), b4]
                  · rw [s6, t2.1 20 (by decide), b2.1 20 (by decide)]
                  · rw [s7 j k hk, cr2]
                  · rw [k2.1 b (by simp only [List.mem_cons, List.not_mem_nil, or_false]; omega), sI_n _ _ (by omega), g2.1 b (by simp only [List.mem_cons, List.not_mem_nil, or_false]; omega), m1.1 b (by simp only [List.mem_cons, List.not_mem_nil, or_false]; omega), sI_n _ _ (by omega)]
                  · rw [q2]
                    obtain q | ⟨j, q, q'⟩ := hv2
                    · rw [if_pos q, if_pos (by decide), q]
                    · have : ¬ v = -1000000 := by rw [q']; exact nI_nn (by omega)
                      rw [if_neg this, if_neg (by rw [q']; exact nnl (N := 0) (by omega))]
                  · refine dfC_f g5 (fun k hk => ?_)
                    rw [t4 k hk, e45 k hk, m7]
                have all : sm [0, 5, 17, 18, 19, 20, 21, 61, 62, 82, 88, 90] σ ρ := (((b2.up (by decide)).tr ((t2.up (by decide)).tr ((s2.up (by decide)).set 10 0 (by decide)))).tr (m1.up (by decide))).tr (((g2.up (by decide)).set 1 0 (by decide)).tr (k2.up (by decide)))
                have f82 : ∀ f, f ≠ 0 → f ≠ 1 → ρ.1 82 f = σ.1 82 f := fun f q0 q1 => by
                  rw [k2.1 82 (by decide), sI_k _ q1, g2.1 82 (by decide), m2 f q0, h3o 82 (by decide) (by decide) (by decide) (by decide) (by decide) (by decide) (by decide) (by decide)]
                have f5 : ∀ f, ρ.1 5 f = σ.1 5 f := fun f => by
                  rw [k2.1 5 (by decide), sI_n _ _ (by decide), g2.1 5 (by decide), m1.1 5 (by decide), h3o 5 (by decide) (by decide) (by decide) (by decide) (by decide) (by decide) (by decide) (by decide)]
                have ff : ρ.1 82 1 = ρ.1 0 10 := by
                  rw [k2.1 82 (by decide), sI_1, k2.1 0 (by decide), sI_n _ _ (by decide), g2.1 0 (by decide), m1.1 0 (by decide), sI_1]
                obtain ⟨z1, z2⟩ := RA_Se ⟨all, f82, f5, ff⟩ hR r
                refine ⟨(nI n).toInt64, sI τ3 0 10 0, ρ, cL_ev mi_87 (cls _ ?_) rfl, cL_ev mi_228 ((hM _ (h3o 88 (by decide) (by decide) (by decide) (by decide) (by decide) (by decide) (by decide) (by decide))).trans (m8.trans (Eq.trans g1 ?_))) rfl, z1, z2⟩
                · rw [t1, Option.bind_some]
                  simp only
                  rw [if_neg (by decide), s1, Option.bind_some]
                  simp only
                  rw [s_clean, Option.bind_some]
                · rw [u_228_82p149 _ _ _ rfl _ rfl _ _ _ rfl _ _ w1, if_neg g11, k1, Option.bind_some]
              · rw [m7] at g3
                exact absurd (by rw [← e45 kb hkb]; exact t3 kb hkb) g3
            · -- one can not
              have h2o : ∀ b, b ≠ 0 → b ≠ 17 → b ≠ 18 → b ≠ 19 → b ≠ 20 → b ≠ 21 → b ≠ 61 → b ≠ 62 → τ2.1 b = σ.1 b := fun b q0 q17 q18 q19 q20 q21 q61 q62 => by
                rw [t2.1 b (by simp only [List.mem_cons, List.not_mem_nil, or_false]; omega), b2.1 b (by simp only [List.mem_cons, List.not_mem_nil, or_false]; omega)]
              obtain ⟨ρ0, m1, m2, m3, m4, m5, m6, m7, m8⟩ := mod τ2 h2o
              obtain ⟨ρ1, wv, w1, g1, g2, g3, g4, g5⟩ | ⟨ρ1, g1, g2, -⟩ := m_items (d + 18) (σ := ρ0) (.int x) (.int y) (.int v) rfl rfl rfl ha hm40 hi11 m6
              · refine absurd (g4 kb hkb) ?_
                rw [m7, ← e45 kb hkb]
                exact t3
              · have hSd : Sd σ ρ1 := by
                  refine ⟨(b2.up (by decide)).tr ((t2.up (by decide)).tr ((m1.up (by decide)).tr (g2.up (by decide)))), ?_, ?_, ?_, ?_, ?_⟩
                  all_goals rw [g2.1 82 (by decide), m2 _ (by decide), h2o 82 (by decide) (by decide) (by decide) (by decide) (by decide) (by decide) (by decide) (by decide)]
                have hR : Rd ρ1 := Rd_c (fun b hb => by
                  simp only [List.mem_cons, List.not_mem_nil, or_false] at hb
                  rw [g2.1 b (by simp only [List.mem_cons, List.not_mem_nil, or_false]; omega), m1.1 b (by simp only [List.mem_cons, List.not_mem_nil, or_false]; omega), t2.1 b (by simp only [List.mem_cons, List.not_mem_nil, or_false]; omega), b2.1 b (by simp only [List.mem_cons, List.not_mem_nil, or_false]; omega)]) r.1
                refine ⟨BADv, τ2, ρ1, cL_ev mi_87 (cls _ ?_) rfl, cL_ev mi_228 ((hM _ (h2o 88 (by decide) (by decide) (by decide) (by decide) (by decide) (by decide) (by decide) (by decide))).trans (m8.trans g1)) rfl, RA_Sd hSd hR r, Fo_Sd hSd⟩
                rw [t1, Option.bind_some]
                simp only
                rw [if_pos trivial]
          · refine ⟨(-9000000000000000010 : Int64) - (2 : Int32).toInt64, sI σ 0 10 2, _, cL_ev mi_87 ((u_87_0 _ σ _ _ _ _ _).trans ?_) rfl, cL_ev mi_228 ((hM (sI σ 0 10 2) (sI_n _ _ (by decide))).trans ?_) rfl, RA_Sf (Sf_1 σ 2) r, Fo_Sf (Sf_1 σ 2)⟩
            · simp only [s_isLand, s_isYear, s_isRow, s_mayBeMother _ _ _ hs hn, s_isThere _ r2.1, s_isFull _ hs hn, Option.bind_some, bi_0]
              rw [if_neg (fun q => q h1), if_neg (fun q => q h2), if_neg (fun q => q h3), if_neg (fun q => q h4), if_neg h8, if_pos hf, e3, s_isMissing _ σ ha, Option.bind_some]
              simp only [bi_0]
              rw [if_pos c5, s_spans (d + 17) _ _ ha hm40 c3, Option.bind_some]
              simp only [bi_0]
              rw [if_pos hsp, s_found, Option.bind_some]
            · unfold tdC
              rw [sI_k (k := 0) _ (by decide), sI_n (x := 82) _ _ (by decide), r2.2.1, if_neg h8, (my0 (sI σ 0 10 2) (sI_n _ _ (by decide))).1, if_neg n12, e3, gd_t gA, eA, sI_n (x := 83) _ _ (by decide), sI_n (x := 83) _ _ (by decide), if_neg c6]
              by_cases q : w < 0
              · rw [if_pos q, m_finding, Option.bind_some]
              · rw [if_neg q, gd_t gA, sI_n (x := 84) _ _ (by decide), sI_n (x := 84) _ _ (by decide), c84, if_pos, m_finding, Option.bind_some]
                rw [i_lt, i_0] at q
                rw [L_11, nI_i (by omega)]
                apply Int.lt_of_not_ge
                intro q2
                exact hsp ⟨by omega, by decide, by rw [show (11 : Int32).toInt = 11 from rfl]; omega⟩
  · refine AK.pb ⟨BADv, sI σ 82 0 0, cL_ev mi_87 ((u_87_0 _ σ _ _ _ _ _).trans ?_) rfl, cL_ev mi_228 (m_told_bad (d + 18) (my0 σ rfl).1 hn (fun q => hb ⟨q.1, q.2.1, q.2.2.1, eG.mpr (by have := q.2.2.2; rw [(my0 σ rfl).2] at this; exact this)⟩)) rfl, Sc_0 σ⟩ r
    simp only [s_isLand, s_isYear, s_isRow, s_mayBeMother _ _ _ hs hn, Option.bind_some, bi_0]
    by_cases h1 : rgP 0 3 x
    · rw [if_neg (fun q => q h1)]
      by_cases h2 : rgP 1800 2000 y
      · rw [if_neg (fun q => q h2)]
        by_cases h3 : rgP 0 7 z
        · rw [if_neg (fun q => q h3), if_pos (fun q => hb ⟨h1, h2, h3, q⟩)]
        · rw [if_pos h3]
      · rw [if_pos h2]
    · rw [if_pos h1]
