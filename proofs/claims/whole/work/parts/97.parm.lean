/-! READING, the reference's -/
abbrev nq (f : Nat) : Prop := f < 13 ∨ 18 < f
abbrev MSt (σ : ax_S) (b : Nat → Int32) (n : Nat) (T : TK) : Prop := mBy σ b n ∧ tkO b n T.2.2.1 T.2.2.2.1 T.2.2.2.2 ∧ σ.1 82 14 = nI T.2.2.1 ∧ σ.1 82 15 = nI T.2.2.2.1 ∧ σ.1 82 16 = nI T.2.2.2.2 ∧ σ.1 82 13 = nI T.2.2.2.2 ∧ σ.1 82 17 = nI T.1 ∧ T.1 ≤ 4 ∧ (T.1 ≠ 0 → σ.1 82 18 = nI T.2.1 ∧ T.2.1 ≤ 500)
/-- what a step of the reference's reading leaves -/
abbrev mfr (σ τ : ax_S) : Prop := sm [82] σ τ ∧ ∀ f, nq f → τ.1 82 f = σ.1 82 f
theorem mfr.rf (σ : ax_S) : mfr σ σ := ⟨sm.rf _ _, fun _ _ => rfl⟩
theorem mfr.tr {σ τ ρ : ax_S} (h : mfr σ τ) (h2 : mfr τ ρ) : mfr σ ρ := ⟨h.1.tr h2.1, fun f hf => (h2.2 f hf).trans (h.2 f hf)⟩
theorem MSt_c {σ ρ : ax_S} {b : Nat → Int32} {n : Nat} {T : TK} (h8 : ρ.1 82 = σ.1 82) (h9 : ρ.1 89 = σ.1 89) (h : MSt σ b n T) : MSt ρ b n T := by
  unfold MSt mBy at h ⊢
  rw [h8, h9]
  exact h
theorem c17 {σ : ax_S} {b : Nat → Int32} {n : Nat} {T : TK} (h : MSt σ b n T) : σ.1 82 17 = 0 ↔ T.1 = 0 := by
  obtain ⟨-, -, -, -, -, -, h7, h8, -⟩ := h
  rw [h7]
  exact ⟨fun q => nI_inj (b := 0) (by omega) (by omega) q, fun q => by rw [q]; rfl⟩
theorem c17p {σ : ax_S} {b : Nat → Int32} {n : Nat} {T : TK} (h : MSt σ b n T) : 0 < σ.1 82 17 ↔ ¬ T.1 = 0 := by
  obtain ⟨-, -, -, -, -, -, h7, h8, -⟩ := h
  rw [h7, i_lt, i_0, nI_i (by omega)]
  omega
theorem m_bad_n (d : Nat) {σ : ax_S} {b : Nat → Int32} {n : Nat} {T : TK} (h : MSt σ b n T) (t : ¬ T.1 = 0) (j : Int32) : cV sO d 212 [.ref 82, .int j] σ = some σ := by
  refine cV_ev mi_212 ((u_212_82 d σ _).trans ?_) rfl
  rw [if_neg (fun q => t ((c17 h).mp q))]
theorem m_bad (d : Nat) {σ : ax_S} {b : Nat → Int32} {n : Nat} {T : TK} (h : MSt σ b n T) {j : Nat} (j1 : 1 ≤ j) (j4 : j ≤ 4) : ∃ τ, cV sO d 212 [.ref 82, .int (nI j)] σ = some τ ∧ mfr σ τ ∧ MSt τ b n (pB j T) := by
  by_cases t : T.1 = 0
  · have h' := h
    obtain ⟨⟨c1', c2, c3⟩, c4, c5, c6, c7, c8, c9, c10, c11⟩ := h'
    refine ⟨sI (sI σ 82 17 (nI j)) 82 18 (nI T.2.2.2.1), cV_ev mi_212 ((u_212_82 d σ _).trans ?_) rfl, ⟨((sm.rf _ _).set _ _ (by decide)).set _ _ (by decide), fun f hf => ?_⟩, ?_⟩
    · rw [if_pos ((c17 h).mpr t), sI_k (k := 17) _ (by decide), c6]
    · rw [sI_k _ (by omega), sI_k _ (by omega)]
    · rw [pB_0 t]
      refine ⟨⟨c1', ?_, fun i hi => ?_⟩, c4, ?_, ?_, ?_, ?_, ?_, j4, fun _ => ⟨sI_1 _ _ _ _, by have := c4.2.1; have := c4.2.2.1; simp only; omega⟩⟩
      · rw [sI_k _ (by decide), sI_k _ (by decide)]; exact c2
      · rw [sI_n _ _ (by decide), sI_n _ _ (by decide)]; exact c3 i hi
      · rw [sI_k _ (by decide), sI_k _ (by decide)]; exact c5
      · rw [sI_k _ (by decide), sI_k _ (by decide)]; exact c6
      · rw [sI_k _ (by decide), sI_k _ (by decide)]; exact c7
      · rw [sI_k _ (by decide), sI_k _ (by decide)]; exact c8
      · rw [sI_k _ (by decide), sI_1]
  · exact ⟨σ, m_bad_n d h t _, mfr.rf _, by rw [pB_n t]; exact h⟩
theorem m_nxt (d : Nat) {σ : ax_S} {b : Nat → Int32} {n : Nat} {T : TK} (h : MSt σ b n T) (t : T.1 = 0) : ∃ τ, cV sO (d + 1) 206 [.ref 82] σ = some τ ∧ mfr σ τ ∧ MSt τ b n (pN b n T) := by
  obtain ⟨c1', c4, c5, c6, c7, c8, c9, c10, c11⟩ := h
  obtain ⟨τ, e1, e2, e3, e4, e5, e6, e7⟩ := m_next d c1' c4.2.2.1 c8
  refine ⟨τ, e1, ⟨e2, fun f hf => e3 f (by unfold nk; omega)⟩, ?_⟩
  rw [pN_0 t]
  refine ⟨⟨c1'.1, (e3 12 (by decide)).trans c1'.2.1, fun i hi => by rw [e2.1 89 (by decide)]; exact c1'.2.2 i hi⟩, nxt_o b c4.2.2.1, e4, e5, e6, e7, ?_, by simp only; omega, fun q => absurd rfl q⟩
  rw [e3 17 (by decide), c9, t]
theorem m_must (d : Nat) {σ : ax_S} {b : Nat → Int32} {n : Nat} {T : TK} (so : Prop) [Decidable so] (h : MSt σ b n T) : ∃ τ, cV sO (d + 2) 213 [.ref 82, .int (bi so)] σ = some τ ∧ mfr σ τ ∧ MSt τ b n (pM b n so T) := by
  unfold pM
  by_cases q : so
  · rw [if_pos q, bi_t q]
    by_cases t : T.1 = 0
    · obtain ⟨τ, e1, e2, e3⟩ := m_nxt d h t
      refine ⟨τ, cV_ev mi_213 ((u_213_82 d σ _).trans ?_) rfl, e2, e3⟩
      rw [if_neg (by decide), if_pos ((c17 h).mpr t), e1, Option.bind_some]
    · refine ⟨σ, cV_ev mi_213 ((u_213_82 d σ _).trans ?_) rfl, mfr.rf _, by rw [pN_n t]; exact h⟩
      rw [if_neg (by decide), if_neg (fun z => t ((c17 h).mp z))]
  · rw [if_neg q, bi_f q]
    obtain ⟨τ, e1, e2, e3⟩ := m_bad (d + 1) h (j := 1) (by omega) (by omega)
    have t2 : ¬ (pB 1 T).1 = 0 := by
      by_cases t : T.1 = 0
      · rw [pB_0 t]; simp only; omega
      · rw [pB_n t]; exact t
    refine ⟨τ, cV_ev mi_213 ((u_213_82 d σ _).trans ?_) rfl, e2, e3⟩
    rw [if_pos rfl, show (1 : Int32) = nI 1 from rfl, e1, Option.bind_some, if_neg (fun z => t2 ((c17 e3).mp z))]
theorem m_here (d : Nat) {σ : ax_S} {b : Nat → Int32} {n : Nat} {T : TK} (h : MSt σ b n T) : ∃ v, cI sO d 215 [.ref 82] σ = some (v, σ) ∧ (T.2.2.1 = 3 → v = vl b T.2.2.2.1 T.2.2.2.2) := by
  obtain ⟨⟨c1', c2, c3⟩, ⟨k5, o2, o3, -⟩, c5, c6, c7, -⟩ := h
  by_cases k3 : T.2.2.1 = 3
  · refine ⟨vl b T.2.2.2.1 T.2.2.2.2, cI_ev mi_215 ((u_215_82 d σ).trans ?_) rfl, fun _ => rfl⟩
    rw [c6]
    refine (loop_it (E := fun k (v : Int32) => ev sO d 215 7 [.ref 82, .int v, .int (nI (T.2.2.2.1 + k))] [] σ) (f := fun k v => 10 * v + b (T.2.2.2.1 + k) - 48) (N := T.2.2.2.2 - T.2.2.2.1) (fun k v hk => ?_) 0).trans ?_
    · rw [u_215_82p7, c7, if_pos (nlt (show T.2.2.2.1 + k < T.2.2.2.2 by omega)), c5, if_pos (by rw [k3]; rfl), gd_t (nI_g (show T.2.2.2.1 + k < 500 by omega) (by omega)), nI_c (by omega), (c3 _ (show T.2.2.2.1 + k < n by omega)).1, nI_add1, Nat.add_assoc]
    · rw [u_215_82p7, c7, if_neg (nnl (show T.2.2.2.2 ≤ T.2.2.2.1 + (T.2.2.2.2 - T.2.2.2.1) by omega) (by omega))]
      rfl
  · refine ⟨0, cI_ev mi_215 ((u_215_82 d σ).trans ?_) rfl, fun q => absurd q k3⟩
    have n3 : ¬ nI T.2.2.1 = 3 := fun q => k3 (nI_inj (b := 3) (by omega) (by omega) q)
    rw [u_215_82p7, c5, if_neg n3]
    split <;> rfl
theorem m_number (d : Nat) {σ : ax_S} {b : Nat → Int32} {n : Nat} {T : TK} (lo hi : Int32) (h : MSt σ b n T) : ∃ v τ, cI sO (d + 3) 214 [.ref 82, .int lo, .int hi] σ = some (v, τ) ∧ mfr σ τ ∧ MSt τ b n (pU b n lo hi T) ∧ ((pU b n lo hi T).1 = 0 → v = vl b T.2.2.2.1 T.2.2.2.2) := by
  by_cases t : T.1 = 0
  · have n0 : ¬ 0 < σ.1 82 17 := fun q => (c17p h).mp q t
    have k5 := h.2.1.1
    obtain ⟨v, hv, hv2⟩ := m_here (d + 2) h
    by_cases k3 : T.2.2.1 = 3
    · have e3 : σ.1 82 14 = 3 := by rw [h.2.2.1, k3]; rfl
      have hv2 := hv2 k3
      by_cases r : rgP lo.toInt hi.toInt (vl b T.2.2.2.1 T.2.2.2.2)
      · obtain ⟨τ, e1, e2, e4⟩ := m_must d True h
        have ep : pU b n lo hi T = pM b n True T := by
          unfold pU pH pM
          rw [if_pos t, if_pos k3, if_pos r, if_pos trivial]
        refine ⟨v, τ, cI_ev mi_214 ((u_214_82 d σ _ _).trans ?_) rfl, e2, by rw [ep]; exact e4, fun _ => hv2⟩
        rw [if_neg n0, hv, Option.bind_some]
        simp only [m_in, l_i, Option.bind_some, bi_0]
        rw [if_pos e3, if_neg (fun z => z (by rw [hv2]; exact r)), if_pos e3, show (1 : Int32) = bi True from rfl, e1, Option.bind_some]
      · obtain ⟨τ, e1, e2, e4⟩ := m_bad (d + 2) h (j := 2) (by omega) (by omega)
        have t2 : ¬ (pB 2 T).1 = 0 := by rw [pB_0 t]; simp only; omega
        obtain ⟨ρ, f1, f2, f4⟩ := m_must d True e4
        have ep : pU b n lo hi T = pM b n True (pB 2 T) := by
          unfold pU pH
          rw [if_pos t, if_pos k3, if_neg r, pN_n t2, pM_n t2]
        have e3' : τ.1 82 14 = 3 := by
          rw [e4.2.2.1, pB_0 t]
          (try simp only)
          rw [k3]
          rfl
        refine ⟨v, ρ, cI_ev mi_214 ((u_214_82 d σ _ _).trans ?_) rfl, e2.tr f2, by rw [ep]; exact f4, fun _ => hv2⟩
        rw [if_neg n0, hv, Option.bind_some]
        simp only [m_in, l_i, Option.bind_some, bi_0]
        rw [if_pos e3, if_pos (fun z => r (by rw [← hv2]; exact z)), show (2 : Int32) = nI 2 from rfl, e1, Option.bind_some, if_pos e3', show (1 : Int32) = bi True from rfl, f1, Option.bind_some]
    · have e3 : ¬ σ.1 82 14 = 3 := by
        rw [h.2.2.1]
        exact fun q => k3 (nI_inj (b := 3) (by omega) (by omega) q)
      obtain ⟨τ, e1, e2, e4⟩ := m_must d False h
      have ep : pU b n lo hi T = pM b n False T := by
        unfold pU pH pM
        rw [if_pos t, if_neg k3, if_neg (fun q => q), pN_n (by rw [pB_0 t]; simp only; omega)]
      refine ⟨v, τ, cI_ev mi_214 ((u_214_82 d σ _ _).trans ?_) rfl, e2, by rw [ep]; exact e4, fun q => ?_⟩
      · rw [if_neg n0, hv, Option.bind_some]
        (try simp only)
        rw [if_neg e3, if_neg e3, show (0 : Int32) = bi False from rfl, e1, Option.bind_some]
      · exact absurd (pU_ok q).2.1 k3
  · refine ⟨0, σ, cI_ev mi_214 ((u_214_82 d σ _ _).trans ?_) rfl, mfr.rf _, by rw [pU_n t]; exact h, fun q => absurd (by rw [pU_n t] at q; exact q) t⟩
    rw [if_pos ((c17p h).mpr t)]
theorem m_nos (d : Nat) {σ : ax_S} {b : Nat → Int32} {n : Nat} {T : TK} (lo hi : Int32) (h : MSt σ b n T) : ∃ v τ, cI sO (d + 4) 223 [.ref 82, .int lo, .int hi] σ = some (v, τ) ∧ mfr σ τ ∧ MSt τ b n (pK b n lo hi T) ∧ ((pK b n lo hi T).1 = 0 → v = if T.2.2.1 = 5 then -1 else vl b T.2.2.2.1 T.2.2.2.2) := by
  have kb := h.2.1.1
  by_cases t : T.1 = 0
  · by_cases k5 : T.2.2.1 = 5
    · obtain ⟨τ, f1, f2, f3⟩ := m_nxt (d + 2) h t
      refine ⟨-1, τ, cI_ev mi_223 ((u_223_82 d σ _ _).trans ?_) rfl, f2, ?_, fun _ => (if_pos k5).symm⟩
      · rw [if_pos ((c17 h).mpr t), if_pos (by rw [h.2.2.1, k5]; rfl), f1, Option.bind_some]
      · unfold pK
        rw [if_pos ⟨t, k5⟩]
        exact f3
    · obtain ⟨v, τ, e1, e2, e3, e4⟩ := m_number d lo hi h
      have ep : pK b n lo hi T = pU b n lo hi T := if_neg (fun q => k5 q.2)
      refine ⟨v, τ, cI_ev mi_223 ((u_223_82 d σ _ _).trans ?_) rfl, e2, by rw [ep]; exact e3, fun q => by rw [ep] at q; rw [e4 q, if_neg k5]⟩
      rw [if_pos ((c17 h).mpr t), if_neg (show ¬ σ.1 82 14 = 5 by rw [h.2.2.1]; exact fun q => k5 (nI_inj (b := 5) (by omega) (by omega) q)), e1, Option.bind_some]
  · obtain ⟨v, τ, e1, e2, e3, e4⟩ := m_number d lo hi h
    have ep : pK b n lo hi T = pU b n lo hi T := if_neg (fun q => t q.1)
    refine ⟨v, τ, cI_ev mi_223 ((u_223_82 d σ _ _).trans ?_) rfl, e2, by rw [ep]; exact e3, fun q => absurd (by rw [pK_n t] at q; exact q) t⟩
    rw [if_neg (fun z => t ((c17 h).mp z)), e1, Option.bind_some]
theorem m_mustEnd (d : Nat) {σ : ax_S} {b : Nat → Int32} {n : Nat} {T : TK} (h : MSt σ b n T) : ∃ τ, cV sO (d + 3) 216 [.ref 82] σ = some τ ∧ mfr σ τ ∧ MSt τ b n (pM b n (T.2.2.1 = 4) T) := by
  have kb := h.2.1.1
  by_cases t : T.1 = 0
  · obtain ⟨τ, e1, e2, e3⟩ := m_must d (T.2.2.1 = 4) h
    refine ⟨τ, cV_ev mi_216 ((u_216_82 d σ).trans ?_) rfl, e2, e3⟩
    rw [if_pos ((c17 h).mpr t)]
    by_cases k4 : T.2.2.1 = 4
    · rw [if_pos (by rw [h.2.2.1, k4]; rfl)]
      rw [bi_t k4] at e1
      rw [e1, Option.bind_some]
    · rw [if_neg (show ¬ σ.1 82 14 = 4 by rw [h.2.2.1]; exact fun q => k4 (nI_inj (b := 4) (by omega) (by omega) q))]
      rw [bi_f k4] at e1
      rw [e1, Option.bind_some]
  · refine ⟨σ, cV_ev mi_216 ((u_216_82 d σ).trans ?_) rfl, mfr.rf _, by rw [pM_n t]; exact h⟩
    rw [if_neg (fun z => t ((c17 h).mp z))]
theorem m_ended (d : Nat) {σ : ax_S} {b : Nat → Int32} {n : Nat} {T : TK} (h : MSt σ b n T) : ((pE T).1 = 0 → cL sO (d + 1) 218 [.ref 82] σ = some (0, σ)) ∧ (¬ (pE T).1 = 0 → ∃ τ, cL sO (d + 1) 218 [.ref 82] σ = some ((-9000000000000000100 : Int64) - (nI (pE T).2.1).toInt64, τ) ∧ sm [82] σ τ ∧ (∀ f, nq f → f ≠ 11 → τ.1 82 f = σ.1 82 f) ∧ τ.1 82 11 = nI (pE T).1 ∧ (pE T).2.1 ≤ 500) := by
  have kb := h.2.1.1
  have e1 : σ.1 82 14 = 1 ↔ T.2.2.1 = 1 := by
    rw [h.2.2.1]
    exact ⟨fun q => nI_inj (b := 1) (by omega) (by omega) q, fun q => by rw [q]; rfl⟩
  have fin : ∀ {θ : ax_S} {U : TK}, MSt θ b n U → ¬ U.1 = 0 → mfr σ θ → sm [82] σ (sI θ 82 11 (θ.1 82 17)) ∧ (∀ f, nq f → f ≠ 11 → (sI θ 82 11 (θ.1 82 17)).1 82 f = σ.1 82 f) ∧ (sI θ 82 11 (θ.1 82 17)).1 82 11 = nI U.1 ∧ (sI θ 82 11 (θ.1 82 17)).1 82 18 = nI U.2.1 ∧ U.2.1 ≤ 500 := fun {θ U} hU t hf => ⟨hf.1.set _ _ (by decide), fun f h1 h2 => by rw [sI_k _ h2]; exact hf.2 f h1, by rw [sI_1]; exact hU.2.2.2.2.2.2.1, by rw [sI_k _ (by decide)]; exact (hU.2.2.2.2.2.2.2.2 t).1, (hU.2.2.2.2.2.2.2.2 t).2⟩
  by_cases t : T.1 = 0
  · by_cases k1 : T.2.2.1 = 1
    · have ep : pE T = T := if_pos k1
      rw [ep]
      refine ⟨fun _ => cL_ev mi_218 ((u_218_82 d σ).trans ?_) rfl, fun q => absurd t q⟩
      rw [if_pos ((c17 h).mpr t), if_pos (e1.mpr k1), if_neg (fun q => (c17p h).mp q t)]
    · have ep : pE T = pB 1 T := if_neg k1
      have t2 : ¬ (pB 1 T).1 = 0 := by rw [pB_0 t]; simp only; omega
      rw [ep]
      refine ⟨fun q => absurd q t2, fun _ => ?_⟩
      obtain ⟨τ, f1, f2, f3⟩ := m_bad d h (j := 1) (by omega) (by omega)
      obtain ⟨z1, z2, z3, z4, z5⟩ := fin f3 t2 f2
      refine ⟨_, cL_ev mi_218 ((u_218_82 d σ).trans ?_) rfl, z1, z2, z3, z5⟩
      rw [if_pos ((c17 h).mpr t), if_neg (fun q => k1 (e1.mp q)), show (1 : Int32) = nI 1 from rfl, f1, Option.bind_some, if_pos ((c17p f3).mpr t2), z4]
  · rw [pE_n t]
    refine ⟨fun q => absurd q t, fun _ => ?_⟩
    obtain ⟨z1, z2, z3, z4, z5⟩ := fin h t (mfr.rf _)
    refine ⟨_, cL_ev mi_218 ((u_218_82 d σ).trans ?_) rfl, z1, z2, z3, z5⟩
    rw [if_neg (fun q => t ((c17 h).mp q)), if_pos ((c17p h).mpr t), z4]
