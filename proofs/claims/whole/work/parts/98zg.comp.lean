/-! TREES: the class compares -/
theorem s_cmp (d : Nat) {σ : ax_S} {g : CG} {e nv fo : Nat} {v : Nat → Nat} (x1 : Int32) (h2 : 2 ≤ e) (he : e ≤ 6) (hg : GRel σ g e) (hfo : gN g.2.2.2 (e - 2) = fo) (hnv : nv ≤ 11) (h10 : σ.1 66 10 = nI nv) (hv : ∀ i, i < nv → σ.1 78 i = nI (v i) ∧ v i < 11) (hinj : ∀ i j, i < nv → j < nv → v i = v j → i = j) : ∃ τ : ax_S, ev sO (d + 1) 148 86 [.ref 66, .int x1, .int 0, .null, .null] [] σ = some (none, τ) ∧ sm [79] σ τ ∧ (∀ i, i < nv → τ.1 79 (v i) = if x1 = 0 then σ.1 79 (v i) ||| σ.1 72 (v i * 11 + fo) else σ.1 72 (v i * 11 + fo)) ∧ ∀ x, (∀ i, i < nv → v i ≠ x) → τ.1 79 x = σ.1 79 x := by
  obtain ⟨i, i1, i2, e1, f77, -⟩ := GRel_f hg (show e - 2 < e - 1 by omega)
  rw [hfo] at e1
  rw [← e1] at f77
  have e8 : σ.1 66 8 = nI (e - 1) := hg.2.2.2.2
  obtain ⟨⟨w3, w4, τ⟩, ⟨q3, q4, p1, p2, p3⟩, a1⟩ := loop_P (E := fun k (s : Value × Value × ax_S) => ev sO (d + 1) 148 86 [.ref 66, .int x1, .int (nI k), s.1, s.2.1] [] s.2.2) (N := nv) (P := fun k s => c1 s.1 ∧ c1 s.2.1 ∧ sm [79] σ s.2.2 ∧ (∀ i, i < k → s.2.2.1 79 (v i) = if x1 = 0 then σ.1 79 (v i) ||| σ.1 72 (v i * 11 + fo) else σ.1 72 (v i * 11 + fo)) ∧ ∀ x, (∀ i, i < k → v i ≠ x) → s.2.2.1 79 x = σ.1 79 x) (fun k s hk hp => by
    obtain ⟨w3, w4, τ⟩ := s
    obtain ⟨q3, q4, p1, p2, p3⟩ := hp
    simp only at q3 q4 p1 p2 p3 ⊢
    obtain ⟨v1, v2⟩ := hv k hk
    have eu := u_148_66p86 d τ x1 (nI k) w3 q3 w4 q4
    simp only [p1.1 66 (by decide), p1.1 77 (by decide), p1.1 78 (by decide), p1.1 72 (by decide), h10, e8, nI_sub1 (show 0 < e - 1 by omega) (show e - 1 < 2147483648 by omega), show e - 1 - 1 = e - 2 by omega, nI_c (show e - 2 < 2147483648 by omega), f77, nI_c (show k < 2147483648 by omega), v1, nI_c (show v k < 2147483648 by omega), show nI (v k) * (11 : Int32) = nI (v k * 11) from nI_mul (b := 11) (by omega) (by omega) (by omega), nI_pl (show v k * 11 + fo < 2147483648 by omega), nI_c (show v k * 11 + fo < 2147483648 by omega), nI_add1] at eu
    rw [if_pos (nlt hk), gd_t (nI_g (show k < 11 by omega) (by omega)), gd_t (nI_g (show e - 2 < 6 by omega) (by omega)), gd_t (nI_g (show v k * 11 + fo < 121 by omega) (by omega))] at eu
    have hnew : τ.1 79 (v k) = σ.1 79 (v k) := p3 _ (fun i hi z => by have := hinj i k (by omega) hk z; omega)
    have upd2 : ∀ z : Int32, (z = if x1 = 0 then σ.1 79 (v k) ||| σ.1 72 (v k * 11 + fo) else σ.1 72 (v k * 11 + fo)) → (∀ i, i < k + 1 → (sI τ 79 (v k) z).1 79 (v i) = if x1 = 0 then σ.1 79 (v i) ||| σ.1 72 (v i * 11 + fo) else σ.1 72 (v i * 11 + fo)) ∧ ∀ x, (∀ i, i < k + 1 → v i ≠ x) → (sI τ 79 (v k) z).1 79 x = σ.1 79 x := fun z hz => by
      refine ⟨fun i hi => ?_, fun x hx => ?_⟩
      · by_cases q : i = k
        · rw [q, sI_1, hz]
        · rw [sI_k _ (fun y => q (hinj i k (by omega) hk y))]
          exact p2 i (by omega)
      · rw [sI_k _ (fun y => hx k (by omega) y.symm)]
        exact p3 x (fun i hi => hx i (by omega))
    by_cases q : x1 = 0
    · rw [if_pos q, gd_t (nI_g v2 (by omega)), gd_t (nI_g v2 (by omega)), hnew] at eu
      obtain ⟨u1, u2⟩ := upd2 (σ.1 79 (v k) ||| σ.1 72 (v k * 11 + fo)) (by rw [if_pos q])
      exact ⟨(.int (nI (v k)), .int (σ.1 72 (v k * 11 + fo)), sI τ 79 (v k) (σ.1 79 (v k) ||| σ.1 72 (v k * 11 + fo))), ⟨rfl, rfl, p1.set _ _ (by decide), u1, u2⟩, eu⟩
    · rw [if_neg q, gd_t (nI_g v2 (by omega))] at eu
      obtain ⟨u1, u2⟩ := upd2 (σ.1 72 (v k * 11 + fo)) (by rw [if_neg q])
      exact ⟨(.int (nI (v k)), .int (σ.1 72 (v k * 11 + fo)), sI τ 79 (v k) (σ.1 72 (v k * 11 + fo))), ⟨rfl, rfl, p1.set _ _ (by decide), u1, u2⟩, eu⟩) (.null, .null, σ) ⟨rfl, rfl, sm.rf _ _, fun i hi => absurd hi (Nat.not_lt_zero i), fun _ _ => rfl⟩
  simp only at q3 q4 p1 p2 p3 a1
  refine ⟨τ, Eq.trans a1 ?_, p1, p2, p3⟩
  rw [u_148_66p86 d τ x1 (nI nv) w3 q3 w4 q4, p1.1 66 (by decide), h10, if_neg (nnl (Nat.le_refl _) (by omega))]
theorem s_compare (d : Nat) {σ : ax_S} {e t c L w nv : Nat} {v : Nat → Nat} (h2 : 2 ≤ e) (he : e ≤ 6) (ht : t < allN e) (hg : GRel σ (cTree e t) e) (h11 : σ.1 66 11 = nI c) (h12 : σ.1 66 12 = nI L) (h13 : σ.1 66 13 = nI w) (hc : c < 1000) (hL : L < 1000) (hnv : nv ≤ 11) (h10 : σ.1 66 10 = nI nv) (hv : ∀ i, i < nv → σ.1 78 i = nI (v i) ∧ v i < 11) (hinj : ∀ i j, i < nv → j < nv → v i = v j → i = j) (hcl : ∀ j, j < e → σ.1 76 (leafN j) = nI (2 ^ j)) : ∃ τ : ax_S, cV sO (d + 1) 148 [.ref 66] σ = some τ ∧ (∀ a, a ∉ [66, 76, 79] → τ.1 a = σ.1 a) ∧ (∀ f, f ≠ 12 → f ≠ 13 → τ.1 66 f = σ.1 66 f) ∧ (∀ j, j < e → τ.1 76 (leafN j) = nI (2 ^ j)) ∧ (L < c → τ.1 66 12 = nI L ∧ τ.1 66 13 = nI w ∧ τ.2 = σ.2 ∧ τ.1 79 = σ.1 79) ∧ (c ≤ L → τ.1 66 12 = nI c ∧ τ.1 66 13 = nI (if c < L then 1 else w + 1) ∧ (∀ b, b < 64 → (bl τ.2 b = true ↔ (c < L ∨ bl σ.2 b = true) ∧ b ∈ cJ e t)) ∧ (∀ i, i < nv → τ.1 79 (v i) = if c < L then σ.1 72 (v i * 11 + gN (cTree e t).2.2.2 (e - 2)) else σ.1 79 (v i) ||| σ.1 72 (v i * 11 + gN (cTree e t).2.2.2 (e - 2))) ∧ ∀ x, (∀ i, i < nv → v i ≠ x) → τ.1 79 x = σ.1 79 x) := by
  have eu := u_148_66 d σ
  have e8 : σ.1 66 8 = nI (e - 1) := hg.2.2.2.2
  rw [h11, h12, e8] at eu
  have lf : ∀ j, lfN (leafN j) := fun j => by
    unfold lfN leafN
    split <;> omega
  by_cases q : L < c
  · rw [if_pos (nlt q)] at eu
    exact ⟨σ, cV_ev mi_148 eu rfl, fun _ _ => rfl, fun _ _ _ => rfl, hcl, fun _ => ⟨h12, h13, rfl, rfl⟩, fun z => absurd z (by omega)⟩
  · rw [if_neg (nnl (show c ≤ L by omega) (by omega)), if_neg (show ¬ nI (e - 1) < (1 : Int32) from nnl (N := 1) (by omega) (by omega))] at eu
    by_cases y : c < L
    · rw [if_pos (nlt y)] at eu
      obtain ⟨T, hT⟩ : ∃ T, T = sI (sJ (sI (sI σ 66 12 (nI c)) 66 13 0) (-1 : Int64)) 66 13 1 := ⟨_, rfl⟩
      have t1 : ∀ a, a ≠ 66 → T.1 a = σ.1 a := fun a ha => by
        rw [hT, sI_n _ _ ha, sJ_1, sI_n _ _ ha, sI_n _ _ ha]
      have t2 : ∀ f, f ≠ 12 → f ≠ 13 → T.1 66 f = σ.1 66 f := fun f h1 h2 => by
        rw [hT, sI_k _ h2, sJ_1, sI_k _ h2, sI_k _ h1]
      have t3 : T.1 66 12 = nI c := by rw [hT, sI_k _ (by decide), sJ_1, sI_k _ (by decide), sI_1]
      have t4 : T.1 66 13 = nI 1 := by rw [hT, sI_1]; rfl
      have t5 : T.2 = -1 := by rw [hT]; rfl
      have g2 : GRel T (cTree e t) e := GRel_c hg (t1 73 (by decide)) (t1 74 (by decide)) (t1 75 (by decide)) (t1 77 (by decide)) (t2 8 (by decide) (by decide))
      obtain ⟨ρ, J, j1, j2, j3, j4⟩ := s_joins d h2 he ht g2 (fun j hj => by rw [t1 76 (by decide)]; exact hcl j hj)
      have r66 : ρ.1 66 = T.1 66 := j2.1 66 (by decide)
      obtain ⟨τ, k1, k2, k3, k4⟩ := s_cmp d (σ := sJ ρ ((-1) &&& J)) (g := cTree e t) (e := e) (nv := nv) (v := v) 1 h2 he (GRel_c g2 (j2.1 73 (by decide)) (j2.1 74 (by decide)) (j2.1 75 (by decide)) (j2.1 77 (by decide)) (by rw [sJ_1, r66])) rfl hnv (by rw [sJ_1, r66, t2 10 (by decide) (by decide)]; exact h10) (fun i hi => by rw [sJ_1, j2.1 78 (by decide), t1 78 (by decide)]; exact hv i hi) hinj
      refine ⟨τ, cV_ev mi_148 (eu.trans ?_) rfl, fun a ha => ?_, fun f f1 f2 => ?_, fun j hj => ?_, fun z => absurd z q, fun _ => ⟨?_, ?_, fun b hb => ?_, fun i hi => ?_, fun x hx => ?_⟩⟩
      · show (cL sO d 149 [.ref 66] (sI (sJ (sI (sI σ 66 12 (nI c)) 66 13 0) (-1 : Int64)) 66 13 ((sJ (sI (sI σ 66 12 (nI c)) 66 13 0) (-1 : Int64)).1 66 13 + 1))).bind _ = _
        rw [show (sJ (sI (sI σ 66 12 (nI c)) 66 13 0) (-1 : Int64)).1 66 13 = 0 by rw [sJ_1, sI_1], show (0 : Int32) + 1 = 1 from rfl, ← hT, j1, Option.bind_some, t5]
        exact k1
      · simp only [List.mem_cons, List.not_mem_nil, or_false, not_or] at ha
        rw [k2.1 a (by simp only [List.mem_cons, List.not_mem_nil, or_false]; omega), sJ_1, j2.1 a (by simp only [List.mem_cons, List.not_mem_nil, or_false]; omega), t1 a ha.1]
      · rw [k2.1 66 (by decide), sJ_1, r66, t2 f f1 f2]
      · rw [k2.1 76 (by decide), sJ_1, j3 _ (lf j), t1 76 (by decide)]
        exact hcl j hj
      · rw [k2.1 66 (by decide), sJ_1, r66, t3]
      · rw [k2.1 66 (by decide), sJ_1, r66, t4, if_pos y]
      · rw [k2.2, sJ_2, bl_and, bl_m1 hb, Bool.true_and, j4 b hb]
        exact ⟨fun z => ⟨Or.inl y, z⟩, fun z => z.2⟩
      · rw [k3 i hi, if_neg (by decide), if_pos y, sJ_1, j2.1 72 (by decide), t1 72 (by decide)]
      · rw [k4 x hx, sJ_1, j2.1 79 (by decide), t1 79 (by decide)]
    · rw [if_neg (nnl (show L ≤ c by omega) (by omega)), h13, nI_add1] at eu
      obtain ⟨T, hT⟩ : ∃ T, T = sI σ 66 13 (nI (w + 1)) := ⟨_, rfl⟩
      rw [← hT] at eu
      have t1 : ∀ a, a ≠ 66 → T.1 a = σ.1 a := fun a ha => by rw [hT, sI_n _ _ ha]
      have t2 : ∀ f, f ≠ 13 → T.1 66 f = σ.1 66 f := fun f h2 => by rw [hT, sI_k _ h2]
      have t4 : T.1 66 13 = nI (w + 1) := by rw [hT, sI_1]
      have t5 : T.2 = σ.2 := by rw [hT]; rfl
      have g2 : GRel T (cTree e t) e := GRel_c hg (t1 73 (by decide)) (t1 74 (by decide)) (t1 75 (by decide)) (t1 77 (by decide)) (t2 8 (by decide))
      obtain ⟨ρ, J, j1, j2, j3, j4⟩ := s_joins d h2 he ht g2 (fun j hj => by rw [t1 76 (by decide)]; exact hcl j hj)
      have r66 : ρ.1 66 = T.1 66 := j2.1 66 (by decide)
      obtain ⟨τ, k1, k2, k3, k4⟩ := s_cmp d (σ := sJ ρ (T.2 &&& J)) (g := cTree e t) (e := e) (nv := nv) (v := v) 0 h2 he (GRel_c g2 (j2.1 73 (by decide)) (j2.1 74 (by decide)) (j2.1 75 (by decide)) (j2.1 77 (by decide)) (by rw [sJ_1, r66])) rfl hnv (by rw [sJ_1, r66, t2 10 (by decide)]; exact h10) (fun i hi => by rw [sJ_1, j2.1 78 (by decide), t1 78 (by decide)]; exact hv i hi) hinj
      refine ⟨τ, cV_ev mi_148 (eu.trans ?_) rfl, fun a ha => ?_, fun f f1 f2 => ?_, fun j hj => ?_, fun z => absurd z q, fun _ => ⟨?_, ?_, fun b hb => ?_, fun i hi => ?_, fun x hx => ?_⟩⟩
      · rw [j1, Option.bind_some]
        exact k1
      · simp only [List.mem_cons, List.not_mem_nil, or_false, not_or] at ha
        rw [k2.1 a (by simp only [List.mem_cons, List.not_mem_nil, or_false]; omega), sJ_1, j2.1 a (by simp only [List.mem_cons, List.not_mem_nil, or_false]; omega), t1 a ha.1]
      · rw [k2.1 66 (by decide), sJ_1, r66, t2 f f2]
      · rw [k2.1 76 (by decide), sJ_1, j3 _ (lf j), t1 76 (by decide)]
        exact hcl j hj
      · rw [k2.1 66 (by decide), sJ_1, r66, t2 12 (by decide), h12, show L = c by omega]
      · rw [k2.1 66 (by decide), sJ_1, r66, t4, if_neg y]
      · rw [k2.2, sJ_2, bl_and, t5, Bool.and_eq_true, j4 b hb]
        exact ⟨fun z => ⟨Or.inr z.1, z.2⟩, fun z => ⟨z.1.elim (fun a => absurd a y) id, z.2⟩⟩
      · rw [k3 i hi, if_pos rfl, if_neg y, sJ_1, j2.1 72 (by decide), t1 72 (by decide), j2.1 79 (by decide), t1 79 (by decide)]
      · rw [k4 x hx, sJ_1, j2.1 79 (by decide), t1 79 (by decide)]
