/-! TREES: the class grows them all -/
def nA (e : Nat) (cd : Nat → Nat → Int32) (t : Nat) : Nat := nS (fun i => nT e t (cd (gN (vlP (vyB cd e) 11) i))) (vlP (vyB cd e) 11).length
/-- the answers of the first T trees -/
def GA (σ : ax_S) (e : Nat) (cd : Nat → Nat → Int32) (T : Nat) : Prop := ∃ L w, σ.1 66 12 = nI L ∧ σ.1 66 13 = nI w ∧ w = cn (fun t => nA e cd t = L) T ∧ (∀ t, t < T → L ≤ nA e cd t) ∧ ((L = 66 ∧ T = 0) ∨ (L ≤ 55 ∧ ∃ t, t < T ∧ nA e cd t = L)) ∧ (0 < T → ∀ b, b < 64 → (bl σ.2 b = true ↔ ∀ t, t < T → nA e cd t = L → b ∈ cJ e t)) ∧ (∀ m, m < 11 → vyB cd e m = true → 0 < T → ∀ b, b < 32 → (bt (σ.1 79 m) b = true ↔ ∃ t, t < T ∧ nA e cd t = L ∧ bt (tpT e t (cd m)) b = true)) ∧ ∀ m, m < 11 → vyB cd e m = false → σ.1 79 m = andC (cd m) e
/-- what stands while they are grown -/
def LF (σ : ax_S) (e : Nat) (cd : Nat → Nat → Int32) : Prop := (∀ j, j < e → ∀ m, m < 11 → σ.1 72 (m * 11 + leafN j) = cd m j) ∧ (∀ j, j < e → σ.1 76 (leafN j) = nI (2 ^ j)) ∧ σ.1 66 1 = nI e ∧ σ.1 66 14 = nI (allN e) ∧ σ.1 66 10 = nI (vlP (vyB cd e) 11).length ∧ ∀ i, i < (vlP (vyB cd e) 11).length → σ.1 78 i = nI (gN (vlP (vyB cd e) 11) i)
theorem allN_le (e : Nat) : allN e ≤ 945 ∧ 0 < allN e := by
  unfold allN
  repeat' split
  all_goals omega
theorem leafN_r {n : Nat} (h : lfN n) : leafN ((n + 1) / 2) = n := by
  unfold lfN at h
  unfold leafN
  split <;> omega
theorem nT_le {e t : Nat} (h2 : 2 ≤ e) (h6 : e ≤ 6) (ht : t < allN e) (W : Nat → Int32) : nT e t W ≤ 5 := by
  obtain ⟨h, -⟩ := cls_tree h2 h6 ht (fun n => W ((n + 1) / 2)) W (fun _ _ _ _ => rfl)
  obtain ⟨-, -, -, d4, -, -⟩ := chd_of h2 h6 ht
  rw [← h]
  refine Nat.le_trans (rnN_le _ _ _) ?_
  show (List.map _ _).length ≤ 5
  rw [List.length_map, d4]
  omega
theorem nA_le {e t : Nat} {cd : Nat → Nat → Int32} (h2 : 2 ≤ e) (h6 : e ≤ 6) (ht : t < allN e) : nA e cd t ≤ 55 := by
  have h1 := nS_le (f := fun i => nT e t (cd (gN (vlP (vyB cd e) 11) i))) (b := 5) (vlP (vyB cd e) 11).length (fun k _ => nT_le h2 h6 ht _)
  have h2 := vlP_le (vyB cd e) 11
  have h3 : (vlP (vyB cd e) 11).length * 5 ≤ 11 * 5 := Nat.mul_le_mul_right 5 h2
  exact Nat.le_trans h1 h3
theorem cn_skip {P : Nat → Prop} [DecidablePred P] {T : Nat} (h : ¬ P T) : cn P (T + 1) = cn P T := if_neg h
theorem cn_take {P : Nat → Prop} [DecidablePred P] {T : Nat} (h : P T) : cn P (T + 1) = cn P T + 1 := if_pos h
theorem GA_skip {σ τ : ax_S} {e T : Nat} {cd : Nat → Nat → Int32} {L w : Nat} (h12 : σ.1 66 12 = nI L) (hw : σ.1 66 13 = nI w) (hL : L < 1000) (h : GA σ e cd T) (hT : L < nA e cd T) (hT5 : nA e cd T ≤ 55) (t12 : τ.1 66 12 = nI L) (t13 : τ.1 66 13 = nI w) (t2 : τ.2 = σ.2) (t79 : τ.1 79 = σ.1 79) : GA τ e cd (T + 1) := by
  obtain ⟨L', w', a1, a2, a3, a4, a5, a6, a7, a8⟩ := h
  have e1 : L = L' := nI_inj (by omega) (by obtain z | z := a5 <;> omega) (h12.symm.trans a1)
  subst e1
  have hlt : ∀ t, t < T + 1 → nA e cd t = L → t < T := fun t h1 h2 => by
    by_cases q : t = T
    · rw [q] at h2
      omega
    · omega
  have h0 : 0 < T := by
    obtain ⟨z, -⟩ | ⟨-, t, z, -⟩ := a5
    · omega
    · omega
  refine ⟨L, w', t12, ?_, ?_, fun t ht => ?_, Or.inr ?_, fun _ b hb => ?_, fun m hm hv _ b hb => ?_, fun m hm hv => ?_⟩
  · rw [t13, ← hw, a2]
  · rw [cn_skip (by omega)]
    exact a3
  · by_cases q : t = T
    · rw [q]
      omega
    · exact a4 t (by omega)
  · obtain ⟨z, -⟩ | ⟨z, t, z1, z2⟩ := a5
    · omega
    · exact ⟨z, t, by omega, z2⟩
  · rw [t2, a6 h0 b hb]
    exact ⟨fun z t h1 h2 => z t (hlt t h1 h2) h2, fun z t h1 h2 => z t (by omega) h2⟩
  · rw [t79, a7 m hm hv h0 b hb]
    exact ⟨fun ⟨t, z1, z2⟩ => ⟨t, by omega, z2⟩, fun ⟨t, z1, z2⟩ => ⟨t, hlt t z1 z2.1, z2⟩⟩
  · rw [t79]
    exact a8 m hm hv
theorem s_turn (d : Nat) {σ : ax_S} {e T : Nat} {cd : Nat → Nat → Int32} (h2 : 2 ≤ e) (he : e ≤ 6) (hT : T < allN e) (hl : LF σ e cd) (ha : GA σ e cd T) : ∃ a b τ : ax_S, cV sO (d + 2) 145 [.ref 66, .int (nI T)] σ = some a ∧ cV sO (d + 2) 147 [.ref 66] a = some b ∧ cV sO (d + 2) 148 [.ref 66] b = some τ ∧ (∀ x, x ∉ [66, 72, 73, 74, 75, 76, 77, 78, 79] → τ.1 x = σ.1 x) ∧ LF τ e cd ∧ GA τ e cd (T + 1) := by
  have hal := allN_le e
  obtain ⟨l1, l2, l3, l4, l5, l6⟩ := hl
  have ha' := ha
  obtain ⟨L, w, g1, g2, g3, g4, g5, g6, g7, g8⟩ := ha
  have hL : L < 1000 := by obtain z | z := g5 <;> omega
  obtain ⟨a, a1, a2, a3, a4⟩ := s_build d (σ := σ) (e := e) (t := T) (by omega) he (by omega) l3
  have hvlt : ∀ i, i < (vlP (vyB cd e) 11).length → gN (vlP (vyB cd e) 11) i < 11 := fun i hi => (vlP_lt hi).1
  have cl : ∀ i, i < (vlP (vyB cd e) 11).length → rnN fF (cProg (cTree e T)) (fun n => a.1 72 (gN (vlP (vyB cd e) 11) i * 11 + n)) = nT e T (cd (gN (vlP (vyB cd e) 11) i)) ∧ rnV fF (cProg (cTree e T)) (fun n => a.1 72 (gN (vlP (vyB cd e) 11) i * 11 + n)) (gN (cTree e T).2.2.2 (e - 2)) = tpT e T (cd (gN (vlP (vyB cd e) 11) i)) := fun i hi => cls_tree h2 he hT _ _ (fun n hn hlf hne => by
    have := l1 _ hne _ (hvlt i hi)
    rw [leafN_r hlf] at this
    rw [a2.1 72 (by decide)]
    exact this)
  obtain ⟨b, c, b1', ⟨b2, b3, b4⟩, b5, b6, b7, b8⟩ := s_countChanges (d + 2) (σ := a) (g := cTree e T) (e := e) (L := L) (nv := (vlP (vyB cd e) 11).length) (v := gN (vlP (vyB cd e) 11)) he a4 (vlP_le _ _) (by rw [a3 10 (by decide)]; exact l5) (fun i hi => ⟨by rw [a2.1 78 (by decide)]; exact l6 i hi, hvlt i hi⟩) (fun i j hi hj => vlP_inj hi hj) hL (by rw [a3 12 (by decide)]; exact g1)
  have eF : nS (fun i => rnN fF (cProg (cTree e T)) fun n => a.1 72 (gN (vlP (vyB cd e) 11) i * 11 + n)) (vlP (vyB cd e) 11).length = nA e cd T := nS_c _ (fun i hi => (cl i hi).1)
  rw [eF] at b7 b8
  have f12 : b.1 66 12 = nI L := by rw [b3 12 (by decide), a3 12 (by decide)]; exact g1
  have f13 : b.1 66 13 = nI w := by rw [b3 13 (by decide), a3 13 (by decide)]; exact g2
  have f79 : b.1 79 = σ.1 79 := by rw [b2.1 79 (by decide), a2.1 79 (by decide)]
  have fJ : b.2 = σ.2 := by rw [b2.2, a2.2]
  obtain ⟨τ, k1, k2, k3, k4, k5, k6⟩ := s_compare (d + 1) (σ := b) (e := e) (t := T) (c := c) (L := L) (w := w) (nv := (vlP (vyB cd e) 11).length) (v := gN (vlP (vyB cd e) 11)) h2 he hT (GRel_c a4 (b2.1 73 (by decide)) (b2.1 74 (by decide)) (b2.1 75 (by decide)) (b2.1 77 (by decide)) (b3 8 (by decide))) b5 f12 f13 b6 hL (vlP_le _ _) (by rw [b3 10 (by decide), a3 10 (by decide)]; exact l5) (fun i hi => ⟨by rw [b2.1 78 (by decide), a2.1 78 (by decide)]; exact l6 i hi, hvlt i hi⟩) (fun i j hi hj => vlP_inj hi hj) (fun j hj => by rw [b2.1 76 (by decide), a2.1 76 (by decide)]; exact l2 j hj)
  have hTl := nA_le (cd := cd) h2 he hT
  refine ⟨a, b, τ, a1, b1', k1, fun x hx => ?_, ⟨fun j hj m hm => ?_, k4, ?_, ?_, ?_, fun i hi => ?_⟩, ?_⟩
  · simp only [List.mem_cons, List.not_mem_nil, or_false, not_or] at hx
    rw [k2 x (by simp only [List.mem_cons, List.not_mem_nil, or_false]; omega), b2.1 x (by simp only [List.mem_cons, List.not_mem_nil, or_false]; omega), a2.1 x (by simp only [List.mem_cons, List.not_mem_nil, or_false]; omega)]
  · rw [k2 72 (by decide), b4 m _ hm (by have := (leafN_h j).2; omega) (leafN_l j), a2.1 72 (by decide)]
    exact l1 j hj m hm
  · rw [k3 1 (by decide) (by decide), b3 1 (by decide), a3 1 (by decide)]
    exact l3
  · rw [k3 14 (by decide) (by decide), b3 14 (by decide), a3 14 (by decide)]
    exact l4
  · rw [k3 10 (by decide) (by decide), b3 10 (by decide), a3 10 (by decide)]
    exact l5
  · rw [k2 78 (by decide), b2.1 78 (by decide), a2.1 78 (by decide)]
    exact l6 i hi
  · by_cases q : L < c
    · obtain ⟨t1, t2, t3, t4⟩ := k5 q
      exact GA_skip (σ := σ) g1 g2 hL ha' (by omega) hTl t1 t2 (t3.trans fJ) (t4.trans f79)
    · obtain ⟨t1, t2, t3, t4, t5⟩ := k6 (by omega)
      obtain ⟨e1, e2⟩ : c = nA e cd T ∧ ∀ i, i < (vlP (vyB cd e) 11).length → ∀ n, n < 11 → b.1 72 (gN (vlP (vyB cd e) 11) i * 11 + n) = rnV fF (cProg (cTree e T)) (fun n => a.1 72 (gN (vlP (vyB cd e) 11) i * 11 + n)) n := b8.elim (fun z => absurd z q) id
      have hoe : gN (cTree e T).2.2.2 (e - 2) < 11 := by
        obtain ⟨i, i1, i2, i3, -⟩ := GRel_f a4 (show e - 2 < e - 1 by omega)
        omega
      have etop : ∀ i, i < (vlP (vyB cd e) 11).length → b.1 72 (gN (vlP (vyB cd e) 11) i * 11 + gN (cTree e T).2.2.2 (e - 2)) = tpT e T (cd (gN (vlP (vyB cd e) 11) i)) := fun i hi => (e2 i hi _ hoe).trans (cl i hi).2
      have lt1 : ∀ t, t < T + 1 → t < T ∨ t = T := fun t ht => by omega
      refine ⟨c, if c < L then 1 else w + 1, t1, t2, ?_, fun t ht => ?_, Or.inr ⟨by omega, T, by omega, e1.symm⟩, fun _ b' hb => ?_, fun m hm hv _ b' hb => ?_, fun m hm hv => ?_⟩
      · rw [cn_take (P := fun t => nA e cd t = c) (T := T) e1.symm]
        by_cases y : c < L
        · rw [if_pos y, cn_0 (fun i hi z => by have := g4 i hi; omega)]
        · have : c = L := by omega
          rw [if_neg y, this, ← g3]
      · obtain z | z := lt1 t ht
        · have := g4 t z
          omega
        · rw [z]
          omega
      · rw [t3 b' hb, fJ]
        by_cases y : c < L
        · constructor
          · rintro ⟨-, z⟩ t ht hn
            obtain x | x := lt1 t ht
            · have := g4 t x
              omega
            · rw [x]; exact z
          · intro z
            exact ⟨Or.inl y, z T (by omega) e1.symm⟩
        · have hcL : c = L := by omega
          have hT0 : 0 < T := by
            obtain ⟨z, -⟩ | ⟨-, t, z, -⟩ := g5
            · omega
            · omega
          rw [g6 hT0 b' hb]
          constructor
          · rintro ⟨z, z2⟩ t ht hn
            obtain x | x := lt1 t ht
            · exact (z.elim (fun a => absurd a y) id) t x (by omega)
            · rw [x]; exact z2
          · intro z
            exact ⟨Or.inr (fun t ht hn => z t (by omega) (by omega)), z T (by omega) e1.symm⟩
      · obtain ⟨i, hi, ei⟩ := gN_x ((vlP_m (vyB cd e) 11 m).mpr ⟨hm, hv⟩)
        have h4 := t4 i hi
        rw [etop i hi, ei] at h4
        rw [h4]
        by_cases y : c < L
        · rw [if_pos y]
          constructor
          · intro z
            exact ⟨T, by omega, e1.symm, z⟩
          · rintro ⟨t, ht, hn, z⟩
            obtain x | x := lt1 t ht
            · have := g4 t x
              omega
            · rw [x] at z; exact z
        · have hcL : c = L := by omega
          have hT0 : 0 < T := by
            obtain ⟨z, -⟩ | ⟨-, t, z, -⟩ := g5
            · omega
            · omega
          rw [if_neg y, bt_or, Bool.or_eq_true, f79, g7 m hm hv hT0 b' hb]
          constructor
          · rintro (⟨t, z1, z2, z3⟩ | z)
            · exact ⟨t, by omega, by omega, z3⟩
            · exact ⟨T, by omega, e1.symm, z⟩
          · rintro ⟨t, ht, hn, z⟩
            obtain x | x := lt1 t ht
            · exact Or.inl ⟨t, x, by omega, z⟩
            · rw [x] at z; exact Or.inr z
      · rw [t5 m (fun i hi z => by
          have := (vlP_lt hi).2
          rw [z, hv] at this
          cases this), f79]
        exact g8 m hm hv
