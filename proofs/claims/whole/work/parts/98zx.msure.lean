/-! TREES: the reference's sure joins -/
abbrev Q0 (X s : Nat) : Prop := (nI s &&& (nI X ^^^ (-1 : Int32))) = 0 ∧ s ≠ X ∧ 1 < pcN s
abbrev JM (e : Nat) (E : Nat → Nat) (u s : Nat) : Prop := ∃ x, x ∈ mJ e u ∧ mkN E x e = s
theorem m_su1 (d : Nat) {ω : ax_S} {X : Nat} (hX : X < 4096) (i : Int32) : ∃ τ : ax_S, ev sO (d + 6) 266 28 [.ref 82, .int (nI X), .int i, .int 0, .null, .null] [] ω = ev sO (d + 6) 266 73 [.ref 82, .int (nI X), .int i, .int 0, .null, .null] [] τ ∧ sm [99] ω τ ∧ ∀ s, s < X → (τ.1 99 s = 0 ∨ τ.1 99 s = 1) ∧ (τ.1 99 s = 1 ↔ Q0 X s) := by
  obtain ⟨τ, ⟨p1, p2⟩, a1⟩ := loop_P (E := fun k (τ : ax_S) => ev sO (d + 6) 266 28 [.ref 82, .int (nI X), .int i, .int (nI k), .null, .null] [] τ) (N := X + 1) (P := fun k τ => sm [99] ω τ ∧ ∀ s, s < k → (τ.1 99 s = 0 ∨ τ.1 99 s = 1) ∧ (τ.1 99 s = 1 ↔ Q0 X s)) (fun k τ hk hp => by
    obtain ⟨p1, p2⟩ := hp
    have eu := u_266_82p28 d τ (nI X) i (nI k) .null rfl .null rfl
    have g := nI_g (show k < 4096 by omega) (by omega)
    rw [if_neg (nnl (show k ≤ X by omega) (by omega)), nI_c (show k < 2147483648 by omega), nI_add1] at eu
    have fin : ∀ z : Int32, (z = 0 ∨ z = 1) → (z = 1 ↔ Q0 X k) → sm [99] ω (sI τ 99 k z) ∧ ∀ s, s < k + 1 → ((sI τ 99 k z).1 99 s = 0 ∨ (sI τ 99 k z).1 99 s = 1) ∧ ((sI τ 99 k z).1 99 s = 1 ↔ Q0 X s) := fun z h1 h2 => by
      refine ⟨p1.set _ _ (by decide), fun s hs => ?_⟩
      by_cases q : s = k
      · rw [q, sI_1]
        exact ⟨h1, h2⟩
      · rw [sI_k _ q]
        exact p2 s (by omega)
    by_cases c0 : (nI k &&& (nI X ^^^ (-1 : Int32))) = 0
    · rw [if_pos c0] at eu
      by_cases c2 : k = X
      · rw [if_pos (by rw [c2]), gd_t g] at eu
        exact ⟨_, fin 0 (Or.inl rfl) ⟨fun z => absurd z (by decide), fun z => absurd c2 z.2.1⟩, eu⟩
      · rw [if_neg (fun z => c2 (nI_inj (by omega) (by omega) z)), m_bits _ _ (show k < 4096 by omega), Option.bind_some] at eu
        (try simp only at eu)
        have hp := pc_12 k
        by_cases c3 : 1 < pcN k
        · rw [if_pos (show (1 : Int32) < nI (pcN k) from nI_lt (a := 1) c3 (by omega)), gd_t g] at eu
          exact ⟨_, fin 1 (Or.inr rfl) ⟨fun _ => ⟨c0, c2, c3⟩, fun _ => rfl⟩, eu⟩
        · rw [if_neg (show ¬ (1 : Int32) < nI (pcN k) from nnl (k := 1) (N := pcN k) (by omega) (by omega)), gd_t g] at eu
          exact ⟨_, fin 0 (Or.inl rfl) ⟨fun z => absurd z (by decide), fun z => absurd z.2.2 c3⟩, eu⟩
    · rw [if_neg c0, gd_t g] at eu
      exact ⟨_, fin 0 (Or.inl rfl) ⟨fun z => absurd z (by decide), fun z => absurd z.1 c0⟩, eu⟩) ω ⟨sm.rf _ _, fun s hs => absurd hs (Nat.not_lt_zero s)⟩
  refine ⟨τ, Eq.trans a1 ?_, p1, fun s hs => p2 s (by omega)⟩
  (try simp only)
  rw [u_266_82p28 d τ (nI X) i (nI (X + 1)) .null rfl .null rfl, if_pos (nlt (show X < X + 1 by omega))]
theorem m_su3 (d : Nat) {b : ax_S} {X e t n u : Nat} {E : Nat → Nat} (i : Int32) (hX : X < 4096) (hn : n ≤ 12) (he1 : 1 ≤ e) (he : e ≤ 6) (hL : MLay b e t) (h25 : b.1 82 25 = nI e) (hE : EC (b.1 91) E e n) (h01 : ∀ s, s < X → b.1 99 s = 0 ∨ b.1 99 s = 1) (w5 : Value) (h5 : c1 w5) : ∃ τ : ax_S, ev sO (d + 6) 266 98 [.ref 82, .int (nI X), .int i, .int (nI u), .int 0, w5] [] b = ev sO (d + 6) 266 73 [.ref 82, .int (nI X), .int i, .int (nI (u + 1)), .int (nI X), w5] [] τ ∧ sm [99] b τ ∧ ∀ s, s < X → (τ.1 99 s = 0 ∨ τ.1 99 s = 1) ∧ (τ.1 99 s = 1 ↔ b.1 99 s = 1 ∧ JM e E t s) := by
  obtain ⟨τ, ⟨p1, p2, p3⟩, a1⟩ := loop_P (E := fun k (τ : ax_S) => ev sO (d + 6) 266 98 [.ref 82, .int (nI X), .int i, .int (nI u), .int (nI k), w5] [] τ) (N := X) (P := fun k τ => sm [99] b τ ∧ (∀ s, s < k → (τ.1 99 s = 0 ∨ τ.1 99 s = 1) ∧ (τ.1 99 s = 1 ↔ b.1 99 s = 1 ∧ JM e E t s)) ∧ ∀ s, k ≤ s → τ.1 99 s = b.1 99 s) (fun k τ hk hp => by
    obtain ⟨p1, p2, p3⟩ := hp
    have eu := u_266_82p98 d τ (nI X) i (nI u) (nI k) w5 h5
    have g := nI_g (show k < 4096 by omega) (by omega)
    rw [if_pos (nlt hk), gd_t g, nI_c (show k < 2147483648 by omega), p3 k (Nat.le_refl _), nI_add1] at eu
    have fin : ∀ z : Int32, (z = 0 ∨ z = 1) → (z = 1 ↔ b.1 99 k = 1 ∧ JM e E t k) → sm [99] b (sI τ 99 k z) ∧ (∀ s, s < k + 1 → ((sI τ 99 k z).1 99 s = 0 ∨ (sI τ 99 k z).1 99 s = 1) ∧ ((sI τ 99 k z).1 99 s = 1 ↔ b.1 99 s = 1 ∧ JM e E t s)) ∧ ∀ s, k + 1 ≤ s → (sI τ 99 k z).1 99 s = b.1 99 s := fun z h1 h2 => by
      refine ⟨p1.set _ _ (by decide), fun s hs => ?_, fun s hs => by rw [sI_k _ (by omega)]; exact p3 s (by omega)⟩
      by_cases q : s = k
      · rw [q, sI_1]
        exact ⟨h1, h2⟩
      · rw [sI_k _ q]
        exact p2 s (by omega)
    by_cases c0 : b.1 99 k = 0
    · rw [if_pos c0, gd_t g] at eu
      exact ⟨_, fin 0 (Or.inl rfl) ⟨fun z => absurd z (by decide), fun z => absurd (c0.symm.trans z.1) (by decide)⟩, eu⟩
    · have c1' : b.1 99 k = 1 := (h01 k hk).elim (fun z => absurd z c0) id
      obtain ⟨v, v1, v2, v3⟩ := m_isJoin (d + 5) (σ := τ) (e := e) (t := t) (s := k) (n := n) (E := E) hn he1 he (by omega) (MLay_c hL (p1.1 91 (by decide)) (p1.1 92 (by decide)) (p1.1 93 (by decide)) (p1.1 94 (by decide)) (p1.1 95 (by decide)) (by rw [p1.1 82 (by decide)])) (by rw [p1.1 82 (by decide)]; exact h25) (by rw [p1.1 91 (by decide)]; exact hE)
      rw [if_neg c0, v1, Option.bind_some] at eu
      (try simp only at eu)
      by_cases c2 : v = 0
      · rw [if_pos c2, gd_t g] at eu
        exact ⟨_, fin 0 (Or.inl rfl) ⟨fun z => absurd z (by decide), fun z => absurd (c2.symm.trans (v3.mpr z.2)) (by decide)⟩, eu⟩
      · rw [if_neg c2, gd_t g] at eu
        exact ⟨_, fin 1 (Or.inr rfl) ⟨fun _ => ⟨c1', v3.mp (v2.elim (fun z => absurd z c2) id)⟩, fun _ => rfl⟩, eu⟩) b ⟨sm.rf _ _, fun s hs => absurd hs (Nat.not_lt_zero s), fun _ _ => rfl⟩
  refine ⟨τ, Eq.trans a1 ?_, p1, p2⟩
  (try simp only)
  rw [u_266_82p98 d τ (nI X) i (nI u) (nI X) w5 h5, if_neg (nnl (Nat.le_refl _) (by omega)), nI_add1]
theorem m_su2 (d : Nat) {ω a : ax_S} {n e X : Nat} {E K : Nat → Nat} {F : Nat → Nat → Nat} {u cd : Nat → Nat → Int32} {G : Nat → Prop} (i : Int32) (hX : X < 4096) (h : MX ω n e E K F u cd) (h98 : ∀ v, v < allN e → (ω.1 98 v = 0 ↔ ¬ G v)) (ha : sm [99] ω a) (hs : ∀ s, s < X → (a.1 99 s = 0 ∨ a.1 99 s = 1) ∧ (a.1 99 s = 1 ↔ Q0 X s)) : ∃ τ : ax_S, ev sO (d + 6) 266 73 [.ref 82, .int (nI X), .int i, .int 0, .null, .null] [] a = ev sO (d + 6) 266 156 [.ref 82, .int (nI X), .int i, .int 0, .int (-1000000), .int 0] [] τ ∧ sm [82, 92, 93, 94, 95, 99] ω τ ∧ (∀ f, f ≠ 29 → τ.1 82 f = ω.1 82 f) ∧ ∀ s, s < X → (τ.1 99 s = 0 ∨ τ.1 99 s = 1) ∧ (τ.1 99 s = 1 ↔ Q0 X s ∧ ∀ v, v < allN e → G v → JM e E v s) := by
  have hal := allN_le e
  obtain ⟨b1', b2, b3, b4, b5, b6, -⟩ := h
  obtain ⟨⟨w4, τ⟩, ⟨q4, p1, p2, p3⟩, a1⟩ := loop_P (E := fun v (s : Value × ax_S) => ev sO (d + 6) 266 73 [.ref 82, .int (nI X), .int i, .int (nI v), s.1, .null] [] s.2) (N := allN e) (P := fun v s => c1 s.1 ∧ sm [82, 92, 93, 94, 95, 99] ω s.2 ∧ (∀ f, f ≠ 29 → s.2.1 82 f = ω.1 82 f) ∧ ∀ t, t < X → (s.2.1 99 t = 0 ∨ s.2.1 99 t = 1) ∧ (s.2.1 99 t = 1 ↔ Q0 X t ∧ ∀ v', v' < v → G v' → JM e E v' t)) (fun v s hv hp => by
    obtain ⟨w4, τ⟩ := s
    obtain ⟨q4, p1, p2, p3⟩ := hp
    simp only at q4 p1 p2 p3 ⊢
    have h25 : τ.1 82 25 = nI e := by rw [p2 25 (by decide)]; exact b5
    have eu := u_266_82p73 d τ (nI X) i (nI v) w4 q4 .null rfl
    rw [m_allTrees _ b2 b3 h25, Option.bind_some] at eu
    (try simp only at eu)
    rw [if_pos (nlt hv), gd_t (nI_g (show v < 945 by omega) (by omega)), nI_c (show v < 2147483648 by omega), p1.1 98 (by decide), nI_add1] at eu
    by_cases c0 : ω.1 98 v = 0
    · rw [if_pos c0] at eu
      have hG := (h98 v hv).mp c0
      refine ⟨(w4, τ), ⟨q4, p1, p2, fun t ht => ⟨(p3 t ht).1, (p3 t ht).2.trans ⟨fun z => ⟨z.1, fun v' h1 h2 => ?_⟩, fun z => ⟨z.1, fun v' h1 h2 => z.2 v' (by omega) h2⟩⟩⟩⟩, eu⟩
      by_cases y : v' = v
      · rw [y] at h2
        exact absurd h2 hG
      · exact z.2 v' (by omega) h2
    · rw [if_neg c0] at eu
      have hG : G v := Classical.byContradiction (fun z => c0 ((h98 v hv).mpr z))
      obtain ⟨-, -, -, -, -, hwk⟩ := chk_of b2 b3 hv
      obtain ⟨b, g1, g2, g3, g4⟩ := m_layTree (d + 4) (σ := τ) (e := e) (t := v) b2 b3 (by omega) h25 hwk
      rw [g1, Option.bind_some] at eu
      obtain ⟨ρ, r1, r2, r3⟩ := m_su3 d (b := b) (X := X) (e := e) (t := v) (n := n) (u := v) (E := E) i hX b1' (by omega) b3 g4 (by rw [g3 25 (by decide)]; exact h25) (by rw [g2.1 91 (by decide), p1.1 91 (by decide)]; exact b6) (fun s hs => by rw [g2.1 99 (by decide)]; exact (p3 s hs).1) .null rfl
      refine ⟨(.int (nI X), ρ), ⟨rfl, (p1.tr (g2.up (by decide))).tr (r2.up (by decide)), fun f hf => ?_, fun t ht => ⟨(r3 t ht).1, (r3 t ht).2.trans ?_⟩⟩, eu.trans r1⟩
      · (try simp only)
        rw [r2.1 82 (by decide), g3 f hf, p2 f hf]
      · rw [g2.1 99 (by decide), (p3 t ht).2]
        constructor
        · rintro ⟨⟨z1, z2⟩, z3⟩
          refine ⟨z1, fun v' h1 h2 => ?_⟩
          by_cases y : v' = v
          · rw [y]; exact z3
          · exact z2 v' (by omega) h2
        · rintro ⟨z1, z2⟩
          exact ⟨⟨z1, fun v' h1 h2 => z2 v' (by omega) h2⟩, z2 v (by omega) hG⟩) (.null, a) ⟨rfl, ha.up (by decide), fun f _ => by (try simp only); rw [ha.1 82 (by decide)], fun t ht => ⟨(hs t ht).1, (hs t ht).2.trans ⟨fun z => ⟨z, fun v' h1 => absurd h1 (Nat.not_lt_zero v')⟩, fun z => z.1⟩⟩⟩
  simp only at q4 p1 p2 p3 a1
  refine ⟨τ, Eq.trans a1 ?_, p1, p2, p3⟩
  rw [u_266_82p73 d τ (nI X) i (nI (allN e)) w4 q4 .null rfl, m_allTrees _ b2 b3 (by rw [p2 25 (by decide)]; exact b5), Option.bind_some]
  (try simp only)
  rw [if_neg (nnl (Nat.le_refl _) (by omega))]
/-- what was found so far -/
def fdv (l : List Nat) (f : Nat → Int32) (i : Int32) : Int32 := if 0 ≤ i.toInt ∧ i.toInt < l.length then f (gN l i.toNatClampNeg) else -1000000
theorem fdv_hit {l : List Nat} {f : Nat → Int32} {k : Nat} (hl : l.length < 2147483648) : fdv (l ++ [k]) f (nI l.length) = f k := by
  unfold fdv
  rw [if_pos (by rw [nI_i hl, List.length_append, List.length_singleton]; omega), nI_c hl, gN_e]
theorem fdv_miss {l : List Nat} {f : Nat → Int32} {k : Nat} {i : Int32} (hl : l.length < 2147483648) (h : nI l.length ≠ i) : fdv (l ++ [k]) f i = fdv l f i := by
  unfold fdv
  rw [List.length_append, List.length_singleton]
  by_cases q : 0 ≤ i.toInt
  · obtain ⟨c, hc, e, e2⟩ := i_nI q
    have hne : c ≠ l.length := fun z => h (by rw [e, z])
    by_cases y : i.toInt < l.length
    · rw [if_pos ⟨q, by omega⟩, if_pos ⟨q, y⟩, e, nI_c hc, gN_l (by omega)]
    · rw [if_neg (fun z => y (by have := z.2; omega)), if_neg (fun z => y z.2)]
  · rw [if_neg (fun z => q z.1), if_neg (fun z => q z.1)]
theorem fdv_sj {l : List Nat} {f : Nat → Int32} {i : Int32} (h1 : ¬ i < -1) : sjv l (fun s => (f s).toInt64) i = if i = -1 then (nI l.length).toInt64 else (fdv l f i).toInt64 := by
  unfold sjv fdv
  by_cases q : i = -1
  · rw [if_pos q, if_pos q]
  · rw [if_neg q, if_neg q]
    have h3 : 0 ≤ i.toInt := by
      rw [i_lt, show (-1 : Int32).toInt = -1 from rfl] at h1
      rw [i_eq, show (-1 : Int32).toInt = -1 from rfl] at q
      omega
    by_cases z : i.toInt < l.length
    · rw [if_pos z, if_pos ⟨h3, z⟩]
    · rw [if_neg z, if_neg (fun y => z y.2)]
      rfl
theorem m_su4 (d : Nat) {ρ : ax_S} {X : Nat} {i : Int32} (hX : X < 4096) (h1 : ¬ i < -1) (h01 : ∀ s, s < X → ρ.1 99 s = 0 ∨ ρ.1 99 s = 1) : ∀ r k, k + r = X → ev sO (d + 6) 266 156 [.ref 82, .int (nI X), .int i, .int (nI (vlP (fun s => ρ.1 99 s == 1) k).length), .int (fdv (vlP (fun s => ρ.1 99 s == 1) k) nI i), .int (nI k)] [] ρ = some (some (.long (sjv (vlP (fun s => ρ.1 99 s == 1) X) (fun s => (nI s).toInt64) i)), ρ)
  | 0, k, hk => by
    have hk : k = X := by omega
    subst hk
    rw [u_266_82p156 d ρ (nI k) i _ _ (nI k), if_neg (nnl (Nat.le_refl _) (by omega)), fdv_sj h1]
    by_cases q : i = -1
    · rw [if_pos q, if_pos q]
    · rw [if_neg q, if_neg q]
  | r + 1, k, hk => by
    have ih := m_su4 d hX h1 h01 r (k + 1) (by omega)
    have hle := vlP_le (fun s => ρ.1 99 s == 1) k
    have g := nI_g (show k < 4096 by omega) (by omega)
    have eu := u_266_82p156 d ρ (nI X) i (nI (vlP (fun s => ρ.1 99 s == 1) k).length) (fdv (vlP (fun s => ρ.1 99 s == 1) k) nI i) (nI k)
    rw [if_pos (nlt (show k < X by omega)), gd_t g, nI_c (show k < 2147483648 by omega)] at eu
    simp only [nI_add1, Int32.add_zero] at eu
    obtain z | z := h01 k (by omega)
    · rw [if_pos z, gd_t g, if_pos z] at eu
      rw [vlP_f (show ¬ (ρ.1 99 k == 1) = true by rw [z]; decide)] at ih
      exact eu.trans ih
    · have zn : ¬ ρ.1 99 k = 0 := by rw [z]; decide
      rw [vlP_t (show (ρ.1 99 k == 1) = true by rw [z]; decide), List.length_append, List.length_singleton] at ih
      rw [if_neg zn] at eu
      by_cases w : nI (vlP (fun s => ρ.1 99 s == 1) k).length = i
      · rw [if_pos w, gd_t g, if_neg zn] at eu
        rw [← w, fdv_hit (by omega), w] at ih
        exact eu.trans ih
      · rw [if_neg w, gd_t g, if_neg zn] at eu
        rw [fdv_miss (by omega) w] at ih
        exact eu.trans ih
