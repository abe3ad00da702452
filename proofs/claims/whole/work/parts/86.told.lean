/-! THE PUBLIC METHODS, 32: told -/
abbrev okv (v : Int32) (k : Nat) : Prop := -1 ≤ v.toInt ∧ v.toInt ≤ cap0 k
theorem upd_self (f : Nat → Int32) (k : Nat) : f = upd f k (f k) := by
  funext j
  by_cases q : j = k
  · rw [q, upd_1]
  · rw [upd_n _ _ q]
theorem dfC_f {f f' g : Nat → Int32} {cap : Nat → Int} {K : Nat} (h : dfC f g cap K) (e : ∀ k, k < K → f' k = f k) : dfC f' g cap K := by
  refine ⟨fun k hk => ?_, h.2⟩
  unfold dfP
  rw [e k hk]
  exact h.1 k hk
theorem dfC_g {f g g' : Nat → Int32} {cap : Nat → Int} {K : Nat} (h : dfC f g cap K) (hK : K ≤ 11) (e : ∀ k, 3 ≤ k → k < 15 → g' k = g k) : dfC f g' cap K := by
  refine ⟨fun k hk => ?_, fun k h1 h2 => ?_⟩
  · unfold dfP
    rw [e 3 (by omega) (by omega), e (4 + k) (by omega) (by omega)]
    exact h.1 k hk
  · rw [e 3 (by omega) (by omega)]
    exact h.2 k h1 h2
theorem cap0_0 (k : Nat) : 0 ≤ cap0 k := by
  unfold cap0
  split
  · omega
  · split <;> omega
def mcp (k : Nat) : Int32 := if k < 8 then 9999 else if k = 8 then 9 else 99
theorem mcp_c (k : Nat) : (mcp k).toInt = cap0 k := by
  unfold mcp cap0
  split
  · rfl
  · split <;> rfl
theorem s_mostOf (d : Nat) (σ : ax_S) {k : Nat} (hk : k < 11) : cI sO d 94 [.int (nI k)] σ = some (mcp k, σ) := by
  refine cI_ev mi_94 ((u_94 d σ _).trans ?_) rfl
  unfold mcp
  by_cases h : k < 8
  · rw [if_pos (l8 h), if_pos h]
  · rw [if_neg (show ¬ nI k < (8 : Int32) from nnl (N := 8) (by omega)), if_neg h]
    by_cases h2 : k = 8
    · rw [if_pos h2, if_pos (by rw [h2]; rfl)]
    · rw [if_neg h2, if_neg (show ¬ nI k = (8 : Int32) from fun q => h2 (nI_inj (b := 8) (by omega) (by omega) q))]
theorem s_itemAt (d : Nat) {σ : ax_S} {a n i : Nat} (ha : a < 8) (hn : n ≤ 40) (hs : σ.1 3 a = nI n) (hi : i < n) : cI sO (d + 3) 93 [.ref 1, .int (nI a), .int (nI i)] σ = some (σ.1 4 (40 * a + i), σ) := by
  refine cI_ev mi_93 ((u_93_1 d σ _ _).trans ?_) rfl
  have sp : spP n (nI i) 1 := by
    have := nI_i (n := i) (by omega)
    exact ⟨by omega, by rw [i_1]; omega, by rw [i_1]; omega⟩
  rw [s_spans d (nI i) 1 ha hn hs, Option.bind_some]
  simp only [bi_0]
  rw [if_neg (fun q => q sp), (nI_40 ha (show i < 40 by omega)).1, gd_t (nI_g (show 40 * a + i < 320 by omega) (by omega)), nI_c (by omega)]
theorem s_takeItems (d : Nat) {σ : ax_S} {a n i : Nat} (ha : a < 8) (hn : n ≤ 40) (hs : σ.1 3 a = nI n) (hi : i + 11 ≤ n) : (∃ τ, cI sO (d + 4) 92 [.ref 61, .ref 1, .int (nI a), .int (nI i)] σ = some (1, τ) ∧ sm [62] σ τ ∧ (∀ k, k < 11 → okv (σ.1 4 (40 * a + i + k)) k) ∧ ∀ k, k < 11 → τ.1 62 k = if σ.1 4 (40 * a + i + k) < 0 then -1000000 else σ.1 4 (40 * a + i + k)) ∨ (∃ τ, cI sO (d + 4) 92 [.ref 61, .ref 1, .int (nI a), .int (nI i)] σ = some (0, τ) ∧ sm [62] σ τ ∧ ∃ k, k < 11 ∧ ¬ okv (σ.1 4 (40 * a + i + k)) k) := by
  have e1 : (-1 : Int32).toInt = -1 := rfl
  have h := loop_E (E := fun k (s : Value × ax_S) => ev sO (d + 4) 92 3 [.ref 61, .ref 1, .int (nI a), .int (nI i), .int (nI k), s.1] [] s.2) (N := 11) (P := fun k s => c1 s.1 ∧ sm [62] σ s.2 ∧ (∀ j, j < k → okv (σ.1 4 (40 * a + i + j)) j) ∧ ∀ j, j < k → s.2.1 62 j = if σ.1 4 (40 * a + i + j) < 0 then -1000000 else σ.1 4 (40 * a + i + j)) (R := fun β => ∃ τ, β = some (some (.int 0), τ) ∧ sm [62] σ τ ∧ ∃ k, k < 11 ∧ ¬ okv (σ.1 4 (40 * a + i + k)) k) (fun k s hk hp => by
    obtain ⟨w, τ⟩ := s
    obtain ⟨p0, p1, p2, p3⟩ := hp
    simp only at p0 p1 p2 p3 ⊢
    have e4 : τ.1 4 = σ.1 4 := p1.1 4 (by decide)
    rw [u_92_61_1p3 _ _ _ _ _ _ p0, if_pos (l11 hk), nI_pl (by omega), s_itemAt d ha hn (by rw [p1.1 3 (by decide)]; exact hs) (show i + k < n by omega), Option.bind_some]
    simp only [s_mostOf _ _ hk, Option.bind_some, e4, show 40 * a + (i + k) = 40 * a + i + k by omega]
    generalize hv : σ.1 4 (40 * a + i + k) = v
    by_cases c1 : v < -1
    · rw [if_pos c1]
      refine Or.inr ⟨τ, rfl, p1, k, hk, ?_⟩
      rw [hv]
      rw [i_lt, e1] at c1
      exact fun q => by have := q.1; omega
    · rw [if_neg c1]
      by_cases c2 : mcp k < v
      · rw [if_pos c2]
        refine Or.inr ⟨τ, rfl, p1, k, hk, ?_⟩
        rw [hv]
        rw [i_lt, mcp_c] at c2
        exact fun q => by have := q.2; omega
      · rw [if_neg c2]
        rw [i_lt, e1] at c1
        rw [i_lt, mcp_c] at c2
        have ok : okv v k := ⟨by omega, by omega⟩
        have step : ∀ (z : Int32), z = (if v < 0 then -1000000 else v) → (∀ j, j < k + 1 → okv (σ.1 4 (40 * a + i + j)) j) ∧ ∀ j, j < k + 1 → (sI τ 62 k z).1 62 j = if σ.1 4 (40 * a + i + j) < 0 then -1000000 else σ.1 4 (40 * a + i + j) := fun z hz => by
          refine ⟨fun j hj => ?_, fun j hj => ?_⟩
          · by_cases q : j = k
            · rw [q, hv]; exact ok
            · exact p2 j (by omega)
          · by_cases q : j = k
            · rw [q, hv, sI_1, hz]
            · rw [sI_k _ q]
              exact p3 j (by omega)
        have gk := nI_g hk (N := 11) (by omega)
        by_cases c3 : v = -1
        · rw [if_pos c3, gd_t gk, nI_add1, nI_c (by omega)]
          obtain ⟨s1, s2⟩ := step (-1000000) (by rw [if_pos (by rw [c3]; decide)])
          exact Or.inl ⟨(.int v, sI τ 62 k (-1000000)), ⟨rfl, p1.set _ _ (by decide), s1, s2⟩, rfl⟩
        · have v0 : ¬ v < 0 := by
            rw [i_lt, i_0]
            have : v.toInt ≠ -1 := fun q => c3 ((i_eq v (-1)).mpr (by rw [q, e1]))
            omega
          rw [if_neg c3, gd_t gk, nI_add1, nI_c (by omega)]
          obtain ⟨s1, s2⟩ := step v (by rw [if_neg v0])
          exact Or.inl ⟨(.int v, sI τ 62 k v), ⟨rfl, p1.set _ _ (by decide), s1, s2⟩, rfl⟩) (.null, σ) ⟨rfl, sm.rf _ _, fun j hj => absurd hj (Nat.not_lt_zero j), fun j hj => absurd hj (Nat.not_lt_zero j)⟩
  obtain ⟨⟨w, τ⟩, ⟨p0, p1, p2, p3⟩, e⟩ | ⟨τ, e, p1, p2⟩ := h
  · simp only at p0 p1 p2 p3 e
    refine Or.inl ⟨τ, cI_ev mi_92 ((u_92_61_1 d σ _ _).trans (Eq.trans e ?_)) rfl, p1, p2, p3⟩
    rw [u_92_61_1p3 _ _ _ _ _ _ p0, if_neg g11]
  · exact Or.inr ⟨τ, cI_ev mi_92 ((u_92_61_1 d σ _ _).trans e) rfl, p1, p2⟩
/-- the reference's items -/
theorem m_items (d : Nat) {σ : ax_S} {a n i : Nat} (w1 w2 w5 : Value) (h1 : c1 w1) (h2 : c1 w2) (h5 : c1 w5) (ha : a < 8) (hn : n ≤ 40) (hi : i + 11 ≤ n) (h3 : σ.1 90 3 = 0) : (∃ τ w, c1 w ∧ ev sO (d + 2) 228 149 [.ref 82, w1, w2, .int (nI a), .int (nI i), w5, .int 0, .null] [] σ = ev sO (d + 2) 228 149 [.ref 82, w1, w2, .int (nI a), .int (nI i), w5, .int (nI 11), w] [] τ ∧ sm [90] σ τ ∧ (∀ j, j < 3 → τ.1 90 j = σ.1 90 j) ∧ (∀ k, k < 11 → okv (σ.1 85 (40 * a + i + k)) k) ∧ dfC (fun k => if σ.1 85 (40 * a + i + k) < 0 then -1000000 else σ.1 85 (40 * a + i + k)) (τ.1 90) cap0 11) ∨ (∃ τ, ev sO (d + 2) 228 149 [.ref 82, w1, w2, .int (nI a), .int (nI i), w5, .int 0, .null] [] σ = some (some (.long BADv), τ) ∧ sm [90] σ τ ∧ ∃ k, k < 11 ∧ ¬ okv (σ.1 85 (40 * a + i + k)) k) := by
  have e1 : (-1 : Int64).toInt = -1 := rfl
  have h := loop_E (E := fun k (s : Value × ax_S) => ev sO (d + 2) 228 149 [.ref 82, w1, w2, .int (nI a), .int (nI i), w5, .int (nI k), s.1] [] s.2) (N := 11) (P := fun k s => c1 s.1 ∧ sm [90] σ s.2 ∧ (∀ j, j < 3 → s.2.1 90 j = σ.1 90 j) ∧ (∀ j, j < k → okv (σ.1 85 (40 * a + i + j)) j) ∧ dfC (fun k => if σ.1 85 (40 * a + i + k) < 0 then -1000000 else σ.1 85 (40 * a + i + k)) (s.2.1 90) cap0 k) (R := fun β => ∃ τ, β = some (some (.long BADv), τ) ∧ sm [90] σ τ ∧ ∃ k, k < 11 ∧ ¬ okv (σ.1 85 (40 * a + i + k)) k) (fun k s hk hp => by
    obtain ⟨w, τ⟩ := s
    obtain ⟨p0, p1, p2, p3, p4⟩ := hp
    simp only at p0 p1 p2 p3 p4 ⊢
    have e4 : τ.1 85 = σ.1 85 := p1.1 85 (by decide)
    have ei : (40 : Int32) * nI a + nI i + nI k = nI (40 * a + i + k) := by
      rw [show (40 : Int32) = nI 40 from rfl, nI_mul (by omega) (by omega) (by omega), nI_pl (by omega), nI_pl (by omega)]
    rw [u_228_82p149 _ _ _ h1 _ h2 _ _ _ h5 _ _ p0, if_pos (l11 hk)]
    simp only [ei, gd_t (nI_g (show 40 * a + i + k < 320 by omega) (by omega)), nI_c (show 40 * a + i + k < 2147483648 by omega), e4, m_in, l_i, e1, show (9999 : Int64).toInt = 9999 by decide, show (9 : Int64).toInt = 9 by decide, show (99 : Int64).toInt = 99 by decide, Option.bind_some, bi_0, nI_add1, m_lay _ _ _ hk]
    generalize hv : σ.1 85 (40 * a + i + k) = v
    have bad : ¬ okv v k → (∃ s' : Value × ax_S, (c1 s'.1 ∧ sm [90] σ s'.2 ∧ (∀ j, j < 3 → s'.2.1 90 j = σ.1 90 j) ∧ (∀ j, j < k + 1 → okv (σ.1 85 (40 * a + i + j)) j) ∧ dfC (fun k => if σ.1 85 (40 * a + i + k) < 0 then -1000000 else σ.1 85 (40 * a + i + k)) (s'.2.1 90) cap0 (k + 1)) ∧ some (some (Value.long BADv), τ) = ev sO (d + 2) 228 149 [.ref 82, w1, w2, .int (nI a), .int (nI i), w5, .int (nI (k + 1)), s'.1] [] s'.2) ∨ ∃ τ_1, some (some (Value.long BADv), τ) = some (some (.long BADv), τ_1) ∧ sm [90] σ τ_1 ∧ ∃ k, k < 11 ∧ ¬ okv (σ.1 85 (40 * a + i + k)) k := fun hb => Or.inr ⟨τ, rfl, p1, k, hk, by rw [hv]; exact hb⟩
    have good : okv v k → (c1 (Value.int v) ∧ sm [90] σ (sI (sI τ 90 (4 + k) (if v < 0 then 0 else v)) 90 3 (τ.1 90 3 ||| (if v < 0 then b1 k else 0))) ∧ (∀ j, j < 3 → (sI (sI τ 90 (4 + k) (if v < 0 then 0 else v)) 90 3 (τ.1 90 3 ||| (if v < 0 then b1 k else 0))).1 90 j = σ.1 90 j) ∧ (∀ j, j < k + 1 → okv (σ.1 85 (40 * a + i + j)) j) ∧ dfC (fun k => if σ.1 85 (40 * a + i + k) < 0 then -1000000 else σ.1 85 (40 * a + i + k)) ((sI (sI τ 90 (4 + k) (if v < 0 then 0 else v)) 90 3 (τ.1 90 3 ||| (if v < 0 then b1 k else 0))).1 90) cap0 (k + 1)) := fun ok => by
      refine ⟨rfl, (p1.set _ _ (by decide)).set _ _ (by decide), fun j hj => ?_, fun j hj => ?_, ?_⟩
      · rw [sI_k _ (by omega), sI_k _ (by omega)]
        exact p2 j hj
      · by_cases q : j = k
        · rw [q, hv]; exact ok
        · exact p3 j (by omega)
      · refine dfC_lay (v := v) p4 hk ?_ (by rw [sI_u, sI_u]) (cap0_0 k) ok.2
        have := upd_self (fun k => if σ.1 85 (40 * a + i + k) < 0 then (-1000000 : Int32) else σ.1 85 (40 * a + i + k)) k
        simp only [hv] at this
        exact this
    by_cases k8 : k < 8
    · rw [if_pos (l8 k8)]
      have ec : cap0 k = 9999 := if_pos k8
      by_cases ok : -1 ≤ v.toInt ∧ v.toInt ≤ 9999
      · rw [if_neg (fun q => q ok)]
        exact Or.inl ⟨(_, _), good ⟨ok.1, by rw [ec]; exact ok.2⟩, rfl⟩
      · rw [if_pos ok]
        exact bad (fun q => ok ⟨q.1, by have := q.2; rw [ec] at this; exact this⟩)
    · rw [if_neg (show ¬ nI k < (8 : Int32) from nnl (N := 8) (by omega))]
      by_cases k9 : k = 8
      · rw [if_pos (show nI k = 8 by rw [k9]; rfl)]
        have ec : cap0 k = 9 := by unfold cap0; rw [if_neg k8, if_pos k9]
        by_cases ok : -1 ≤ v.toInt ∧ v.toInt ≤ 9
        · rw [if_neg (fun q => q ok)]
          exact Or.inl ⟨(_, _), good ⟨ok.1, by rw [ec]; exact ok.2⟩, rfl⟩
        · rw [if_pos ok]
          exact bad (fun q => ok ⟨q.1, by have := q.2; rw [ec] at this; exact this⟩)
      · rw [if_neg (show ¬ nI k = (8 : Int32) from fun q => k9 (nI_inj (b := 8) (by omega) (by omega) q))]
        have ec : cap0 k = 99 := by unfold cap0; rw [if_neg k8, if_neg k9]
        by_cases ok : -1 ≤ v.toInt ∧ v.toInt ≤ 99
        · rw [if_neg (fun q => q ok)]
          exact Or.inl ⟨(_, _), good ⟨ok.1, by rw [ec]; exact ok.2⟩, rfl⟩
        · rw [if_pos ok]
          exact bad (fun q => ok ⟨q.1, by have := q.2; rw [ec] at this; exact this⟩)) (.null, σ) ⟨rfl, sm.rf _ _, fun j hj => rfl, fun j hj => absurd hj (Nat.not_lt_zero j), dfC_0 h3⟩
  obtain ⟨⟨w, τ⟩, ⟨p0, p1, p2, p3, p4⟩, e⟩ | ⟨τ, e, p1, p2⟩ := h
  · exact Or.inl ⟨τ, w, p0, e, p1, p2, p3, p4⟩
  · exact Or.inr ⟨τ, e, p1, p2⟩
