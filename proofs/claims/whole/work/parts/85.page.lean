/-! THE CLASS'S PAGE AND THE REFERENCE'S DRAFT -/
theorem s_fill (d : Nat) (σ : ax_S) : ∃ τ, cV sO d 2 [.ref 62, .int 0] σ = some τ ∧ sm [62] σ τ ∧ ∀ k, k < 11 → τ.1 62 k = 0 := by
  obtain ⟨τ, ⟨p1, p2⟩, e⟩ := loop_P (E := fun k (τ : ax_S) => ev sO d 2 5 [.ref 62, .int 0, .int (nI k), .int 11] [] τ) (N := 11) (P := fun k τ => sm [62] σ τ ∧ ∀ i, i < k → τ.1 62 i = 0) (fun k τ hk hp => by
    obtain ⟨p1, p2⟩ := hp
    refine ⟨sI τ 62 k 0, ⟨p1.set _ _ (by decide), fun i hi => ?_⟩, ?_⟩
    · by_cases q : i = k
      · rw [q, sI_1]
      · rw [sI_k _ q]
        exact p2 i (by omega)
    · rw [u_2_62p5, if_pos (l11 hk), gd_t (nI_g hk (by omega)), nI_add1, nI_c (by omega)]) σ ⟨sm.rf _ _, fun i hi => absurd hi (Nat.not_lt_zero i)⟩
  refine ⟨τ, cV_ev mi_2 ((u_2_62 d σ _).trans (Eq.trans e ?_)) rfl, p1, p2⟩
  rw [u_2_62p5, if_neg g11]
theorem s_pbegin (d : Nat) (σ : ax_S) (x y : Int32) : ∃ τ, cV sO (d + 1) 70 [.ref 61, .int x, .int y] σ = some τ ∧ sm [61, 62] σ τ ∧ τ.1 61 0 = x ∧ τ.1 61 1 = y ∧ τ.1 61 3 = 0 ∧ τ.1 61 4 = 0 ∧ τ.1 61 5 = 0 ∧ ∀ k, k < 11 → τ.1 62 k = 0 := by
  obtain ⟨τ, e, h1, h2⟩ := s_fill d (sI (sI (sI (sI (sI σ 61 0 x) 61 1 y) 61 3 0) 61 4 0) 61 5 0)
  refine ⟨τ, cV_ev mi_70 ((u_70_61 d σ _ _).trans (by rw [e, Option.bind_some])) rfl, ((((((sm.rf _ _).set _ _ (by decide)).set _ _ (by decide)).set _ _ (by decide)).set _ _ (by decide)).set _ _ (by decide)).tr (h1.up (by decide)), ?_, ?_, ?_, ?_, ?_, h2⟩
  · rw [h1.1 61 (by decide), sI_k _ (by decide), sI_k _ (by decide), sI_k _ (by decide), sI_k _ (by decide), sI_1]
  · rw [h1.1 61 (by decide), sI_k _ (by decide), sI_k _ (by decide), sI_k _ (by decide), sI_1]
  · rw [h1.1 61 (by decide), sI_k _ (by decide), sI_k _ (by decide), sI_1]
  · rw [h1.1 61 (by decide), sI_k _ (by decide), sI_1]
  · rw [h1.1 61 (by decide), sI_1]
theorem m_clear (d : Nat) (σ : ax_S) (x y z : Int32) : ∃ ρ, cV sO d 220 [.ref 82, .int x, .int y, .int z] σ = some ρ ∧ sm [90] σ ρ ∧ ρ.1 90 0 = x ∧ ρ.1 90 1 = y ∧ ρ.1 90 2 = z ∧ ∀ k, 3 ≤ k → k < 15 → ρ.1 90 k = 0 := by
  obtain ⟨τ, ⟨p1, p2⟩, e⟩ := loop_P (E := fun k (τ : ax_S) => ev sO d 220 3 [.ref 82, .int x, .int y, .int z, .int (nI k)] [] τ) (N := 15) (P := fun k τ => sm [90] σ τ ∧ ∀ i, i < k → τ.1 90 i = 0) (fun k τ hk hp => by
    obtain ⟨p1, p2⟩ := hp
    refine ⟨sI τ 90 k 0, ⟨p1.set _ _ (by decide), fun i hi => ?_⟩, ?_⟩
    · by_cases q : i = k
      · rw [q, sI_1]
      · rw [sI_k _ q]
        exact p2 i (by omega)
    · rw [u_220_82p3, if_pos (show nI k < (15 : Int32) from nlt (N := 15) hk), gd_t (nI_g hk (by omega)), nI_add1, nI_c (by omega)]) σ ⟨sm.rf _ _, fun i hi => absurd hi (Nat.not_lt_zero i)⟩
  refine ⟨sI (sI (sI τ 90 0 x) 90 1 y) 90 2 z, cV_ev mi_220 ((u_220_82 d σ _ _ _).trans (Eq.trans e ?_)) rfl, ((p1.set _ _ (by decide)).set _ _ (by decide)).set _ _ (by decide), ?_, ?_, sI_1 _ _ _ _, fun k h1 h2 => ?_⟩
  · rw [u_220_82p3, if_neg (show ¬ nI 15 < (15 : Int32) from nnl (N := 15) (Nat.le_refl _))]
  · rw [sI_k _ (by decide), sI_k _ (by decide), sI_1]
  · rw [sI_k _ (by decide), sI_1]
  · rw [sI_k _ (by omega), sI_k _ (by omega), sI_k _ (by omega)]
    exact p2 k h2
/-- a number is laid into a draft, below 0: stained -/
theorem m_lay (d : Nat) (σ : ax_S) {k : Nat} (v : Int32) (hk : k < 11) : cV sO d 225 [.ref 82, .int (nI k), .int v] σ = some (sI (sI σ 90 (4 + k) (if v < 0 then 0 else v)) 90 3 (σ.1 90 3 ||| (if v < 0 then b1 k else 0))) := by
  refine cV_ev mi_225 ((u_225_82 d σ _ _).trans ?_) rfl
  have e : (4 : Int32) + nI k = nI (4 + k) := nI_pl (a := 4) (by omega)
  have e3 : ∀ w, (sI σ 90 (4 + k) w).1 90 3 = σ.1 90 3 := fun w => sI_k _ (by omega)
  by_cases h : v < 0
  · rw [if_pos h, e, gd_t (nI_g (show 4 + k < 15 by omega) (by omega)), if_pos h, nI_c (by omega), if_pos h, if_pos h, e3]
    rfl
  · rw [if_neg h, e, gd_t (nI_g (show 4 + k < 15 by omega) (by omega)), if_neg h, nI_c (by omega), if_neg h, if_neg h, e3]
theorem m_keep (d : Nat) {σ : ax_S} {n : Nat} (hs : σ.1 88 0 = nI n) (hn : n < 12) : ∃ ρ, cI sO d 226 [.ref 82] σ = some (nI n, ρ) ∧ sm [88] σ ρ ∧ ρ.1 88 0 = nI (n + 1) ∧ (∀ k, k < 15 → ρ.1 88 (15 * n + 1 + k) = σ.1 90 k) ∧ ∀ i, i ≠ 0 → (∀ k, k < 15 → i ≠ 15 * n + 1 + k) → ρ.1 88 i = σ.1 88 i := by
  obtain ⟨τ, ⟨p1, p2, p3⟩, e⟩ := loop_P (E := fun k (τ : ax_S) => ev sO d 226 9 [.ref 82, .int (nI n), .int (nI k)] [] τ) (N := 15) (P := fun k τ => sm [88] σ τ ∧ (∀ i, i < k → τ.1 88 (15 * n + 1 + i) = σ.1 90 i) ∧ ∀ i, (∀ k, k < 15 → i ≠ 15 * n + 1 + k) → τ.1 88 i = σ.1 88 i) (fun k τ hk hp => by
    obtain ⟨p1, p2, p3⟩ := hp
    have e1 : (1 : Int32) + 15 * nI n + nI k = nI (15 * n + 1 + k) := by
      rw [show (15 : Int32) = nI 15 from rfl, nI_mul (by omega) (by omega) (by omega), show (1 : Int32) = nI 1 from rfl, nI_pl (by omega), nI_pl (by omega), Nat.add_comm 1]
    refine ⟨sI τ 88 (15 * n + 1 + k) (σ.1 90 k), ⟨p1.set _ _ (by decide), fun i hi => ?_, fun i hi => ?_⟩, ?_⟩
    · by_cases q : i = k
      · rw [q, sI_1]
      · rw [sI_k _ (by omega)]
        exact p2 i (by omega)
    · rw [sI_k _ (hi k hk)]
      exact p3 i hi
    · rw [u_226_82p9, if_pos (show nI k < (15 : Int32) from nlt (N := 15) hk), gd_t (nI_g hk (by omega)), e1, gd_t (nI_g (show 15 * n + 1 + k < 181 by omega) (by omega)), nI_add1, nI_c (by omega), nI_c (by omega), p1.1 90 (by decide)]) σ ⟨sm.rf _ _, fun i hi => absurd hi (Nat.not_lt_zero i), fun _ _ => rfl⟩
  refine ⟨sI τ 88 0 (nI (n + 1)), cI_ev mi_226 ((u_226_82 d σ).trans ?_) rfl, p1.set _ _ (by decide), sI_1 _ _ _ _, fun k hk => ?_, fun i h1 h2 => ?_⟩
  · rw [hs]
    refine Eq.trans e ?_
    rw [u_226_82p9, if_neg (show ¬ nI 15 < (15 : Int32) from nnl (N := 15) (Nat.le_refl _)), p3 0 (fun k hk => by omega), hs, nI_add1]
  · rw [sI_k _ (by omega)]
    exact p2 k hk
  · rw [sI_k _ h1]
    exact p3 i h2
/-- a page and a draft are the same, their first K marks (and no more is stained) -/
abbrev dfP (f g : Nat → Int32) (cap : Nat → Int) (k : Nat) : Prop := f k = (if bt (g 3) k then -1000000 else g (4 + k)) ∧ 0 ≤ (g (4 + k)).toInt ∧ (g (4 + k)).toInt ≤ cap k ∧ (bt (g 3) k = true → g (4 + k) = 0)
def dfC (f g : Nat → Int32) (cap : Nat → Int) (K : Nat) : Prop := (∀ k, k < K → dfP f g cap k) ∧ ∀ k, K ≤ k → k < 32 → bt (g 3) k = false
abbrev cap0 (k : Nat) : Int := if k < 8 then 9999 else if k = 8 then 9 else 99
theorem dfC_0 {f g : Nat → Int32} {cap : Nat → Int} (h : g 3 = 0) : dfC f g cap 0 := ⟨fun k hk => absurd hk (Nat.not_lt_zero k), fun k _ _ => by rw [h, bt_0]⟩
theorem dfC_lay {f g f' g' : Nat → Int32} {cap : Nat → Int} {K : Nat} {v : Int32} (h : dfC f g cap K) (hK : K < 11) (hf : f' = upd f K (if v < 0 then -1000000 else v)) (hg : g' = upd (upd g (4 + K) (if v < 0 then 0 else v)) 3 (g 3 ||| (if v < 0 then b1 K else 0))) (hc : 0 ≤ cap K) (hv : v.toInt ≤ cap K) : dfC f' g' cap (K + 1) := by
  obtain ⟨h1, h2⟩ := h
  have e3 : g' 3 = g 3 ||| (if v < 0 then b1 K else 0) := by rw [hg, upd_1]
  have eb : ∀ k, k < 32 → bt (g' 3) k = (bt (g 3) k || (decide (v < 0) && decide (k = K))) := fun k hk => by
    rw [e3, bt_or]
    by_cases q : v < 0
    · rw [if_pos q, bt_1 (by omega) hk, decide_eq_true q, Bool.true_and]
    · rw [if_neg q, bt_0, decide_eq_false q, Bool.false_and]
  refine ⟨fun k hk => ?_, fun k hk hk2 => ?_⟩
  · unfold dfP
    rw [eb k (by omega)]
    by_cases q : k = K
    · subst q
      rw [h2 k (Nat.le_refl _) (by omega), hf, hg, upd_1, upd_n _ _ (by omega), upd_1, decide_eq_true rfl, Bool.and_true, Bool.false_or]
      by_cases p : v < 0
      · rw [if_pos p, if_pos p, decide_eq_true p, if_pos rfl]
        exact ⟨rfl, by rw [i_0]; omega, by rw [i_0]; exact hc, fun _ => rfl⟩
      · rw [if_neg p, if_neg p, decide_eq_false p, if_neg (by decide)]
        rw [i_lt, i_0] at p
        exact ⟨rfl, by omega, hv, fun q => absurd q (by decide)⟩
    · have eg : g' (4 + k) = g (4 + k) := by rw [hg, upd_n _ _ (by omega), upd_n _ _ (by omega)]
      have ef : f' k = f k := by rw [hf, upd_n _ _ q]
      rw [decide_eq_false q, Bool.and_false, Bool.or_false, eg, ef]
      exact h1 k (by omega)
  · rw [eb k hk2, h2 k (by omega) hk2, decide_eq_false (show ¬ k = K by omega), Bool.and_false, Bool.or_false]
/-- a card more -/
theorem RD_add {sz sz' : Int32} {la ye mt mk N la' ye' mt' mk' N' f g : Nat → Int32} {n : Nat} {x : Int32} (h : RD sz la ye mt mk N n) (hn : n < 12) (hsz : sz' = nI (n + 1)) (hN0 : N' 0 = nI (n + 1)) (hla : la' = upd la n (g 0)) (hye : ye' = upd ye n (g 1)) (hmt : mt' = upd mt n x) (hx : x = if g 2 < 0 then -1000000 else g 2) (hx2 : x = -1000000 ∨ ∃ i, i < n ∧ x = nI i) (hmk : ∀ i m, m < 11 → mk' (i * 11 + m) = if i = n then f m else mk (i * 11 + m)) (hN : ∀ i, i ≠ 0 → (∀ k, k < 15 → i ≠ 15 * n + 1 + k) → N' i = N i) (hN2 : ∀ k, k < 15 → N' (15 * n + 1 + k) = g k) (hd : dfC f g cap0 11) (hl : rgP 0 3 (g 0)) (hy : rgP 1800 2000 (g 1)) : RD sz' la' ye' mt' mk' N' (n + 1) := by
  obtain ⟨-, -, -, h4⟩ := h
  obtain ⟨d1, d2⟩ := hd
  refine ⟨by omega, hsz, hN0, fun j hj => ?_⟩
  by_cases q : j = n
  · subst q
    have n1 : N' (15 * j + 1) = g 0 := hN2 0 (by omega)
    have n2 : N' (15 * j + 2) = g 1 := hN2 1 (by omega)
    have n3 : N' (15 * j + 3) = g 2 := hN2 2 (by omega)
    have n4 : N' (15 * j + 4) = g 3 := hN2 3 (by omega)
    rw [hla, hye, hmt, upd_1, upd_1, upd_1, n1, n2, n3, n4]
    refine ⟨rfl, rfl, hx, hx2, fun k hk => ?_, d2, hl.1, hl.2, hy.1, hy.2⟩
    have n5 : N' (15 * j + 5 + k) = g (4 + k) := by
      have := hN2 (4 + k) (by omega)
      rw [show 15 * j + 5 + k = 15 * j + 1 + (4 + k) by omega]
      exact this
    rw [hmk j k hk, if_pos rfl, n5]
    exact d1 k hk
  · have old : ∀ i, i < 15 * n + 1 → i ≠ 0 → N' i = N i := fun i hi h0 => hN i h0 (fun k hk => by omega)
    rw [hla, hye, hmt, upd_n _ _ q, upd_n _ _ q, upd_n _ _ q, old (15 * j + 1) (by omega) (by omega), old (15 * j + 2) (by omega) (by omega), old (15 * j + 3) (by omega) (by omega), old (15 * j + 4) (by omega) (by omega)]
    obtain ⟨c1, c2, c3, c4, c5, c6, c7⟩ := h4 j (by omega)
    refine ⟨c1, c2, c3, c4, fun k hk => ?_, c6, c7⟩
    rw [hmk j k hk, if_neg q, old (15 * j + 5 + k) (by omega) (by omega)]
    exact c5 k hk
/-- a loop that may leave off -/
theorem loop_E {α β : Type} {E : Nat → α → β} {P : Nat → α → Prop} {N : Nat} {R : β → Prop} (h : ∀ k s, k < N → P k s → (∃ s', P (k + 1) s' ∧ E k s = E (k + 1) s') ∨ R (E k s)) (s : α) (h0 : P 0 s) : (∃ s', P N s' ∧ E 0 s = E N s') ∨ R (E 0 s) := by
  have k1 : ∀ k, k ≤ N → (∃ s', P k s' ∧ E 0 s = E k s') ∨ R (E 0 s) := by
    intro k
    induction k with
    | zero => intro _; exact Or.inl ⟨s, h0, rfl⟩
    | succ k ih =>
      intro hk
      obtain ⟨s1, p1, e1⟩ | r := ih (by omega)
      · obtain ⟨s2, p2, e2⟩ | r := h k s1 (by omega) p1
        · exact Or.inl ⟨s2, p2, e1.trans e2⟩
        · exact Or.inr (by rw [e1]; exact r)
      · exact Or.inr r
  exact k1 N (Nat.le_refl _)
