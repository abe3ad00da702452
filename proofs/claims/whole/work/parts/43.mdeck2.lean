/-! THE REFERENCE'S CARDS: rise, kind, stains, things -/
theorem mn_c (a b : Int32) : (if a < b then a else b) = (if b < a then b else a) := by
  by_cases h1 : a < b
  · rw [if_pos h1, if_neg (by rw [i_lt] at h1 ⊢; omega)]
  · rw [if_neg h1]
    by_cases h2 : b < a
    · rw [if_pos h2]
    · rw [if_neg h2, i_eq]
      rw [i_lt] at h1 h2
      omega
theorem m_size (d : Nat) (σ : ax_S) (x : Int32) : cI sO d 248 [.int x] σ = some (ab x, σ) := by
  refine cI_ev mi_248 ((u_248 d σ x).trans ?_) rfl
  unfold ab
  by_cases h : x < 0
  · rw [if_pos h, if_neg (by rw [i_lt, i_0] at h; rw [i_le, i_0]; omega), Int32.zero_sub]
  · rw [if_neg h, if_pos (by rw [i_lt, i_0] at h; rw [i_le, i_0]; omega)]
/-- RISE, some marks as another one has them -/
def rsx (K : Nat → Int32) (f g : Nat → Int32) (S : Int32) : Int32 := rse K (fun k => if bt S k then g k else f k)
theorem rsx_0 (K : Nat → Int32) (f g : Nat → Int32) : rsx K f g 0 = rse K f := by
  unfold rsx
  congr 1
  funext k
  rw [bt_0, if_neg (by decide)]
theorem m_riseOf (d : Nat) {σ : ax_S} {n a b : Nat} (S : Int32) (hn : n ≤ 12) (hi : mI σ n) (ha : a < n) (hb : b < n) : cI sO (d + 1) 247 [.ref 82, .int (nI a), .int (nI b), .int S] σ = some (rsx (σ.1 86) (mr σ a) (mr σ b) S, σ) := by
  refine cI_ev mi_247 ((u_247_82 d σ _ _ _).trans ?_) rfl
  refine loop_dk (D := c1) (E := fun k (u : Int32) (w : Value) => ev sO (d + 1) 247 6 [.ref 82, .int (nI a), .int (nI b), .int S, .int u, .int (nI k), w] [] σ) (f := fun k s => s + lft (σ.1 86) k (if bt S k then mr σ b k else mr σ a k)) (N := 11) (fun k u w hk hw => ?_) 0 .null rfl (fun w hw => ?_)
  · rw [u_247_82p6 _ _ _ _ _ _ _ _ hw, if_pos (l11 hk)]
    simp only [bt_at S (show k < 32 by omega), m_mark _ σ (show a < 12 by omega) hk, m_mark _ σ (show b < 12 by omega) hk, Option.bind_some, m_size, nI_add1]
    have e90 : k < 8 → (90 : Int32) + nI k = nI (90 + k) := fun h8 => nI_pl (a := 90) (by omega)
    cases hbt : bt S k
    · rw [if_neg (show ¬ (if false = true then (1 : Int32) else 0) = 1 by decide), if_neg (show ¬ false = true by decide)]
      by_cases h8 : k < 8
      · rw [if_pos (show nI k < (8 : Int32) from l8 h8), e90 h8, gd_t (by rw [nI_i (by omega)]; omega), nI_c (by omega)]
        refine ⟨.int (mk σ a k), rfl, ?_⟩
        rw [mk_cz hi ha hk]
        unfold lft
        rw [if_neg (show ¬ k = 8 by omega), if_neg (show ¬ k = 9 by omega), if_neg (show ¬ k = 10 by omega)]
      · rw [if_neg (show ¬ nI k < (8 : Int32) from nnl (N := 8) (by omega))]
        by_cases h9 : k = 8
        · rw [if_pos (show nI k = (8 : Int32) from congrArg nI h9)]
          refine ⟨.int (mk σ a k), rfl, ?_⟩
          rw [mk_cz hi ha hk]
          unfold lft
          rw [if_pos h9]
        · rw [if_neg (show ¬ nI k = (8 : Int32) from fun q => h9 (nI_inj (b := 8) (by omega) (by omega) q))]
          by_cases h10 : k = 9
          · rw [if_pos (show nI k = (9 : Int32) from congrArg nI h10)]
            refine ⟨.int (mk σ a k), rfl, ?_⟩
            rw [mk_cz hi ha hk]
            unfold lft
            rw [if_neg h9, if_pos h10]
          · rw [if_neg (show ¬ nI k = (9 : Int32) from fun q => h10 (nI_inj (b := 9) (by omega) (by omega) q))]
            have h11 : k = 10 := by omega
            have hl : lft (σ.1 86) k (mr σ a k) = if mk σ a k < σ.1 86 100 then mk σ a k else σ.1 86 100 := by
              unfold lft
              rw [if_neg h9, if_neg h10, if_pos h11, ← mk_cz hi ha hk]
              exact mn_c _ _
            rw [hl]
            split
            · exact ⟨.int (mk σ a k), rfl, rfl⟩
            · exact ⟨.int (mk σ a k), rfl, rfl⟩
    · rw [if_pos (show (if true = true then (1 : Int32) else 0) = 1 by decide), if_pos (show true = true by decide)]
      by_cases h8 : k < 8
      · rw [if_pos (show nI k < (8 : Int32) from l8 h8), e90 h8, gd_t (by rw [nI_i (by omega)]; omega), nI_c (by omega)]
        refine ⟨.int (mk σ b k), rfl, ?_⟩
        rw [mk_cz hi hb hk]
        unfold lft
        rw [if_neg (show ¬ k = 8 by omega), if_neg (show ¬ k = 9 by omega), if_neg (show ¬ k = 10 by omega)]
      · rw [if_neg (show ¬ nI k < (8 : Int32) from nnl (N := 8) (by omega))]
        by_cases h9 : k = 8
        · rw [if_pos (show nI k = (8 : Int32) from congrArg nI h9)]
          refine ⟨.int (mk σ b k), rfl, ?_⟩
          rw [mk_cz hi hb hk]
          unfold lft
          rw [if_pos h9]
        · rw [if_neg (show ¬ nI k = (8 : Int32) from fun q => h9 (nI_inj (b := 8) (by omega) (by omega) q))]
          by_cases h10 : k = 9
          · rw [if_pos (show nI k = (9 : Int32) from congrArg nI h10)]
            refine ⟨.int (mk σ b k), rfl, ?_⟩
            rw [mk_cz hi hb hk]
            unfold lft
            rw [if_neg h9, if_pos h10]
          · rw [if_neg (show ¬ nI k = (9 : Int32) from fun q => h10 (nI_inj (b := 9) (by omega) (by omega) q))]
            have h11 : k = 10 := by omega
            have hl : lft (σ.1 86) k (mr σ b k) = if mk σ b k < σ.1 86 100 then mk σ b k else σ.1 86 100 := by
              unfold lft
              rw [if_neg h9, if_neg h10, if_pos h11, ← mk_cz hi hb hk]
              exact mn_c _ _
            rw [hl]
            split
            · exact ⟨.int (mk σ b k), rfl, rfl⟩
            · exact ⟨.int (mk σ b k), rfl, rfl⟩
  · rw [u_247_82p6 _ _ _ _ _ _ _ _ hw, if_neg g11]
    rfl
theorem m_sinks (d : Nat) {σ : ax_S} {n a b : Nat} (S : Int32) (hn : n ≤ 12) (hi : mI σ n) (ha : a < n) (hb : b < n) : cI sO (d + 2) 249 [.ref 82, .int (nI a), .int (nI b), .int S] σ = some (bi (rsx (σ.1 86) (mr σ a) (mr σ b) S < σ.1 86 101), σ) := by
  refine cI_ev mi_249 ((u_249_82 d σ _ _ _).trans ?_) rfl
  simp only [m_riseOf _ S hn hi ha hb, Option.bind_some]
  unfold bi
  split <;> rfl
theorem cn_congr {P Q : Nat → Prop} [DecidablePred P] [DecidablePred Q] : ∀ {N : Nat}, (∀ k, k < N → (P k ↔ Q k)) → cn P N = cn Q N
  | 0, _ => rfl
  | N + 1, h => by
    rw [cn_s, cn_s, cn_congr (fun k hk => h k (by omega))]
    by_cases hp : P N
    · rw [if_pos hp, if_pos ((h N (by omega)).mp hp)]
    · rw [if_neg hp, if_neg (fun q => hp ((h N (by omega)).mpr q))]
theorem pcN_0 {X : Nat} (h : X < 4096) : pcN X = 0 ↔ X = 0 := by
  constructor
  · intro e
    apply Decidable.byContradiction
    intro h0
    have := (pc_step h h0).2
    omega
  · intro e
    rw [e]
    rfl
theorem ms_few {σ : ax_S} {n c : Nat} (hi : mI σ n) (hc : c < n) : ∃ X, X < 2048 ∧ ms σ c = nI X ∧ sts (mr σ c) = nI (pcN X) := by
  obtain ⟨X, h1, h2, h3⟩ := few (x := ms σ c) 11 (by omega) (hi c hc).2
  refine ⟨X, h1, h2, ?_⟩
  rw [sts_n]
  congr 1
  unfold pcN
  rw [cn_s (fun k => X.testBit k = true) 11, if_neg (by rw [← h3 11 (by omega), (hi c hc).2 11 (by omega) (by omega)]; decide)]
  refine cn_congr (fun k hk => ?_)
  rw [← h3 k (by omega)]
  have := mr_kn hi hc hk
  cases hb : bt (ms σ c) k
  · rw [hb] at this
    exact ⟨fun q => absurd q (this.mp rfl), fun q => absurd q (by decide)⟩
  · exact ⟨fun _ => rfl, fun _ => mr_t hb⟩
theorem ms_0 {σ : ax_S} {n c : Nat} (hi : mI σ n) (hc : c < n) : ms σ c = 0 ↔ sts (mr σ c) = 0 := by
  obtain ⟨X, h1, h2, h3⟩ := ms_few hi hc
  rw [h2, h3]
  have hp : pcN X ≤ 12 := cn_le _ 12
  constructor
  · intro e
    rw [(pcN_0 (by omega)).mpr (nI_inj (b := 0) (by omega) (by omega) e)]
    rfl
  · intro e
    rw [(pcN_0 (by omega)).mp (nI_inj (b := 0) (by omega) (by omega) e)]
    rfl
theorem mm_c {σ : ax_S} {n c : Nat} (hm : moP (mm σ) n) (hc : c < n) : (mo σ c < 0 ∧ mm σ c = -1000000) ∨ ∃ i, i < c ∧ mo σ c = nI i ∧ mm σ c = nI i ∧ ¬ mo σ c < 0 := by
  by_cases h : mo σ c < 0
  · exact Or.inl ⟨h, if_pos h⟩
  · have e : mm σ c = mo σ c := if_neg h
    obtain e2 | ⟨i, hi, e2⟩ := hm c hc
    · rw [e] at e2
      rw [e2] at h
      exact absurd (by decide) h
    · exact Or.inr ⟨i, hi, by rw [← e, e2], e2, h⟩
theorem m_kindOf (d : Nat) {σ : ax_S} {n c : Nat} (hn : n ≤ 12) (hi : mI σ n) (hm : moP (mm σ) n) (hc : c < n) : cI sO (d + 4) 281 [.ref 82, .int (nI c)] σ = some (knd (σ.1 86) (mm σ) (mr σ) c, σ) := by
  refine cI_ev mi_281 ((u_281_82 d σ _).trans ?_) rfl
  have hc2 : c < 12 := by omega
  simp only [m_of4 _ σ hc2, m_of3 _ σ hc2, m_sinks _ 0 hn hi hc hc, Option.bind_some, bi_0, rsx_0]
  unfold knd
  by_cases h1 : ms σ c = 0
  · rw [if_pos h1, if_pos ((ms_0 hi hc).mp h1)]
    by_cases h2 : rse (σ.1 86) (mr σ c) < σ.1 86 101
    · rw [if_neg (fun q => q h2), if_pos h2]
    · rw [if_pos h2, if_neg h2]
      obtain ⟨e1, e2⟩ | ⟨i, hi2, e1, e2, e3⟩ := mm_c hm hc
      · rw [if_pos e1, e2, if_pos rfl]
      · rw [if_neg e3, e2, if_neg (nI_nn (by omega))]
  · rw [if_neg h1, if_neg (fun q => h1 ((ms_0 hi hc).mpr q))]
    obtain ⟨e1, e2⟩ | ⟨i, hi2, e1, e2, e3⟩ := mm_c hm hc
    · rw [if_pos e1, e2, if_pos rfl]
    · rw [if_neg e3, e2, if_neg (nI_nn (by omega)), e1, m_unlikeOf _ hn hi hc (show i < n by omega), Option.bind_some, nI_c (by omega)]
      simp only
      have e4 : (1 : Int32) < unl (mr σ c) (mr σ i) ↔ ¬ unl (mr σ c) (mr σ i) < 2 := by
        rw [i_lt, i_lt, i_1, lit_i 2 (by decide)]
        omega
      by_cases h5 : unl (mr σ c) (mr σ i) < 2
      · rw [if_pos h5, if_neg (fun q => e4.mp q h5)]
      · rw [if_neg h5, if_pos (e4.mpr h5)]
/-- how many things -/
def ths (f : Nat → Int32) : Int32 := it (fun k u => if 0 < f k then u + 1 else u) 8 0
theorem m_things (d : Nat) {σ : ax_S} {n c : Nat} (hn : n ≤ 12) (hi : mI σ n) (hc : c < n) : cI sO (d + 3) 288 [.ref 82, .int (nI c)] σ = some (ths (mr σ c), σ) := by
  refine cI_ev mi_288 ((u_288_82 d σ _).trans ?_) rfl
  refine (loop_it (E := fun k (u : Int32) => ev sO (d + 3) 288 4 [.ref 82, .int (nI c), .int u, .int (nI k)] [] σ) (f := fun k u => if 0 < mr σ c k then u + 1 else u) (N := 8) (fun k u hk => ?_) 0).trans ?_
  · rw [u_288_82p4, if_pos (l8 hk)]
    simp only [m_has _ hn hi hc (show k < 11 by omega), Option.bind_some, bi_0, nI_add1, Int32.add_zero]
    by_cases h : 0 < mr σ c k
    · rw [if_neg (fun q => q h), if_pos h]
    · rw [if_pos h, if_neg h]
  · rw [u_288_82p4, if_neg g8]
    rfl
