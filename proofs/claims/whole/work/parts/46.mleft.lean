/-! THE REFERENCE'S CARDS: left out -/
theorem cn_more {P Q : Nat → Prop} [DecidablePred P] [DecidablePred Q] {o : Nat} (ho : ¬ P o) (h : ∀ k, Q k ↔ (P k ∨ k = o)) : ∀ N, cn Q N = cn P N + (if o < N then 1 else 0)
  | 0 => rfl
  | N + 1 => by
    rw [cn_s, cn_s, cn_more ho h N]
    by_cases e : N = o
    · subst e
      rw [if_pos ((h N).mpr (Or.inr rfl)), if_neg ho, if_neg (Nat.lt_irrefl N), if_pos (Nat.lt_succ_self N)]
    · by_cases hp : P N
      · rw [if_pos ((h N).mpr (Or.inl hp)), if_pos hp]
        by_cases hl : o < N
        · rw [if_pos hl, if_pos (show o < N + 1 by omega)]
        · rw [if_neg hl, if_neg (show ¬ o < N + 1 by omega)]
      · rw [if_neg (fun q => ((h N).mp q).elim hp e), if_neg hp]
        by_cases hl : o < N
        · rw [if_pos hl, if_pos (show o < N + 1 by omega)]
        · rw [if_neg hl, if_neg (show ¬ o < N + 1 by omega)]
theorem tb_or {X o k : Nat} : (X ||| 2 ^ o).testBit k = true ↔ (X.testBit k = true ∨ k = o) := by
  rw [Nat.testBit_or, Bool.or_eq_true, Nat.testBit_two_pow, decide_eq_true_eq]
  constructor
  · rintro (h | h)
    · exact Or.inl h
    · exact Or.inr h.symm
  · rintro (h | h)
    · exact Or.inl h
    · exact Or.inr h.symm
theorem pcN_or {X o : Nat} (ho : o < 12) (h : X.testBit o = false) : pcN (X ||| 2 ^ o) = pcN X + 1 := by
  unfold pcN
  rw [cn_more (P := fun k => X.testBit k = true) (Q := fun k => (X ||| 2 ^ o).testBit k = true) (o := o) (by rw [h]; decide) (fun k => tb_or) 12, if_pos ho]
theorem b1_f : ∀ k : Fin 31, b1 k.val = nI (2 ^ k.val) := by decide
theorem b1_n {k : Nat} (hk : k < 31) : b1 k = nI (2 ^ k) := b1_f ⟨k, hk⟩
theorem nI_or (X Y : Nat) : nI X ||| nI Y = nI (X ||| Y) := by
  apply Int32.toBitVec_inj.mp
  rw [Int32.toBitVec_or]
  exact (BitVec.ofNat_or).symm
theorem pw_lt {o : Nat} (ho : o ≤ 12) : 2 ^ o ≤ 4096 := Nat.pow_le_pow_right (n := 2) (by omega) ho
/-- the heirs are as many as the family's bits but one -/
theorem lo_inv {mo : Nat → Int32} {row : Nat → Nat → Int32} {c t n : Nat} (hn : n ≤ 12) (hc : c < n) : ∀ k, k ≤ n - (c + 1) → ∀ s, itx (fun k s => loF mo row t (c + 1 + k) s) k (0, 1 <<< (nI c &&& 31)) = some s → ∃ X h, s.2 = nI X ∧ X < 2 ^ (c + 1 + k) ∧ s.1 = nI h ∧ pcN X = h + 1 ∧ h ≤ k := by
  intro k
  induction k with
  | zero =>
    intro _ s hs
    have e : s = (0, b1 c) := (Option.some.inj hs).symm
    rw [e]
    refine ⟨2 ^ c, 0, b1_n (by omega), Nat.pow_lt_pow_right (by omega) (by omega), rfl, ?_, Nat.le_refl 0⟩
    have := pcN_or (X := 0) (o := c) (by omega) (Nat.zero_testBit c)
    rw [Nat.zero_or] at this
    exact this
  | succ k ih =>
    intro hk s hs
    rw [itx_s] at hs
    cases hq : itx (fun k s => loF mo row t (c + 1 + k) s) k (0, 1 <<< (nI c &&& 31)) with
    | none =>
      rw [hq] at hs
      cases hs
    | some s0 =>
      rw [hq, Option.bind_some] at hs
      obtain ⟨X, h, e1, e2, e3, e4, e5⟩ := ih (by omega) s0 hq
      have hmono : 2 ^ (c + 1 + k) < 2 ^ (c + 1 + (k + 1)) := Nat.pow_lt_pow_right (by omega) (by omega)
      have same : ∃ X h, s0.2 = nI X ∧ X < 2 ^ (c + 1 + (k + 1)) ∧ s0.1 = nI h ∧ pcN X = h + 1 ∧ h ≤ k + 1 := ⟨X, h, e1, by omega, e3, e4, by omega⟩
      unfold loF at hs
      split at hs
      · rw [← Option.some.inj hs]
        exact same
      · split at hs
        · rw [← Option.some.inj hs]
          exact same
        · split at hs
          · rw [← Option.some.inj hs]
            refine ⟨X ||| 2 ^ (c + 1 + k), h + 1, ?_, ?_, ?_, ?_, by omega⟩
            · rw [← nI_or, ← e1, ← b1_n (k := c + 1 + k) (by omega)]
              rfl
            · exact Nat.or_lt_two_pow (by omega) hmono
            · show s0.1 + 1 = _
              rw [e3, nI_add1]
            · rw [pcN_or (by omega) (Nat.testBit_lt_two_pow e2), e4]
          · cases hs
theorem m_leftOut (d : Nat) {σ : ax_S} {n c t : Nat} (hs : σ.1 88 0 = nI n) (hn : n ≤ 12) (hi : mI σ n) (hm : moP (mm σ) n) (hc : c < n) (ht : t < 8) : cI sO (d + 3) 273 [.ref 82, .int (nI c), .int (nI t)] σ = some (lo (mm σ) (mr σ) c t n, σ) := by
  refine cI_ev mi_273 ((u_273_82 d σ _ _).trans ?_) rfl
  have ht2 : t < 11 := by omega
  simp only [m_of3 _ σ (show c < 12 by omega), m_lacks _ hn hi hc ht2, Option.bind_some, bi_0]
  unfold lo
  obtain ⟨e1, e2⟩ | ⟨i, hi2, e1, e2, e3⟩ := mm_c hm hc
  · rw [if_pos e1, e2, if_neg (fun q => absurd q.1 (by decide))]
  · rw [if_neg e3, e2, e1, m_has _ hn hi (show i < n by omega) ht2, Option.bind_some, nI_c (by omega)]
    simp only [bi_0, m_lacks _ hn hi hc ht2, Option.bind_some]
    by_cases h1 : 0 < mr σ i t
    · rw [if_neg (fun q => q h1)]
      by_cases h2 : mr σ c t = 0
      · rw [if_neg (show ¬ ¬ mr σ c t = 0 from fun q => q h2), if_pos ⟨by rw [nI_i (by omega)]; omega, h1, h2⟩, nI_add1]
        have L := loop_x (D := c1) (E := fun k (s : Int32 × Int32) (w : Value) => ev sO (d + 3) 273 42 [.ref 82, .int (nI c), .int (nI t), .int (nI i), .int s.2, .int (nI (c + 1 + k)), w] [] σ) (f := fun k s => loF (mm σ) (mr σ) t (c + 1 + k) s) (N := n - (c + 1)) (X := some (some (.int (-1000000)), σ)) (fun k s w hk hw => by
          have ho : c + 1 + k < n := by omega
          rw [u_273_82p42 _ _ _ rfl _ _ rfl _ _ _ hw, hs, if_pos (nlt ho)]
          simp only [m_of3 _ σ (show c + 1 + k < 12 by omega), m_lacks _ hn hi ho ht2, Option.bind_some, nI_add1, bi_0]
          unfold loF
          obtain ⟨f1, f2⟩ | ⟨j, hj, f1, f2, f3⟩ := mm_c hm ho
          · rw [if_pos f1, f2, if_pos (show (-1000000 : Int32) < 0 by decide)]
            exact Or.inl ⟨_, .int (mo σ (c + 1 + k)), rfl, rfl, rfl⟩
          · have f4 : ¬ mm σ (c + 1 + k) < 0 := by
              rw [f2, ← f1]
              exact f3
            rw [if_neg f3, if_neg f4, f2, f1, bt_at _ (by omega)]
            cases bt s.2 j
            · rw [if_neg (show ¬ (if false = true then (1 : Int32) else 0) = 1 by decide), if_pos (show (if false = true then (1 : Int32) else 0) = 0 by decide)]
              exact Or.inl ⟨_, .int (nI j), rfl, rfl, rfl⟩
            · rw [if_pos (show (if true = true then (1 : Int32) else 0) = 1 by decide), if_neg (show ¬ (if true = true then (1 : Int32) else 0) = 0 by decide)]
              by_cases h5 : mr σ (c + 1 + k) t = 0
              · rw [if_pos h5, if_neg (show ¬ ¬ mr σ (c + 1 + k) t = 0 from fun q => q h5)]
                exact Or.inl ⟨_, .int (nI j), rfl, rfl, rfl⟩
              · rw [if_pos h5, if_neg h5]
                exact Or.inr ⟨rfl, rfl⟩) (0, 1 <<< (nI c &&& 31)) .null rfl
        obtain ⟨s', w', h3, i3, e4⟩ | ⟨i3, e4⟩ := L
        · refine e4.trans ?_
          unfold lof
          obtain ⟨X, h, g1, g2, g3, g4, g5⟩ := lo_inv hn hc _ (Nat.le_refl _) s' i3
          have g6 : X < 4096 := Nat.lt_of_lt_of_le g2 (pw_lt (by omega))
          rw [i3, u_273_82p42 _ _ _ rfl _ _ rfl _ _ _ h3, hs, if_neg (nnl (by omega)), g1, m_bits _ _ g6, Option.bind_some, g4]
          have g7 : nI (h + 1) - 1 = nI h := by
            apply Int32.toInt_inj.mp
            rw [i_sub, nI_i (by omega), nI_i (by omega), i_1]
            · omega
            · rw [nI_i (by omega), i_1]; omega
            · rw [nI_i (by omega), i_1]; omega
          simp only [g7, ← g3]
          rfl
        · refine e4.trans ?_
          unfold lof
          rw [i3]
          rfl
      · rw [if_pos h2, if_neg (fun q => h2 q.2.2)]
    · rw [if_pos h1, if_neg (fun q => h1 q.2.1)]
