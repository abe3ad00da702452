/-! THE CLASS: small asks, a mark put, mended; the kitchen that is now -/
abbrev rgP (a b : Int) (x : Int32) : Prop := a ≤ x.toInt ∧ x.toInt ≤ b
theorem s_isThing (d : Nat) (σ : ax_S) (x : Int32) : cI sO d 74 [.int x] σ = some (bi (rgP 0 7 x), σ) := by
  refine cI_ev mi_74 ((u_74 d σ x).trans ?_) rfl
  simp only [i_lt, i_0, lit_i 8 (by decide)]
  unfold bi
  split
  · rw [if_neg (by omega)]
  · split
    · rw [if_pos (by omega)]
    · rw [if_neg (by omega)]
theorem s_isLand (d : Nat) (σ : ax_S) (x : Int32) : cI sO d 88 [.int x] σ = some (bi (rgP 0 3 x), σ) := by
  refine cI_ev mi_88 ((u_88 d σ x).trans ?_) rfl
  simp only [i_lt, i_0, lit_i 4 (by decide)]
  unfold bi
  split
  · rw [if_neg (by omega)]
  · split
    · rw [if_pos (by omega)]
    · rw [if_neg (by omega)]
theorem s_isRow (d : Nat) (σ : ax_S) (x : Int32) : cI sO d 13 [.int x] σ = some (bi (rgP 0 7 x), σ) := by
  refine cI_ev mi_13 ((u_13 d σ x).trans ?_) rfl
  simp only [i_lt, i_0, lit_i 8 (by decide)]
  unfold bi
  split
  · rw [if_neg (by omega)]
  · split
    · rw [if_pos (by omega)]
    · rw [if_neg (by omega)]
theorem s_isYear (d : Nat) (σ : ax_S) (x : Int32) : cI sO d 89 [.int x] σ = some (bi (rgP 1800 2000 x), σ) := by
  refine cI_ev mi_89 ((u_89 d σ x).trans ?_) rfl
  simp only [i_lt, lit_i 1800 (by decide), lit_i 2000 (by decide)]
  unfold bi
  split
  · rw [if_neg (by omega)]
  · split
    · rw [if_neg (by omega)]
    · rw [if_pos (by omega)]
/-- what two of three have -/
def agr (a b c : Int32) : Int32 := if a ≠ -1000000 ∧ (a = b ∨ a = c) then a else if b = c then b else -1000000
theorem s_agreed (d : Nat) (σ : ax_S) (a b c : Int32) : cI sO d 169 [.int a, .int b, .int c] σ = some (agr a b c, σ) := by
  refine cI_ev mi_169 ((u_169 d σ a b c).trans ?_) rfl
  unfold agr
  by_cases h1 : a = -1000000
  · rw [if_pos h1, if_neg (show ¬ (a ≠ -1000000 ∧ (a = b ∨ a = c)) from fun q => q.1 h1)]
    split <;> rfl
  · rw [if_neg h1]
    by_cases h2 : a = b
    · rw [if_pos h2, if_pos ⟨h1, Or.inl h2⟩]
    · rw [if_neg h2]
      by_cases h3 : a = c
      · rw [if_pos h3, if_pos ⟨h1, Or.inr h3⟩]
      · rw [if_neg h3, if_neg (show ¬ (a ≠ -1000000 ∧ (a = b ∨ a = c)) from fun q => q.2.elim h2 h3)]
        split <;> rfl
theorem nI_11 {j k : Nat} (hj : j < 12) (hk : k < 11) : (nI j * 11 + nI k).toInt = ((j * 11 + k : Nat) : Int) ∧ (nI j * 11 + nI k).toNatClampNeg = j * 11 + k := by
  have e1 : (nI j * (11 : Int32)).toInt = j * 11 := by
    rw [i_mul, nI_i (by omega), lit_i 11 (by decide)]
    · omega
    · rw [nI_i (by omega), lit_i 11 (by decide)]; omega
    · rw [nI_i (by omega), lit_i 11 (by decide)]; omega
  have e2 : (nI j * 11 + nI k).toInt = ((j * 11 + k : Nat) : Int) := by
    rw [i_add, e1, nI_i (by omega)]
    · omega
    · rw [e1, nI_i (by omega)]; omega
    · rw [e1, nI_i (by omega)]; omega
  refine ⟨e2, ?_⟩
  have e3 : (nI j * 11 + nI k) = nI (j * 11 + k) := Int32.toInt_inj.mp (by rw [e2, nI_i (by omega)])
  rw [e3, nI_c (by omega)]
theorem s_putMark (d : Nat) {σ : ax_S} {n j k : Nat} (v : Int32) (hs : σ.1 17 0 = nI n) (hn : n ≤ 12) (hj : j < n) (hk : k < 11) : cV sO (d + 1) 83 [.ref 17, .int (nI j), .int (nI k), .int v] σ = some (sI σ 21 (j * 11 + k) v) := by
  refine cV_ev mi_83 ((u_83_17 d σ _ _ _).trans ?_) rfl
  simp only [s_hasT d hs hn hj, s_isMark, Option.bind_some]
  obtain ⟨e1, e2⟩ := nI_11 (j := j) (k := k) (by omega) hk
  rw [if_neg (by decide), bi_t (mkP_nI hk), if_neg (by decide), gd_t (by rw [e1]; omega), e2]
theorem cr_put {σ : ax_S} {j k : Nat} (v : Int32) (hk : k < 11) : ∀ i m, m < 11 → cr (sI σ 21 (j * 11 + k) v) i m = if i = j ∧ m = k then v else cr σ i m := by
  intro i m hm
  unfold cr
  by_cases h : i = j ∧ m = k
  · rw [if_pos h, h.1, h.2, sI_1]
  · rw [if_neg h, sI_k v (by omega)]
theorem s_mayBeMother (d : Nat) {σ : ax_S} {n : Nat} (x y : Int32) (hs : σ.1 17 0 = nI n) (hn : n ≤ 12) : cI sO (d + 2) 90 [.ref 17, .int x, .int y] σ = some (bi (x = -1000000 ∨ ∃ j, j < n ∧ x = nI j ∧ σ.1 19 j ≤ y), σ) := by
  refine cI_ev mi_90 ((u_90_17 d σ x y).trans ?_) rfl
  by_cases h1 : x = -1000000
  · rw [if_pos h1, bi_t (Or.inl h1)]
  · rw [if_neg h1, s_has, Option.bind_some, hs]
    simp only [bi_0]
    by_cases h2 : hasP (nI n) x
    · obtain ⟨j, hj, e⟩ := hasP_of hn h2
      rw [if_neg (fun q => q h2), e, s_yearOf _ hs hn hj, Option.bind_some]
      simp only
      by_cases h3 : y < σ.1 19 j
      · rw [if_pos h3, bi_f]
        rintro (q | ⟨i, hi, e2, h4⟩)
        · exact nI_nn (by omega) q
        · rw [← nI_inj (by omega) (by omega) e2, i_le] at h4
          rw [i_lt] at h3
          omega
      · rw [if_neg h3, bi_t (Or.inr ⟨j, hj, rfl, by rw [i_lt] at h3; rw [i_le]; omega⟩)]
    · rw [if_pos h2, bi_f]
      rintro (q | ⟨i, hi, e2, -⟩)
      · exact h1 q
      · rw [e2] at h2
        exact h2 (hasP_nI hn hi)
theorem s_isFull (d : Nat) {σ : ax_S} {n : Nat} (hs : σ.1 17 0 = nI n) (hn : n ≤ 12) : cI sO d 68 [.ref 17] σ = some (bi (n = 12), σ) := by
  refine cI_ev mi_68 ((u_68_17 d σ).trans ?_) rfl
  rw [hs]
  by_cases h : n = 12
  · rw [if_neg (show ¬ nI n < (12 : Int32) from nnl (N := 12) (by omega)), bi_t h]
  · rw [if_pos (show nI n < (12 : Int32) from nlt (N := 12) (by omega)), bi_f h]
theorem s_size (d : Nat) (σ : ax_S) : cI sO d 124 [.ref 17] σ = some (σ.1 17 0, σ) := cI_ev mi_124 (u_124_17 d σ) rfl
theorem s_clear (d : Nat) (σ : ax_S) : cV sO d 63 [.ref 17] σ = some (sI σ 17 0 0) := cV_ev mi_63 (u_63_17 d σ) rfl
/-- mended: how many, and what the cards are then -/
def mdn (row : Nat → Nat → Int32) (c x y z : Nat) : Nat := cn (fun k => row c k = -1000000 ∧ agr (row x k) (row y k) (row z k) ≠ -1000000) 11
theorem s_mendFrom (d : Nat) {σ : ax_S} {n c x y z : Nat} (hs : σ.1 17 0 = nI n) (hn : n ≤ 12) (hc : c < n) (hx : x < n) (hy : y < n) (hz : z < n) (cx : x ≠ c) (cy : y ≠ c) (cz : z ≠ c) : ∃ τ, cI sO (d + 2) 168 [.ref 17, .int (nI c), .int (nI x), .int (nI y), .int (nI z)] σ = some (nI (mdn (cr σ) c x y z), τ) ∧ sm [21] σ τ ∧ ∀ i m, m < 11 → cr τ i m = if i = c ∧ cr σ c m = -1000000 then agr (cr σ x m) (cr σ y m) (cr σ z m) else cr σ i m := by
  obtain ⟨⟨u, w, τ⟩, ⟨p1, p2, p3, p4⟩, e⟩ := loop_P (E := fun k (s : Int32 × Value × ax_S) => ev sO (d + 2) 168 6 [.ref 17, .int (nI c), .int (nI x), .int (nI y), .int (nI z), .int s.1, .int (nI k), s.2.1] [] s.2.2) (N := 11) (P := fun k s => s.1 = nI (cn (fun k => cr σ c k = -1000000 ∧ agr (cr σ x k) (cr σ y k) (cr σ z k) ≠ -1000000) k) ∧ c1 s.2.1 ∧ sm [21] σ s.2.2 ∧ ∀ i m, m < 11 → cr s.2.2 i m = if i = c ∧ m < k ∧ cr σ c m = -1000000 then agr (cr σ x m) (cr σ y m) (cr σ z m) else cr σ i m) (fun k s hk hp => by
    obtain ⟨u, w, τ⟩ := s
    obtain ⟨p1, p2, p3, p4⟩ := hp
    have hs2 : τ.1 17 0 = nI n := by rw [p3.1 17 (by decide)]; exact hs
    simp only at p1 p2 p3 p4 ⊢
    rw [u_168_17p6 _ _ _ _ _ _ _ _ _ p2, if_pos (l11 hk)]
    simp only [s_mark _ hs2 hn hc hk, s_mark _ hs2 hn hx hk, s_mark _ hs2 hn hy hk, s_mark _ hs2 hn hz hk, Option.bind_some, nI_add1, s_agreed, s_putMark _ _ hs2 hn hc hk]
    have e0 : cr τ c k = cr σ c k := by rw [p4 c k hk, if_neg (fun q => Nat.lt_irrefl k q.2.1)]
    have ex : cr τ x k = cr σ x k := by rw [p4 x k hk, if_neg (fun q => cx q.1)]
    have ey : cr τ y k = cr σ y k := by rw [p4 y k hk, if_neg (fun q => cy q.1)]
    have ez : cr τ z k = cr σ z k := by rw [p4 z k hk, if_neg (fun q => cz q.1)]
    rw [e0, ex, ey, ez]
    by_cases h1 : cr σ c k = -1000000
    · rw [if_pos h1]
      refine ⟨(nI (cn (fun k => cr σ c k = -1000000 ∧ agr (cr σ x k) (cr σ y k) (cr σ z k) ≠ -1000000) (k + 1)), .int (agr (cr σ x k) (cr σ y k) (cr σ z k)), sI τ 21 (c * 11 + k) (agr (cr σ x k) (cr σ y k) (cr σ z k))), ⟨rfl, rfl, p3.set _ _ (by decide), fun i m hm => ?_⟩, ?_⟩
      · rw [cr_put _ hk i m hm, p4 i m hm]
        by_cases q1 : i = c ∧ m = k
        · rw [if_pos q1, if_pos ⟨q1.1, by omega, by rw [q1.2]; exact h1⟩, q1.2]
        · rw [if_neg q1]
          by_cases q2 : i = c ∧ m < k ∧ cr σ c m = -1000000
          · rw [if_pos q2, if_pos ⟨q2.1, by omega, q2.2.2⟩]
          · rw [if_neg q2, if_neg (fun q3 => q2 ⟨q3.1, by have := q3.2.1; have : m ≠ k := fun q4 => q1 ⟨q3.1, q4⟩; omega, q3.2.2⟩)]
      · rw [cn_s, p1]
        by_cases h2 : agr (cr σ x k) (cr σ y k) (cr σ z k) = -1000000
        · rw [if_pos h2, if_neg (fun q => q.2 h2), Int32.add_zero]
        · rw [if_neg h2, if_pos ⟨h1, h2⟩, nI_add1]
    · rw [if_neg h1]
      refine ⟨(u, w, τ), ⟨?_, p2, p3, fun i m hm => ?_⟩, rfl⟩
      · rw [cn_s, if_neg (fun q => h1 q.1)]
        exact p1
      · rw [p4 i m hm]
        by_cases q2 : i = c ∧ m < k ∧ cr σ c m = -1000000
        · rw [if_pos q2, if_pos ⟨q2.1, by omega, q2.2.2⟩]
        · rw [if_neg q2, if_neg (fun q3 => q2 ⟨q3.1, by have := q3.2.1; have : m ≠ k := fun q4 => h1 (by rw [← q4]; exact q3.2.2); omega, q3.2.2⟩)]) (0, .null, σ) ⟨rfl, rfl, sm.rf _ _, fun i m hm => by rw [if_neg (fun q => Nat.not_lt_zero m q.2.1)]⟩
  refine ⟨τ, cI_ev mi_168 ((u_168_17 d σ _ _ _ _).trans (e.trans ?_)) rfl, p3, fun i m hm => ?_⟩
  · rw [u_168_17p6 _ _ _ _ _ _ _ _ _ p2, if_neg g11, p1]
    rfl
  · rw [p4 i m hm]
    by_cases q : i = c ∧ cr σ c m = -1000000
    · rw [if_pos q, if_pos ⟨q.1, hm, q.2⟩]
    · rw [if_neg q, if_neg (fun q2 => q ⟨q2.1, q2.2.2⟩)]
