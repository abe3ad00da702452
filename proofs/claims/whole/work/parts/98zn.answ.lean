/-! TREES: the class answers -/
theorem shr_0 {X n : Nat} (hX : X < 2147483648) (hn : n < 32) : nI X >>> (nI n &&& 31) = 0 ↔ X < 2 ^ n := by
  have e : (nI X >>> (nI n &&& 31)).toInt = ((X / 2 ^ n : Nat) : Int) := by
    have e1 : (nI X >>> (nI n &&& 31)).toBitVec.toInt = ((nI X).toBitVec.sshiftRight n).toInt := by
      rw [Int32.toBitVec_shiftRight]
      show ((nI X).toBitVec.sshiftRight (((nI n) &&& 31).toBitVec.smod 32#32).toNat).toInt = _
      rw [sh_amt ⟨n, hn⟩]
    have e2 : (nI X).toBitVec.toInt = (X : Int) := nI_i hX
    rw [BitVec.toInt_sshiftRight, e2, Int.shiftRight_eq_div_pow] at e1
    refine e1.trans ?_
    rw [Int.natCast_ediv]
  rw [i_eq, e, i_0]
  have hp : 0 < 2 ^ n := Nat.pow_pos (by omega)
  constructor
  · intro h
    have h2 : X / 2 ^ n = 0 := by omega
    rcases Nat.div_eq_zero_iff.mp h2 with z | z
    · omega
    · exact z
  · intro h
    rw [Nat.div_eq_of_lt h]
    rfl
theorem gN_app_l {l r : List Nat} {i : Nat} (h : i < l.length) : gN (l ++ r) i = gN l i := by
  unfold gN
  rw [List.getD_eq_getElem?_getD, List.getElem?_append_left h, List.getD_eq_getElem?_getD]
theorem vlP_at {P : Nat → Bool} {k N : Nat} (hk : k < N) (h : P k = true) : (vlP P k).length < (vlP P N).length ∧ gN (vlP P N) (vlP P k).length = k := by
  obtain ⟨l, e⟩ := vlP_pre P (k := k + 1) N (by omega)
  rw [vlP_t h] at e
  rw [e]
  refine ⟨?_, ?_⟩
  · rw [List.length_append, List.length_append, List.length_singleton]
    omega
  · rw [gN_app_l (by rw [List.length_append, List.length_singleton]; omega), gN_e]
theorem s_isGrove (d : Nat) {σ : ax_S} {n : Nat} (x : Int32) (hn : n ≤ 12) (hs : σ.1 17 0 = nI n) : (∃ X, x = nI X ∧ X < 2 ^ n ∧ 2 ≤ pcN X ∧ pcN X ≤ 6 ∧ cI sO (d + 1) 135 [.ref 0, .int x] σ = some (1, σ)) ∨ ((¬ ∃ X, x = nI X ∧ X < 2 ^ n ∧ 2 ≤ pcN X ∧ pcN X ≤ 6) ∧ cI sO (d + 1) 135 [.ref 0, .int x] σ = some (0, σ)) := by
  have eu := u_135_0 d σ x
  have pw : 2 ^ n ≤ 4096 := pw_lt hn
  by_cases h0 : x < 0
  · rw [if_pos h0] at eu
    refine Or.inr ⟨?_, cI_ev mi_135 eu rfl⟩
    rintro ⟨X, e, hX, -⟩
    rw [e] at h0
    exact nnl (N := 0) (by omega) (show X < 2147483648 by omega) h0
  · obtain ⟨X, hX, e, -⟩ := i_nI (x := x) (by rw [i_lt, i_0] at h0; omega)
    subst e
    rw [if_neg h0, s_size, Option.bind_some] at eu
    (try simp only at eu)
    rw [hs] at eu
    by_cases h1 : X < 2 ^ n
    · rw [if_pos ((shr_0 hX (by omega)).mpr h1), s_bitCount, Option.bind_some, bc_n (show X < 4096 by omega)] at eu
      (try simp only at eu)
      have hp12 := pc_12 X
      by_cases h2 : pcN X < 2
      · rw [if_pos (show nI (pcN X) < (2 : Int32) from nlt (N := 2) h2)] at eu
        refine Or.inr ⟨?_, cI_ev mi_135 eu rfl⟩
        rintro ⟨Y, e, hY, h3, -⟩
        have := nI_inj hX (by omega) e
        subst this
        omega
      · rw [if_neg (show ¬ nI (pcN X) < (2 : Int32) from nnl (N := 2) (by omega) (by omega))] at eu
        by_cases h3 : 6 < pcN X
        · rw [if_pos (show (6 : Int32) < nI (pcN X) from nI_lt (a := 6) h3 (by omega))] at eu
          refine Or.inr ⟨?_, cI_ev mi_135 eu rfl⟩
          rintro ⟨Y, e, hY, -, h4⟩
          have := nI_inj hX (by omega) e
          subst this
          omega
        · rw [if_neg (show ¬ (6 : Int32) < nI (pcN X) from nnl (k := 6) (N := pcN X) (by omega) (by omega))] at eu
          exact Or.inl ⟨X, rfl, h1, by omega, by omega, cI_ev mi_135 eu rfl⟩
    · rw [if_neg (fun z => h1 ((shr_0 hX (by omega)).mp z))] at eu
      refine Or.inr ⟨?_, cI_ev mi_135 eu rfl⟩
      rintro ⟨Y, e, hY, -⟩
      have := nI_inj hX (by omega) e
      subst this
      omega
theorem s_co (d : Nat) {σ : ax_S} {b e : Nat} (hb : b < 64) (he : e ≤ 6) (h67 : σ.1 67 0 = nI e) : ∀ r j, j + r = e → ev sO d 155 4 [.ref 67, .int (nI b), .int (mkE (σ.1 68) b j), .int (nI j)] [] σ = some (some (.int (mkE (σ.1 68) b e)), σ)
  | 0, j, hj => by
    rw [u_155_67p4 d σ (nI b) (mkE (σ.1 68) b j) (nI j), h67, if_neg (nnl (by omega) (by omega)), show j = e by omega]
  | r + 1, j, hj => by
    have ih := s_co d hb he h67 r (j + 1) (by omega)
    rw [u_155_67p4 d σ (nI b) (mkE (σ.1 68) b j) (nI j), h67, if_pos (nlt (by omega)), bt_at (nI b) (show j < 32 by omega), nI_bt b (show j < 32 by omega), nI_add1]
    by_cases q : b.testBit j = true
    · rw [if_neg (by rw [if_pos q]; decide), gd_t (nI_g (show j < 6 by omega) (by omega)), nI_c (show j < 2147483648 by omega)]
      rw [show mkE (σ.1 68) b (j + 1) = mkE (σ.1 68) b j ||| (1 <<< (σ.1 68 j &&& 31)) by
        show mkE (σ.1 68) b j ||| (if b.testBit j then _ else 0) = _
        rw [if_pos q]] at ih
      exact ih
    · rw [if_pos (by rw [if_neg q])]
      rw [show mkE (σ.1 68) b (j + 1) = mkE (σ.1 68) b j by
        show mkE (σ.1 68) b j ||| (if b.testBit j then _ else 0) = _
        rw [if_neg q, Int32.or_zero]] at ih
      exact ih
theorem s_cardsOf (d : Nat) {σ : ax_S} {b e : Nat} (hb : b < 64) (he : e ≤ 6) (h67 : σ.1 67 0 = nI e) : cI sO d 155 [.ref 67, .int (nI b)] σ = some (mkE (σ.1 68) b e, σ) := cI_ev mi_155 ((u_155_67 d σ (nI b)).trans (s_co d hb he h67 e 0 (by omega))) rfl
/-- the i-th of a list, how many for -1 -/
def sjv (l : List Nat) (g : Nat → Int64) (i : Int32) : Int64 := if i = -1 then (nI l.length).toInt64 else if i.toInt < l.length then g (gN l i.toNatClampNeg) else -1000000
theorem sjv_end {l : List Nat} {g : Nat → Int64} {i : Int32} (h1 : ¬ i < -1) (hl : l.length < 2147483648) (h : ∀ c, c < l.length → i ≠ nI c) : sjv l g i = if i = -1 then (nI l.length).toInt64 else -1000000 := by
  unfold sjv
  by_cases q : i = -1
  · rw [if_pos q, if_pos q]
  · rw [if_neg q, if_neg q, if_neg (fun z => ?_)]
    have h3 : 0 ≤ i.toInt := by
      rw [i_lt, show (-1 : Int32).toInt = -1 from rfl] at h1
      rw [i_eq, show (-1 : Int32).toInt = -1 from rfl] at q
      omega
    obtain ⟨X, hX, e, e2⟩ := i_nI h3
    exact h X (by omega) e
theorem sjv_at {l : List Nat} {g : Nat → Int64} {c k : Nat} (hc : c < l.length) (hl : l.length < 2147483648) (hk : gN l c = k) : sjv l g (nI c) = g k := by
  unfold sjv
  rw [if_neg (fun z => by
    rw [i_eq, nI_i (by omega), show (-1 : Int32).toInt = -1 from rfl] at z
    omega), if_pos (by rw [nI_i (by omega)]; omega), nI_c (by omega), hk]
theorem s_sj (d : Nat) {σ : ax_S} {e : Nat} {i : Int32} (he : e ≤ 6) (h67 : σ.1 67 0 = nI e) (h1 : ¬ i < -1) : ∀ r k, k + r = 64 → (∀ c, c < (vlP (bl σ.2) k).length → i ≠ nI c) → ev sO (d + 1) 154 4 [.ref 66, .int i, .int (nI (vlP (bl σ.2) k).length), .int (nI k)] [] σ = some (some (.long (sjv (vlP (bl σ.2) 64) (fun b => (mkE (σ.1 68) b e).toInt64) i)), σ)
  | 0, k, hk, h => by
    have hk : k = 64 := by omega
    subst hk
    rw [u_154_66p4 d σ i _ _, if_neg (show ¬ nI 64 < (64 : Int32) by decide), sjv_end h1 (by have := vlP_le (bl σ.2) 64; omega) h]
    by_cases q : i = -1
    · rw [if_pos q, if_pos q]
    · rw [if_neg q, if_neg q]
  | r + 1, k, hk, h => by
    have hle := vlP_le (bl σ.2) k
    rw [u_154_66p4 d σ i _ _, if_pos (show nI k < (64 : Int32) from nlt (N := 64) (by omega)), bl_at σ.2 (show k < 64 by omega), nI_add1, nI_add1]
    simp only [lg_cmp_eq]
    by_cases q : bl σ.2 k = true
    · rw [if_neg (show ¬ (if bl σ.2 k = true then (1 : Int64) else 0) = 0 by rw [if_pos q]; decide)]
      by_cases z : nI (vlP (bl σ.2) k).length = i
      · obtain ⟨v1, v2⟩ := vlP_at (P := bl σ.2) (k := k) (N := 64) (by omega) q
        rw [if_pos z, s_cardsOf d (show k < 64 by omega) he h67, Option.bind_some, ← z, sjv_at v1 (by have := vlP_le (bl σ.2) 64; omega) v2]
      · have ih := s_sj d he h67 h1 r (k + 1) (by omega) (fun c hc => by
          rw [vlP_t q, List.length_append, List.length_singleton] at hc
          by_cases w : c = (vlP (bl σ.2) k).length
          · rw [w]
            exact fun y => z y.symm
          · exact h c (by omega))
        rw [vlP_t q, List.length_append, List.length_singleton] at ih
        rw [if_neg z]
        exact ih
    · rw [if_pos (show (if bl σ.2 k = true then (1 : Int64) else 0) = 0 by rw [if_neg q])]
      have ih := s_sj d he h67 h1 r (k + 1) (by omega) (by rw [vlP_f q]; exact h)
      rw [vlP_f q] at ih
      exact ih
theorem s_sureJoin (d : Nat) {σ : ax_S} {e : Nat} {i : Int32} (he : e ≤ 6) (h67 : σ.1 67 0 = nI e) (h1 : ¬ i < -1) : cL sO (d + 1) 154 [.ref 66, .int i] σ = some (sjv (vlP (bl σ.2) 64) (fun b => (mkE (σ.1 68) b e).toInt64) i, σ) := cL_ev mi_154 ((u_154_66 d σ i).trans (s_sj d he h67 h1 64 0 (by omega) (fun c hc => absurd hc (Nat.not_lt_zero c)))) rfl
theorem s_valueAt (d : Nat) {σ : ax_S} {m j k : Nat} {f : Nat → Nat} (hm : m < 11) (hk : k ≤ 6) (hj : j < k) (h70 : σ.1 70 m = nI k) (h69 : ∀ x, x < k → σ.1 69 (m * 6 + x) = nI (f x)) : cI sO (d + 1) 158 [.ref 67, .int (nI m), .int (nI j)] σ = some (nI (f j), σ) := by
  have eu := u_158_67 d σ (nI m) (nI j)
  rw [s_isMark, Option.bind_some] at eu
  simp only [bi_0, nI_c (show m < 2147483648 by omega), h70] at eu
  rw [if_neg (fun z => z ⟨by rw [nI_i (by omega)]; omega, by rw [nI_i (by omega)]; omega⟩), if_neg (show ¬ nI j < 0 from nnl (N := 0) (by omega) (by omega)), gd_t (nI_g hm (by omega)), if_pos (nlt hj), if_pos (show nI j < (6 : Int32) from nlt (N := 6) (by omega)), show nI m * (6 : Int32) = nI (m * 6) from nI_mul (b := 6) (by omega) (by omega) (by omega), nI_pl (show m * 6 + j < 2147483648 by omega), gd_t (nI_g (show m * 6 + j < 66 by omega) (by omega)), nI_c (show m * 6 + j < 2147483648 by omega), h69 j hj] at eu
  exact cI_ev mi_158 eu rfl
theorem s_fv (d : Nat) {σ : ax_S} {m k : Nat} {f : Nat → Nat} {i : Int32} (hm : m < 11) (hk : k ≤ 6) (h70 : σ.1 70 m = nI k) (h69 : ∀ x, x < k → σ.1 69 (m * 6 + x) = nI (f x)) (hb : ∀ j, j < 6 → bt (σ.1 79 m) j = true → j < k) (h1 : ¬ i < -1) : ∀ r j, j + r = 6 → (∀ c, c < (vlP (bt (σ.1 79 m)) j).length → i ≠ nI c) → ev sO (d + 2) 157 5 [.ref 66, .int (nI m), .int i, .int (nI (vlP (bt (σ.1 79 m)) j).length), .int (nI j)] [] σ = some (some (.long (sjv (vlP (bt (σ.1 79 m)) 6) (fun j => (nI (f j)).toInt64) i)), σ)
  | 0, j, hj, h => by
    have hj : j = 6 := by omega
    subst hj
    rw [u_157_66p5 d σ (nI m) i _ _, if_neg (show ¬ nI 6 < (6 : Int32) by decide), sjv_end h1 (by have := vlP_le (bt (σ.1 79 m)) 6; omega) h]
    by_cases q : i = -1
    · rw [if_pos q, if_pos q]
    · rw [if_neg q, if_neg q]
  | r + 1, j, hj, h => by
    have hle := vlP_le (bt (σ.1 79 m)) j
    rw [u_157_66p5 d σ (nI m) i _ _, if_pos (show nI j < (6 : Int32) from nlt (N := 6) (by omega)), s_isMark, Option.bind_some]
    simp only [bi_0, nI_c (show m < 2147483648 by omega), bt_at (σ.1 79 m) (show j < 32 by omega), nI_add1]
    rw [if_neg (fun z => z ⟨by rw [nI_i (by omega)]; omega, by rw [nI_i (by omega)]; omega⟩), gd_t (nI_g hm (by omega))]
    by_cases q : bt (σ.1 79 m) j = true
    · rw [if_neg (show ¬ (if bt (σ.1 79 m) j = true then (1 : Int32) else 0) = 0 by rw [if_pos q]; decide)]
      by_cases z : nI (vlP (bt (σ.1 79 m)) j).length = i
      · obtain ⟨v1, v2⟩ := vlP_at (P := bt (σ.1 79 m)) (k := j) (N := 6) (by omega) q
        rw [if_pos z, s_valueAt d hm hk (hb j (by omega) q) h70 h69, Option.bind_some, ← z, sjv_at v1 (by have := vlP_le (bt (σ.1 79 m)) 6; omega) v2]
      · have ih := s_fv d hm hk h70 h69 hb h1 r (j + 1) (by omega) (fun c hc => by
          rw [vlP_t q, List.length_append, List.length_singleton] at hc
          by_cases w : c = (vlP (bt (σ.1 79 m)) j).length
          · rw [w]
            exact fun y => z y.symm
          · exact h c (by omega))
        rw [vlP_t q, List.length_append, List.length_singleton] at ih
        rw [if_neg z]
        exact ih
    · rw [if_pos (show (if bt (σ.1 79 m) j = true then (1 : Int32) else 0) = 0 by rw [if_neg q])]
      have ih := s_fv d hm hk h70 h69 hb h1 r (j + 1) (by omega) (by rw [vlP_f q]; exact h)
      rw [vlP_f q] at ih
      exact ih
theorem s_firstValue (d : Nat) {σ : ax_S} {m k : Nat} {f : Nat → Nat} {i : Int32} (hm : m < 11) (hk : k ≤ 6) (h70 : σ.1 70 m = nI k) (h69 : ∀ x, x < k → σ.1 69 (m * 6 + x) = nI (f x)) (hb : ∀ j, j < 6 → bt (σ.1 79 m) j = true → j < k) (h1 : ¬ i < -1) : cL sO (d + 2) 157 [.ref 66, .int (nI m), .int i] σ = some (sjv (vlP (bt (σ.1 79 m)) 6) (fun j => (nI (f j)).toInt64) i, σ) := cL_ev mi_157 ((u_157_66 d σ (nI m) i).trans (s_fv d hm hk h70 h69 hb h1 6 0 (by omega) (fun c hc => absurd hc (Nat.not_lt_zero c)))) rfl
