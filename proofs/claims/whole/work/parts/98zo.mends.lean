/-! TREES: the reference's ends and values -/
theorem vlP_cn (P : Nat → Bool) : ∀ m, (vlP P m).length = cn (fun k => P k = true) m
  | 0 => rfl
  | m + 1 => by
    have ih := vlP_cn P m
    rw [cn_s]
    by_cases q : P m = true
    · rw [vlP_t q, if_pos q, List.length_append, List.length_singleton, ih]
    · rw [vlP_f q, if_neg q, ih]
theorem cn_tail {P : Nat → Prop} [DecidablePred P] {n : Nat} (h : ∀ k, n ≤ k → ¬ P k) : ∀ N, n ≤ N → cn P N = cn P n
  | 0, hN => by rw [Nat.le_zero.mp hN]
  | N + 1, hN => by
    by_cases q : n = N + 1
    · rw [q]
    · rw [cn_s, if_neg (h N (by omega))]
      exact cn_tail h N (by omega)
theorem enL_len {X n : Nat} (hn : n ≤ 12) (hX : X < 2 ^ n) : (enL X n).length = pcN X := by
  show (vlP (fun j => X.testBit j) n).length = _
  rw [vlP_cn]
  unfold pcN
  exact (cn_tail (P := fun k => X.testBit k = true) (fun k hk => by
    rw [Nat.testBit_lt_two_pow (Nat.lt_of_lt_of_le hX (Nat.pow_le_pow_right (by omega) hk))]
    decide) 12 hn).symm
theorem m_areEnds (d : Nat) {σ : ax_S} {n X : Nat} (hn : n ≤ 12) (hs : σ.1 88 0 = nI n) (hX : X < 2 ^ n) (hp2 : 2 ≤ pcN X) (hp6 : pcN X ≤ 6) : ∃ ρ : ax_S, cI sO (d + 1) 258 [.ref 82, .int (nI X)] σ = some (1, ρ) ∧ sm [82, 91] σ ρ ∧ (∀ f, f ≠ 25 → ρ.1 82 f = σ.1 82 f) ∧ ρ.1 82 25 = nI (enL X n).length ∧ ∀ i, i < (enL X n).length → ρ.1 91 i = nI (gN (enL X n) i) := by
  have pw : 2 ^ n ≤ 4096 := pw_lt hn
  have pw0 : 0 < 2 ^ n := Nat.pow_pos (by omega)
  have eall : ((1 : Int32) <<< (nI n &&& 31)) - 1 = nI (2 ^ n - 1) := by
    rw [show (1 : Int32) <<< (nI n &&& 31) = b1 n from rfl, b1_n (by omega), nI_sub1 pw0 (by omega)]
  have hlen := enL_len hn hX
  have eu := u_258_82 d σ (nI X)
  rw [hs, eall, m_in, Option.bind_some] at eu
  simp only [bi_0, l_i, l_0] at eu
  rw [if_neg (fun z => z ⟨by rw [nI_i (by omega)]; omega, by rw [nI_i (by omega), nI_i (by omega)]; omega⟩), m_bits _ _ (show X < 4096 by omega), Option.bind_some, m_in, Option.bind_some] at eu
  simp only [bi_0, l_i, show (2 : Int64).toInt = 2 by decide, show (6 : Int64).toInt = 6 by decide] at eu
  rw [if_neg (fun z => z ⟨by rw [nI_i (by omega)]; omega, by rw [nI_i (by omega)]; omega⟩)] at eu
  obtain ⟨ρ, ⟨p1, p2, p3, p4⟩, a1⟩ := loop_P (E := fun k (τ : ax_S) => ev sO (d + 1) 258 46 [.ref 82, .int (nI X), .int (nI k)] [] τ) (N := n) (P := fun k τ => sm [82, 91] σ τ ∧ (∀ f, f ≠ 25 → τ.1 82 f = σ.1 82 f) ∧ τ.1 82 25 = nI (enL X k).length ∧ ∀ i, i < (enL X k).length → τ.1 91 i = nI (gN (enL X k) i)) (fun k τ hk hp => by
    obtain ⟨p1, p2, p3, p4⟩ := hp
    have hle : (enL X k).length ≤ k := vlP_le _ _
    have h46 := u_258_82p46 d τ (nI X) (nI k)
    rw [p1.1 88 (by decide), hs, if_pos (nlt hk), bt_at (nI X) (show k < 32 by omega), nI_bt X (show k < 32 by omega), nI_add1] at h46
    by_cases q : X.testBit k = true
    · have e1 : enL X (k + 1) = enL X k ++ [k] := vlP_t q
      have hl1 : (enL X (k + 1)).length ≤ (enL X n).length := vlP_len (by omega)
      rw [e1, List.length_append, List.length_singleton] at hl1
      rw [if_pos (by rw [if_pos q]), p3, gd_t (nI_g (show (enL X k).length < 6 by omega) (by omega)), nI_c (show (enL X k).length < 2147483648 by omega), sI_n (x := 82) _ _ (by decide), p3, nI_add1] at h46
      refine ⟨_, ⟨(p1.set _ _ (by decide)).set _ _ (by decide), fun f hf => ?_, ?_, fun i hi => ?_⟩, h46⟩
      · rw [sI_k _ hf, sI_n _ _ (by decide)]
        exact p2 f hf
      · rw [sI_1, e1, List.length_append, List.length_singleton]
      · rw [e1, List.length_append, List.length_singleton] at hi
        rw [sI_n _ _ (by decide), e1]
        by_cases y : i = (enL X k).length
        · rw [y, sI_1, gN_e]
        · rw [sI_k _ y, gN_l (by omega)]
          exact p4 i (by omega)
    · have e1 : enL X (k + 1) = enL X k := vlP_f q
      rw [if_neg (by rw [if_neg q]; decide)] at h46
      exact ⟨τ, ⟨p1, p2, by rw [e1]; exact p3, by rw [e1]; exact p4⟩, h46⟩) (sI σ 82 25 0) ⟨(sm.rf _ _).set _ _ (by decide), fun f hf => sI_k _ hf, sI_1 _ _ _ _, fun i hi => absurd hi (Nat.not_lt_zero i)⟩
  refine ⟨ρ, cI_ev mi_258 (eu.trans (Eq.trans a1 ?_)) rfl, p1, p2, p3, p4⟩
  (try simp only)
  rw [u_258_82p46 d ρ (nI X) (nI n), p1.1 88 (by decide), hs, if_neg (nnl (Nat.le_refl _) (by omega))]
theorem m_noEnds (d : Nat) {σ : ax_S} {n : Nat} (x : Int32) (hn : n ≤ 12) (hs : σ.1 88 0 = nI n) (h : ¬ ∃ X, x = nI X ∧ X < 2 ^ n ∧ 2 ≤ pcN X ∧ pcN X ≤ 6) : cI sO (d + 1) 258 [.ref 82, .int x] σ = some (0, σ) := by
  have pw : 2 ^ n ≤ 4096 := pw_lt hn
  have pw0 : 0 < 2 ^ n := Nat.pow_pos (by omega)
  have eall : ((1 : Int32) <<< (nI n &&& 31)) - 1 = nI (2 ^ n - 1) := by
    rw [show (1 : Int32) <<< (nI n &&& 31) = b1 n from rfl, b1_n (by omega), nI_sub1 pw0 (by omega)]
  have eu := u_258_82 d σ x
  rw [hs, eall, m_in, Option.bind_some] at eu
  simp only [bi_0, l_i, l_0] at eu
  by_cases q : 0 ≤ x.toInt ∧ x.toInt ≤ (nI (2 ^ n - 1)).toInt
  · obtain ⟨X, hX, e, e2⟩ := i_nI q.1
    have h2 := q.2
    rw [nI_i (by omega), e2] at h2
    have hX2 : X < 2 ^ n := by omega
    subst e
    have hp12 := pc_12 X
    rw [if_neg (fun z => z q), m_bits _ _ (show X < 4096 by omega), Option.bind_some, m_in, Option.bind_some] at eu
    simp only [bi_0, l_i, show (2 : Int64).toInt = 2 by decide, show (6 : Int64).toInt = 6 by decide] at eu
    rw [if_pos (fun z => h ⟨X, rfl, hX2, by have := z.1; rw [nI_i (by omega)] at this; omega, by have := z.2; rw [nI_i (by omega)] at this; omega⟩)] at eu
    exact cI_ev mi_258 eu rfl
  · rw [if_pos q] at eu
    exact cI_ev mi_258 eu rfl
theorem m_all1 (d : Nat) {σ : ax_S} {e : Nat} (he : e ≤ 6) (h25 : σ.1 82 25 = nI e) : ∀ r k A, k + r = e → 2 ≤ k → A * prN k r < 2147483648 → ev sO d 259 4 [.ref 82, .int (nI A), .int (nI k)] [] σ = some (some (.int (nI (A * prN k r))), σ)
  | 0, k, A, hk, h2k, hA => by
    rw [u_259_82p4 d σ (nI A) (nI k), h25, if_neg (nnl (by omega) (by omega))]
    show _ = some (some (Value.int (nI (A * 1))), σ)
    rw [Nat.mul_one]
  | r + 1, k, A, hk, h2k, hA => by
    have hp := prN_1 r (k + 1) (by omega)
    have hA : A * ((2 * k - 1) * prN (k + 1) r) < 2147483648 := hA
    rw [← Nat.mul_assoc] at hA
    have hA2 : A * (2 * k - 1) < 2147483648 := Nat.lt_of_le_of_lt (Nat.le_mul_of_pos_right _ hp) hA
    have hA3 : A < 2147483648 := Nat.lt_of_le_of_lt (Nat.le_mul_of_pos_right _ (show 0 < 2 * k - 1 by omega)) hA2
    have hb : (2 : Int32) * nI k - 1 = nI (2 * k - 1) := by
      rw [show (2 : Int32) * nI k = nI (2 * k) from nI_mul (a := 2) (by omega) (by omega) (by omega)]
      exact nI_sub1 (X := 2 * k) (by omega) (by omega)
    rw [u_259_82p4 d σ (nI A) (nI k), h25, if_pos (nlt (by omega)), hb, nI_mul hA2 hA3 (by omega), nI_add1, m_all1 d he h25 r (k + 1) (A * (2 * k - 1)) (by omega) (by omega) hA]
    show some (some (Value.int (nI _)), σ) = some (some (Value.int (nI (A * ((2 * k - 1) * prN (k + 1) r)))), σ)
    rw [Nat.mul_assoc]
theorem m_allTrees (d : Nat) {σ : ax_S} {e : Nat} (h2 : 2 ≤ e) (he : e ≤ 6) (h25 : σ.1 82 25 = nI e) : cI sO d 259 [.ref 82] σ = some (nI (allN e), σ) := by
  have h := m_all1 d he h25 (e - 2) 2 1 (by omega) (by omega) (by rw [prN_all h2 he]; have := allN_le e; omega)
  rw [prN_all h2 he, Nat.one_mul] at h
  exact cI_ev mi_259 ((u_259_82 d σ).trans h) rfl
/-- the least value beyond the first k, of j ends -/
abbrev NX (K : Nat) (F : Nat → Nat) (u : Nat → Int32) (k j : Nat) (x : Int32) : Prop := (x = -1000000 ∧ ∀ j', j' < j → ∀ i, k ≤ i → i < K → u j' ≠ nI (F i)) ∨ ∃ i, k ≤ i ∧ i < K ∧ x = nI (F i) ∧ (∃ j', j' < j ∧ u j' = nI (F i)) ∧ ∀ j', j' < j → ∀ i', k ≤ i' → i' < K → u j' = nI (F i') → i ≤ i'
def lsV (F : Nat → Nat) (k : Nat) : Int32 := if k = 0 then -1 else nI (F (k - 1))
theorem lsV_lt {K k i : Nat} {F : Nat → Nat} (hinc : ∀ a b, a < b → b < K → F a < F b) (hF : ∀ i, i < K → F i < 10000) (hk : k ≤ K) (hi : i < K) : lsV F k < nI (F i) ↔ k ≤ i := by
  have := hF i hi
  unfold lsV
  by_cases q : k = 0
  · rw [if_pos q, i_lt, nI_i (by omega), show (-1 : Int32).toInt = -1 from rfl]
    constructor <;> intro <;> omega
  · have h2 := hF (k - 1) (by omega)
    rw [if_neg q, i_lt, nI_i (by omega), nI_i (by omega)]
    constructor
    · intro z
      by_cases w : i = k - 1
      · rw [w] at z
        omega
      · by_cases y : i < k - 1
        · have := hinc i (k - 1) y (by omega)
          omega
        · omega
    · intro z
      have := hinc (k - 1) i (by omega) hi
      omega
theorem m_lv1 (d : Nat) {σ : ax_S} {e n m K k : Nat} {E F : Nat → Nat} {u : Nat → Int32} (w3 : Value) (h3 : c1 w3) (hn : n ≤ 12) (hi : mI σ n) (he : e ≤ 6) (hm : m < 11) (h25 : σ.1 82 25 = nI e) (h91 : ∀ j, j < e → σ.1 91 j = nI (E j) ∧ E j < n) (hu : ∀ j, j < e → mr σ (E j) m = u j) (hR : RV K F u e) (hk : k ≤ K) (w6 : Value) (h6 : c1 w6) : ∃ (x : Int32) (w6' : Value), c1 w6' ∧ NX K F u k e x ∧ ev sO (d + 2) 265 20 [.ref 82, .int (nI m), .int (lsV F k), w3, .int (-1000000), .int 0, w6] [] σ = ev sO (d + 2) 265 20 [.ref 82, .int (nI m), .int (lsV F k), w3, .int x, .int (nI e), w6'] [] σ := by
  obtain ⟨r1, r2, r3, r4⟩ := hR
  have hF : ∀ i, i < K → F i < 10000 := fun i hi => (r3 i hi).1
  obtain ⟨⟨x, w6'⟩, ⟨q6, p1⟩, a1⟩ := loop_P (E := fun j (s : Int32 × Value) => ev sO (d + 2) 265 20 [.ref 82, .int (nI m), .int (lsV F k), w3, .int s.1, .int (nI j), s.2] [] σ) (N := e) (P := fun j s => c1 s.2 ∧ NX K F u k j s.1) (fun j s hj hp => by
    obtain ⟨x, w6⟩ := s
    obtain ⟨q6, p1⟩ := hp
    simp only at q6 p1 ⊢
    obtain ⟨v1, v2⟩ := h91 j hj
    have kn := mr_kn hi v2 hm
    have huj := hu j hj
    have eu := u_265_82p20 d σ (nI m) (lsV F k) w3 h3 x (nI j) w6 q6
    rw [h25, if_pos (nlt hj), gd_t (nI_g (show j < 6 by omega) (by omega)), nI_c (show j < 2147483648 by omega), v1, m_mark _ _ (show E j < 12 by omega) hm, Option.bind_some] at eu
    (try simp only at eu)
    rw [gd_t (nI_g (show j < 6 by omega) (by omega)), v1, m_isKnown _ _ (show E j < 12 by omega) hm, Option.bind_some] at eu
    simp only [bi_0, nI_add1] at eu
    have stay : (∀ i, k ≤ i → i < K → u j ≠ nI (F i)) → NX K F u k (j + 1) x := fun z => by
      obtain ⟨z1, z2⟩ | ⟨i, z1, z2, z3, ⟨j', z4, z5⟩, z6⟩ := p1
      · refine Or.inl ⟨z1, fun j' hj' i hi1 hi2 => ?_⟩
        by_cases y : j' = j
        · rw [y]; exact z i hi1 hi2
        · exact z2 j' (by omega) i hi1 hi2
      · refine Or.inr ⟨i, z1, z2, z3, ⟨j', by omega, z5⟩, fun j' hj' i' hi1 hi2 hh => ?_⟩
        by_cases y : j' = j
        · rw [y] at hh; exact absurd hh (z i' hi1 hi2)
        · exact z6 j' (by omega) i' hi1 hi2 hh
    by_cases q : bt (ms σ (E j)) m = false
    · rw [if_neg (fun z => z q)] at eu
      have e1 : mk σ (E j) m = u j := by rw [← huj, mr_f q]
      rw [e1] at eu
      obtain w | ⟨i, i1, i2⟩ := r4 j hj
      · exact absurd (huj.trans w) (kn.mp q)
      · have hFi := hF i i1
        rw [i2] at eu
        have uniq : ∀ i', i' < K → u j = nI (F i') → i' = i := fun i' h1 h2 => by
          have hFi' := hF i' h1
          have h3 := nI_inj (by omega) (by omega) (i2.symm.trans h2)
          by_cases y : i' < i
          · have := r2 i' i y i1
            omega
          · by_cases y2 : i < i'
            · have := r2 i i' y2 h1
              omega
            · omega
        by_cases z : k ≤ i
        · rw [if_pos ((lsV_lt r2 hF hk i1).mpr z)] at eu
          have take : NX K F u k j x → (∀ i0, k ≤ i0 → i0 < K → x = nI (F i0) → i < i0) → NX K F u k (j + 1) (nI (F i)) := fun hN hlt => by
            refine Or.inr ⟨i, z, i1, rfl, ⟨j, by omega, i2⟩, fun j' hj' i' h1 h2 hh => ?_⟩
            by_cases y : j' = j
            · rw [y] at hh
              rw [uniq i' h2 hh]
              exact Nat.le_refl _
            · obtain ⟨z1, z2⟩ | ⟨i0, z1, z2, z3, z4, z6⟩ := hN
              · exact absurd hh (z2 j' (by omega) i' h1 h2)
              · have := hlt i0 z1 z2 z3
                have := z6 j' (by omega) i' h1 h2 hh
                omega
          by_cases y : x = -1000000
          · rw [if_pos y] at eu
            refine ⟨(nI (F i), .int (nI (F i))), ⟨rfl, take p1 (fun i0 _ h2 h3 => ?_)⟩, eu⟩
            rw [y] at h3
            exact absurd h3.symm (nI_nn (by have := hF i0 h2; omega))
          · rw [if_neg y] at eu
            have p1' := p1
            obtain ⟨z1, z2⟩ | ⟨i0, z1, z2, z3, z4, z6⟩ := p1
            · exact absurd z1 y
            · have hF0 := hF i0 z2
              by_cases hl : F i < F i0
              · rw [if_pos (by rw [z3]; exact nlt hl)] at eu
                refine ⟨(nI (F i), .int (nI (F i))), ⟨rfl, take p1' (fun i1' g1 g2 g3 => ?_)⟩, eu⟩
                have hF1 := hF i1' g2
                have := nI_inj (by omega) (by omega) (z3.symm.trans g3)
                by_cases w1 : i < i1'
                · exact w1
                · by_cases w2 : i = i1'
                  · rw [w2] at hl
                    omega
                  · have := r2 i1' i (by omega) i1
                    omega
              · rw [if_neg (by rw [z3]; exact nnl (by omega) (by omega))] at eu
                refine ⟨(x, .int (nI (F i))), ⟨rfl, Or.inr ⟨i0, z1, z2, z3, ?_, fun j' hj' i' h1 h2 hh => ?_⟩⟩, eu⟩
                · obtain ⟨j', g1, g2⟩ := z4
                  exact ⟨j', by omega, g2⟩
                · by_cases y : j' = j
                  · rw [y] at hh
                    rw [uniq i' h2 hh]
                    by_cases w1 : i < i0
                    · have := r2 i i0 w1 z2
                      omega
                    · omega
                  · exact z6 j' (by omega) i' h1 h2 hh
        · rw [if_neg (fun y => z ((lsV_lt r2 hF hk i1).mp y))] at eu
          exact ⟨(x, .int (nI (F i))), ⟨rfl, stay (fun i' h1 h2 hh => by have := uniq i' h2 hh; omega)⟩, eu⟩
    · rw [if_pos q] at eu
      have e1 : u j = -1000000 := by
        rw [← huj]
        exact mr_t (by simpa using q)
      exact ⟨(x, .int (mk σ (E j) m)), ⟨rfl, stay (fun i _ h2 hh => by
        rw [e1] at hh
        exact absurd hh.symm (nI_nn (by have := hF i h2; omega)))⟩, eu⟩) (-1000000, w6) ⟨h6, Or.inl ⟨rfl, fun j' hj' => absurd hj' (Nat.not_lt_zero j')⟩⟩
  exact ⟨x, w6', q6, p1, a1⟩
theorem m_lv2 (d : Nat) {n m K e : Nat} {E F : Nat → Nat} {u : Nat → Int32} (hn : n ≤ 12) (he : e ≤ 6) (hm : m < 11) (hR : RV K F u e) : ∀ r k (σ : ax_S) (w4 w5 w6 : Value), c1 w4 → c1 w5 → c1 w6 → k + r = K → mI σ n → σ.1 82 25 = nI e → (∀ j, j < e → σ.1 91 j = nI (E j) ∧ E j < n) → (∀ j, j < e → mr σ (E j) m = u j) → σ.1 82 33 = nI k → (∀ i, i < k → σ.1 97 i = nI (F i)) → ∃ τ : ax_S, ev sO (d + 2) 265 9 [.ref 82, .int (nI m), .int (lsV F k), .int 1, w4, w5, w6] [] σ = some (none, τ) ∧ sm [82, 97] σ τ ∧ (∀ f, f ≠ 33 → τ.1 82 f = σ.1 82 f) ∧ τ.1 82 33 = nI K ∧ ∀ i, i < K → τ.1 97 i = nI (F i)
  | r, k, σ, w4, w5, w6, h4, h5, h6, hk, hi, h25, h91, hu, h33, h97 => by
    obtain ⟨x, w6', q6, p1, a1⟩ := m_lv1 d (w3 := .int 1) rfl hn hi he hm h25 h91 hu hR (show k ≤ K by omega) w6 h6
    have e9 := u_265_82p9 d σ (nI m) (lsV F k) 1 w4 h4 w5 h5 w6 h6
    rw [if_neg (by decide)] at e9
    have e20 := u_265_82p20 d σ (nI m) (lsV F k) (.int 1) rfl x (nI e) w6' q6
    rw [h25, if_neg (nnl (Nat.le_refl _) (by omega))] at e20
    obtain ⟨r1, r2, r3, r4⟩ := hR
    obtain ⟨z1, z2⟩ | ⟨i, z1, z2, z3, z4, z6⟩ := p1
    · rw [if_pos z1] at e20
      have hkK : k = K := by
        by_cases q : k < K
        · obtain ⟨-, j, j1, j2⟩ := r3 k q
          exact absurd j2 (z2 j j1 k (Nat.le_refl _) q)
        · omega
      refine ⟨σ, e9.trans (a1.trans (e20.trans ?_)), sm.rf _ _, fun _ _ => rfl, by rw [h33, hkK], fun i hi => h97 i (by omega)⟩
      rw [u_265_82p9 d σ (nI m) (lsV F k) 0 (.int x) rfl (.int (nI e)) rfl w6' q6, if_pos rfl]
    · have hFi := (r3 i z2).1
      have hik : i = k := by
        obtain ⟨-, j, j1, j2⟩ := r3 k (by omega)
        have := z6 j j1 k (Nat.le_refl _) (by omega) j2
        omega
      subst hik
      match r, hk with
      | 0, hk => exact absurd z2 (by omega)
      | r + 1, hk =>
        rw [if_neg (by rw [z3]; exact nI_nn (by omega)), h33, gd_t (nI_g (show i < 6 by omega) (by omega)), nI_c (show i < 2147483648 by omega), sI_n (x := 82) _ _ (by decide), h33, nI_add1, z3] at e20
        rw [z3] at a1
        obtain ⟨T, hT⟩ : ∃ T, T = sI (sI σ 97 i (nI (F i))) 82 33 (nI (i + 1)) := ⟨_, rfl⟩
        rw [← hT] at e20
        have sT : sm [82, 97] σ T := by rw [hT]; exact ((sm.rf _ _).set _ _ (by decide)).set _ _ (by decide)
        have fT : ∀ f, f ≠ 33 → T.1 82 f = σ.1 82 f := fun f hf => by rw [hT, sI_k _ hf, sI_n _ _ (by decide)]
        obtain ⟨e1, -, -, -, -, -, e7⟩ := m88 (sT.1 88 (by decide))
        obtain ⟨τ, g1, g2, g3, g4, g5⟩ := m_lv2 d hn he hm ⟨r1, r2, r3, r4⟩ r (i + 1) T (.int (nI (F i))) (.int (nI e)) w6' rfl rfl q6 (by omega) (e7 n hi) (by rw [fT 25 (by decide)]; exact h25) (fun j hj => by rw [sT.1 91 (by decide)]; exact h91 j hj) (fun j hj => by rw [e1]; exact hu j hj) (by rw [hT, sI_1]) (fun j hj => by
          rw [hT, sI_n _ _ (by decide)]
          by_cases y : j = i
          · rw [y, sI_1]
          · rw [sI_k _ y]
            exact h97 j (by omega))
        refine ⟨τ, e9.trans (a1.trans (e20.trans ?_)), sT.tr g2, fun f hf => (g3 f hf).trans (fT f hf), g4, g5⟩
        have : lsV F (i + 1) = nI (F i) := by
          unfold lsV
          rw [if_neg (by omega), Nat.add_sub_cancel]
        rw [this] at g1
        exact g1
theorem m_layValues (d : Nat) {σ : ax_S} {n m K e : Nat} {E F : Nat → Nat} {u : Nat → Int32} (hn : n ≤ 12) (he : e ≤ 6) (hm : m < 11) (hR : RV K F u e) (hi : mI σ n) (h25 : σ.1 82 25 = nI e) (h91 : ∀ j, j < e → σ.1 91 j = nI (E j) ∧ E j < n) (hu : ∀ j, j < e → mr σ (E j) m = u j) : ∃ τ : ax_S, cV sO (d + 2) 265 [.ref 82, .int (nI m)] σ = some τ ∧ sm [82, 97] σ τ ∧ (∀ f, f ≠ 33 → τ.1 82 f = σ.1 82 f) ∧ τ.1 82 33 = nI K ∧ ∀ i, i < K → τ.1 97 i = nI (F i) := by
  have sT : sm [82, 97] σ (sI σ 82 33 0) := (sm.rf _ _).set _ _ (by decide)
  obtain ⟨e1, -, -, -, -, -, e7⟩ := m88 (sT.1 88 (by decide))
  obtain ⟨τ, g1, g2, g3, g4, g5⟩ := m_lv2 d hn he hm hR K 0 (sI σ 82 33 0) .null .null .null rfl rfl rfl (by omega) (e7 n hi) (by rw [sI_k _ (by decide)]; exact h25) (fun j hj => by rw [sT.1 91 (by decide)]; exact h91 j hj) (fun j hj => by rw [e1]; exact hu j hj) (sI_1 _ _ _ _) (fun i hi => absurd hi (Nat.not_lt_zero i))
  exact ⟨τ, cV_ev mi_265 ((u_265_82 d σ (nI m)).trans g1) rfl, sT.tr g2, fun f hf => by rw [g3 f hf, sI_k _ hf], g4, g5⟩
