/-! TREES: the reference counts changes, all of it -/
def mayF (K : Nat) (F : Nat → Nat) (v : Int32) : Nat → Int32
  | 0 => (1 <<< (nI K &&& 31)) - 1
  | k + 1 => if v ≠ -1000000 ∧ v = nI (F k) then 1 <<< (nI k &&& 31) else mayF K F v k
def encN : Nat → Int32
  | 0 => 0
  | i + 1 => encN i ||| (1 <<< (nI i &&& 31))
theorem encN_v {k : Nat} (h : k ≤ 6) : encN k = (1 <<< (nI k &&& 31)) - 1 := by
  have : k = 0 ∨ k = 1 ∨ k = 2 ∨ k = 3 ∨ k = 4 ∨ k = 5 ∨ k = 6 := by omega
  obtain q | q | q | q | q | q | q := this <;> rw [q] <;> rfl
theorem enc_none (F : Nat → Nat) : ∀ k, encF F (-1000000) k = encN k
  | 0 => rfl
  | k + 1 => by
    show (if (-1000000 : Int32) = -1000000 ∨ _ then encF F (-1000000) k ||| _ else _) = encN k ||| _
    rw [if_pos (Or.inl rfl), enc_none F k]
theorem may_none (K : Nat) (F : Nat → Nat) : ∀ k, mayF K F (-1000000) k = (1 <<< (nI K &&& 31)) - 1
  | 0 => rfl
  | k + 1 => by
    show (if (-1000000 : Int32) ≠ -1000000 ∧ _ then _ else mayF K F (-1000000) k) = _
    rw [if_neg (fun z => z.1 rfl), may_none K F k]
theorem enc_val {F : Nat → Nat} {K i : Nat} (hinc : ∀ a b, a < b → b < K → F a < F b) (hF : ∀ i, i < K → F i < 10000) (hi : i < K) : ∀ k, k ≤ K → encF F (nI (F i)) k = if k ≤ i then (0 : Int32) else 1 <<< (nI i &&& 31)
  | 0, _ => by rw [if_pos (Nat.zero_le _)]; rfl
  | k + 1, hk => by
    have ih := enc_val hinc hF hi k (by omega)
    have h1 := hF i hi
    have h2 := hF k (by omega)
    show (if nI (F i) = -1000000 ∨ nI (F i) = nI (F k) then encF F (nI (F i)) k ||| _ else encF F (nI (F i)) k) = _
    by_cases q : k = i
    · subst q
      rw [if_pos (Or.inr rfl), ih, if_pos (Nat.le_refl _), if_neg (by omega), Int32.zero_or]
    · have hne : ¬ (nI (F i) = -1000000 ∨ nI (F i) = nI (F k)) := fun z => by
        obtain z | z := z
        · exact nI_nn (by omega) z
        · have := nI_inj (by omega) (by omega) z
          by_cases y : k < i
          · have := hinc k i y hi
            omega
          · have := hinc i k (by omega) (by omega)
            omega
      rw [if_neg hne, ih]
      by_cases y : k ≤ i
      · rw [if_pos y, if_pos (by omega)]
      · rw [if_neg y, if_neg (by omega)]
theorem may_val {F : Nat → Nat} {K i : Nat} (hinc : ∀ a b, a < b → b < K → F a < F b) (hF : ∀ i, i < K → F i < 10000) (hi : i < K) : ∀ k, k ≤ K → mayF K F (nI (F i)) k = if k ≤ i then (1 <<< (nI K &&& 31)) - 1 else 1 <<< (nI i &&& 31)
  | 0, _ => by rw [if_pos (Nat.zero_le _)]; rfl
  | k + 1, hk => by
    have ih := may_val hinc hF hi k (by omega)
    have h1 := hF i hi
    have h2 := hF k (by omega)
    show (if nI (F i) ≠ -1000000 ∧ nI (F i) = nI (F k) then _ else mayF K F (nI (F i)) k) = _
    by_cases q : k = i
    · subst q
      rw [if_pos ⟨nI_nn (by omega), rfl⟩, if_neg (by omega)]
    · have hne : ¬ (nI (F i) ≠ -1000000 ∧ nI (F i) = nI (F k)) := fun z => by
        have := nI_inj (by omega) (by omega) z.2
        by_cases y : k < i
        · have := hinc k i y hi
          omega
        · have := hinc i k (by omega) (by omega)
          omega
      rw [if_neg hne, ih]
      by_cases y : k ≤ i
      · rw [if_pos y, if_pos (by omega)]
      · rw [if_neg y, if_neg (by omega)]
theorem may_enc {F : Nat → Nat} {K e j : Nat} {u : Nat → Int32} (h : RV K F u e) (he : e ≤ 6) (hj : j < e) : mayF K F (u j) K = encF F (u j) K := by
  obtain ⟨r1, r2, r3, r4⟩ := h
  obtain z | ⟨i, z1, z2⟩ := r4 j hj
  · rw [z, may_none, enc_none, encN_v (by omega)]
  · have hF : ∀ i, i < K → F i < 10000 := fun i hi => (r3 i hi).1
    rw [z2, may_val r2 hF z1 K (Nat.le_refl _), enc_val r2 hF z1 K (Nat.le_refl _), if_neg (by omega), if_neg (by omega)]
theorem m_cf0 (d : Nat) {σ : ax_S} {n m K e j : Nat} {E F : Nat → Nat} {u : Nat → Int32} (hn : n ≤ 12) (he : e ≤ 6) (hm : m < 11) (hj : j < e) (hK : K ≤ 6) (hi : mI σ n) (h25 : σ.1 82 25 = nI e) (hE : EC (σ.1 91) E e n) (hu : ∀ j, j < e → mr σ (E j) m = u j) (h33 : σ.1 82 33 = nI K) (h97 : ∀ i, i < K → σ.1 97 i = nI (F i)) (w3 w4 w5 : Value) (h3 : c1 w3) (h4 : c1 w4) (h5 : c1 w5) : ∃ τ : ax_S, ev sO (d + 3) 264 16 [.ref 82, .int (nI m), .int (nI j), w3, w4, w5] [] σ = ev sO (d + 3) 264 16 [.ref 82, .int (nI m), .int (nI (j + 1)), .int (nI K), w4, w5] [] τ ∧ sm [96] σ τ ∧ τ.1 96 j = mayF K F (u j) K ∧ ∀ x, x ≠ j → τ.1 96 x = σ.1 96 x := by
  have eu := u_264_82p16 d σ (nI m) (nI j) w3 h3 w4 h4 w5 h5
  rw [h25, if_pos (nlt hj), gd_t (nI_g (show j < 11 by omega) (by omega)), nI_c (show j < 2147483648 by omega), h33] at eu
  obtain ⟨v1, v2⟩ := hE.1 j hj
  obtain ⟨τ, ⟨p1, p2, p3⟩, a1⟩ := loop_P (E := fun k (ρ : ax_S) => ev sO (d + 3) 264 40 [.ref 82, .int (nI m), .int (nI j), .int (nI k), w4, w5] [] ρ) (N := K) (P := fun k ρ => sm [96] σ ρ ∧ ρ.1 96 j = mayF K F (u j) k ∧ ∀ x, x ≠ j → ρ.1 96 x = σ.1 96 x) (fun k ρ hk hp => by
    obtain ⟨p1, p2, p3⟩ := hp
    obtain ⟨e1, -, -, -, e5, e6, -⟩ := m88 (p1.1 88 (by decide))
    have kn := mr_kn hi v2 hm
    have huj := hu j hj
    have g11 := nI_g (show j < 11 by omega) (by omega)
    have e40 := u_264_82p40 d ρ (nI m) (nI j) (nI k) w4 h4 w5 h5
    rw [p1.1 82 (by decide), h33, if_pos (nlt hk), gd_t (nI_g (show j < 6 by omega) (by omega)), nI_c (show j < 2147483648 by omega), p1.1 91 (by decide), v1, m_isKnown _ _ (show E j < 12 by omega) hm, Option.bind_some] at e40
    simp only [bi_0, nI_add1, e5, nI_c (show k < 2147483648 by omega)] at e40
    have keep : ¬ (u j ≠ -1000000 ∧ u j = nI (F k)) → sm [96] σ (sI ρ 96 j (ρ.1 96 j)) ∧ (sI ρ 96 j (ρ.1 96 j)).1 96 j = mayF K F (u j) (k + 1) ∧ ∀ x, x ≠ j → (sI ρ 96 j (ρ.1 96 j)).1 96 x = σ.1 96 x := fun hne => by
      refine ⟨p1.set _ _ (by decide), ?_, fun x hx => by rw [sI_k _ hx]; exact p3 x hx⟩
      rw [sI_1, p2]
      show _ = if u j ≠ -1000000 ∧ u j = nI (F k) then _ else mayF K F (u j) k
      rw [if_neg hne]
    by_cases q : bt (ms σ (E j)) m = false
    · rw [if_neg (fun z => z q), gd_t (nI_g (show j < 6 by omega) (by omega)), p1.1 91 (by decide), v1, m_mark _ _ (show E j < 12 by omega) hm, Option.bind_some] at e40
      simp only [e6] at e40
      have e2 : mk σ (E j) m = u j := by rw [← huj, mr_f q]
      have une : u j ≠ -1000000 := by rw [← huj]; exact kn.mp q
      rw [e2, gd_t (nI_g (show k < 6 by omega) (by omega)), p1.1 97 (by decide), h97 k hk] at e40
      by_cases z : u j = nI (F k)
      · rw [if_pos z, gd_t g11] at e40
        refine ⟨sI ρ 96 j (1 <<< (nI k &&& 31)), ⟨p1.set _ _ (by decide), ?_, fun x hx => by rw [sI_k _ hx]; exact p3 x hx⟩, e40⟩
        rw [sI_1]
        show _ = if u j ≠ -1000000 ∧ u j = nI (F k) then _ else mayF K F (u j) k
        rw [if_pos ⟨une, z⟩]
      · rw [if_neg z, gd_t g11, gd_t g11] at e40
        exact ⟨_, keep (fun y => z y.2), e40⟩
    · rw [if_pos q, gd_t g11, gd_t g11] at e40
      have une : u j = -1000000 := by
        rw [← huj]
        exact mr_t (by simpa using q)
      exact ⟨_, keep (fun y => y.1 une), e40⟩) (sI σ 96 j ((1 <<< (nI K &&& 31)) - 1)) ⟨(sm.rf _ _).set _ _ (by decide), sI_1 _ _ _ _, fun x hx => sI_k _ hx⟩
  refine ⟨τ, eu.trans (Eq.trans a1 ?_), p1, p2, p3⟩
  (try simp only)
  rw [u_264_82p40 d τ (nI m) (nI j) (nI K) w4 h4 w5 h5, p1.1 82 (by decide), h33, if_neg (nnl (Nat.le_refl _) (by omega)), nI_add1]
theorem m_changesOf (d : Nat) {σ : ax_S} {n m K e t : Nat} {E F : Nat → Nat} {u W : Nat → Int32} (hn : n ≤ 12) (h2 : 2 ≤ e) (he : e ≤ 6) (ht : t < allN e) (hm : m < 11) (hi : mI σ n) (h25 : σ.1 82 25 = nI e) (hE : EC (σ.1 91) E e n) (hu : ∀ j, j < e → mr σ (E j) m = u j) (hR : RV K F u e) (hW : ∀ j, j < e → W j = encF F (u j) K) (hL : MLay σ e (piT e t)) : ∃ τ : ax_S, cI sO (d + 3) 264 [.ref 82, .int (nI m)] σ = some (nI (if K = 0 then 0 else nT e t W), τ) ∧ sm [82, 96, 97] σ τ ∧ (∀ f, f ≠ 33 → τ.1 82 f = σ.1 82 f) ∧ τ.1 82 33 = nI K ∧ (∀ i, i < K → τ.1 97 i = nI (F i)) ∧ (K ≠ 0 → τ.1 96 (mTree e (piT e t)).2.2.2 = tpT e t W) := by
  have eu := u_264_82 d σ (nI m)
  obtain ⟨a, a1, a2, a3, a4, a5⟩ := m_layValues d hn he hm hR hi h25 hE.1 hu
  rw [a1, Option.bind_some, a4] at eu
  have hK6 : K ≤ 6 := Nat.le_trans hR.1 he
  by_cases q : K = 0
  · rw [if_pos (by rw [q]; rfl)] at eu
    refine ⟨a, ?_, a2.up (by decide), a3, a4, a5, fun z => absurd q z⟩
    rw [if_pos q]
    exact cI_ev mi_264 eu rfl
  · rw [if_neg (show ¬ nI K = (0 : Int32) from fun z => q (nI_inj (b := 0) (by omega) (by omega) z))] at eu
    obtain ⟨e1, -, -, -, e5, e6, e7⟩ := m88 (a2.1 88 (by decide))
    have b25 : a.1 82 25 = nI e := by rw [a3 25 (by decide)]; exact h25
    have b91 : a.1 91 = σ.1 91 := a2.1 91 (by decide)
    obtain ⟨⟨w, b⟩, ⟨q3, p1, p2⟩, r1⟩ := loop_P (E := fun j (s : Value × ax_S) => ev sO (d + 3) 264 16 [.ref 82, .int (nI m), .int (nI j), s.1, .null, .null] [] s.2) (N := e) (P := fun j s => c1 s.1 ∧ sm [96] a s.2 ∧ ∀ i, i < j → s.2.1 96 i = encF F (u i) K) (fun j s hj hp => by
      obtain ⟨w, ρ⟩ := s
      obtain ⟨q3, p1, p2⟩ := hp
      simp only at q3 p1 p2 ⊢
      obtain ⟨f1, -, -, -, -, -, f7⟩ := m88 (p1.1 88 (by decide))
      obtain ⟨τ, g1, g2, g3, g4⟩ := m_cf0 d (σ := ρ) (n := n) (m := m) (K := K) (e := e) (j := j) (E := E) (F := F) (u := u) hn he hm hj hK6 (f7 n (e7 n hi)) (by rw [p1.1 82 (by decide)]; exact b25) (by rw [p1.1 91 (by decide), b91]; exact hE) (fun j hj => by rw [f1, e1]; exact hu j hj) (by rw [p1.1 82 (by decide)]; exact a4) (fun i hi => by rw [p1.1 97 (by decide)]; exact a5 i hi) w .null .null q3 rfl rfl
      refine ⟨(.int (nI K), τ), ⟨rfl, p1.tr g2, fun i hi => ?_⟩, g1⟩
      (try simp only)
      by_cases y : i = j
      · rw [y, g3]
        exact may_enc hR he hj
      · rw [g4 i y]
        exact p2 i (by omega)) (.null, a) ⟨rfl, sm.rf _ _, fun i hi => absurd hi (Nat.not_lt_zero i)⟩
    simp only at q3 p1 p2 r1
    have e16 := u_264_82p16 d b (nI m) (nI e) w q3 .null rfl .null rfl
    rw [p1.1 82 (by decide), b25, if_neg (nnl (Nat.le_refl _) (by omega))] at e16
    have hLb : MLay b e (piT e t) := MLay_c hL (by rw [p1.1 91 (by decide), b91]) (by rw [p1.1 92 (by decide), a2.1 92 (by decide)]) (by rw [p1.1 93 (by decide), a2.1 93 (by decide)]) (by rw [p1.1 94 (by decide), a2.1 94 (by decide)]) (by rw [p1.1 95 (by decide), a2.1 95 (by decide)]) (by rw [p1.1 82 (by decide), a3 29 (by decide)])
    obtain ⟨τ, g1, g2, g3⟩ := m_cf2 d (e := e) (t := piT e t) (n := n) (E := E) (.int (nI m)) rfl hn he (e - 1) 0 0 (b.1 96) b .null .null rfl rfl (by omega) hLb (by rw [p1.1 82 (by decide)]; exact b25) (by rw [p1.1 91 (by decide), b91]; exact hE) (fun _ _ => rfl)
    rw [List.drop_zero, Nat.zero_add (rnN fF _ _)] at g1
    rw [List.drop_zero] at g3
    obtain ⟨t1, t2⟩ := ref_tree h2 he ht (b.1 96) W (fun j hj => by rw [hW j hj]; exact p2 j hj)
    have top : (mTree e (piT e t)).2.2.2 < 11 := hL.1.1.2.2.2
    refine ⟨τ, ?_, (a2.up (by decide)).tr ((p1.up (by decide)).tr (g2.up (by decide))), fun f hf => ?_, ?_, fun i hi => ?_, fun _ => ?_⟩
    · rw [if_neg q, ← t1]
      exact cI_ev mi_264 (eu.trans (Eq.trans r1 (e16.trans g1))) rfl
    · rw [g2.1 82 (by decide), p1.1 82 (by decide)]
      exact a3 f hf
    · rw [g2.1 82 (by decide), p1.1 82 (by decide)]
      exact a4
    · rw [g2.1 97 (by decide), p1.1 97 (by decide)]
      exact a5 i hi
    · rw [g3 _ top]
      exact t2
