/-! TREES: the reference seeks the least ones -/
/-- the class's number of the reference's tree -/
def qT (e u : Nat) : Nat := ((List.range (allN e)).find? fun t => piT e t == u).getD 0
theorem qT_of {e u : Nat} (h2 : 2 ≤ e) (h6 : e ≤ 6) (hu : u < allN e) : qT e u < allN e ∧ piT e (qT e u) = u := by
  have hm : u ∈ (List.range (allN e)).map (piT e) := (pi_all h2 h6).mem_iff.mpr (List.mem_range.mpr hu)
  obtain ⟨t, ht, e1⟩ := List.mem_map.mp hm
  unfold qT
  cases hf : (List.range (allN e)).find? (fun t => piT e t == u) with
  | none =>
    have := List.find?_eq_none.mp hf t ht
    exact absurd (show (piT e t == u) = true by rw [e1]; exact beq_self_eq_true _) this
  | some t' =>
    have h1 := List.mem_of_find?_eq_some hf
    have h2 := List.find?_some hf
    exact ⟨List.mem_range.mp h1, eq_of_beq h2⟩
theorem piT_inj {e s t : Nat} (h2 : 2 ≤ e) (h6 : e ≤ 6) (hs : s < allN e) (ht : t < allN e) (h : piT e s = piT e t) : s = t := by
  have nd : ((List.range (allN e)).map (piT e)).Nodup := (pi_all h2 h6).nodup_iff.mpr List.nodup_range
  have hp := List.pairwise_iff_getElem.mp (List.pairwise_map.mp nd)
  have key : ∀ a b, a < b → b < allN e → piT e a ≠ piT e b := fun a b hab hb => by
    have := hp a b (by rw [List.length_range]; omega) (by rw [List.length_range]; exact hb) hab
    rw [List.getElem_range, List.getElem_range] at this
    exact this
  by_cases q : s < t
  · exact absurd h (key s t q ht)
  · by_cases y : t < s
    · exact absurd h.symm (key t s y hs)
    · omega
theorem qT_pi {e t : Nat} (h2 : 2 ≤ e) (h6 : e ≤ 6) (ht : t < allN e) : qT e (piT e t) = t := by
  obtain ⟨-, -, -, -, -, hu⟩ := chd_of h2 h6 ht
  obtain ⟨h1, h3⟩ := qT_of h2 h6 hu
  exact piT_inj h2 h6 h1 ht h3
theorem cn_countP (P : Nat → Prop) [DecidablePred P] : ∀ N, cn P N = (List.range N).countP (fun k => decide (P k))
  | 0 => rfl
  | N + 1 => by
    rw [List.range_succ, List.countP_append, List.countP_singleton, cn_s, cn_countP P N]
    by_cases q : P N
    · rw [if_pos q, if_pos (decide_eq_true q)]
    · rw [if_neg q, if_neg (by rw [decide_eq_false q]; decide), Nat.add_zero]
theorem cn_pi {e : Nat} (h2 : 2 ≤ e) (h6 : e ≤ 6) (P Q : Nat → Prop) [DecidablePred P] [DecidablePred Q] (h : ∀ t, t < allN e → (P (piT e t) ↔ Q t)) : cn P (allN e) = cn Q (allN e) := by
  rw [cn_countP, ← (pi_all h2 h6).countP_eq, List.countP_map, cn_countP]
  refine List.countP_congr (fun t ht => ?_)
  show decide (P (piT e t)) = true ↔ decide (Q t) = true
  rw [decide_eq_true_eq, decide_eq_true_eq]
  exact h t (List.mem_range.mp ht)
/-- what the reference's trees hang on -/
def MX (σ : ax_S) (n e : Nat) (E K : Nat → Nat) (F : Nat → Nat → Nat) (u cd : Nat → Nat → Int32) : Prop := n ≤ 12 ∧ 2 ≤ e ∧ e ≤ 6 ∧ mI σ n ∧ σ.1 82 25 = nI e ∧ EC (σ.1 91) E e n ∧ (∀ m, m < 11 → ∀ j, j < e → mr σ (E j) m = u m j) ∧ (∀ m, m < 11 → RV (K m) (F m) (u m) e) ∧ ∀ m, m < 11 → ∀ j, j < e → cd m j = encF (F m) (u m j) (K m)
theorem MX_c {σ τ : ax_S} {n e : Nat} {E K : Nat → Nat} {F : Nat → Nat → Nat} {u cd : Nat → Nat → Int32} (h1 : τ.1 88 = σ.1 88) (h2 : τ.1 91 = σ.1 91) (h3 : τ.1 82 25 = σ.1 82 25) (h : MX σ n e E K F u cd) : MX τ n e E K F u cd := by
  obtain ⟨a1, a2, a3, a4, a5, a6, a7, a8, a9⟩ := h
  obtain ⟨e1, -, -, -, -, -, e7⟩ := m88 h1
  refine ⟨a1, a2, a3, e7 n a4, by rw [h3]; exact a5, by rw [h2]; exact a6, ?_, a8, a9⟩
  rw [e1]
  exact a7
def nB (e : Nat) (K : Nat → Nat) (cd : Nat → Nat → Int32) (t : Nat) : Nat := nS (fun m => if K m = 0 then 0 else nT e t (cd m)) 11
theorem nB_le {e t : Nat} {K : Nat → Nat} {cd : Nat → Nat → Int32} (h2 : 2 ≤ e) (h6 : e ≤ 6) (ht : t < allN e) : nB e K cd t ≤ 55 := nS_le (b := 5) 11 (fun m _ => by
  have := nT_le h2 h6 ht (cd m)
  split <;> omega)
theorem m_changes (d : Nat) {σ : ax_S} {n e t : Nat} {E K : Nat → Nat} {F : Nat → Nat → Nat} {u cd : Nat → Nat → Int32} (h : MX σ n e E K F u cd) (ht : t < allN e) (hL : MLay σ e (piT e t)) : ∃ τ : ax_S, cI sO (d + 4) 263 [.ref 82] σ = some (nI (nB e K cd t), τ) ∧ sm [82, 96, 97] σ τ ∧ ∀ f, f ≠ 33 → τ.1 82 f = σ.1 82 f := by
  obtain ⟨τ, ⟨p1, p2⟩, a1⟩ := loop_P (E := fun m (τ : ax_S) => ev sO (d + 4) 263 4 [.ref 82, .int (nI (nS (fun m => if K m = 0 then 0 else nT e t (cd m)) m)), .int (nI m)] [] τ) (N := 11) (P := fun m τ => sm [82, 96, 97] σ τ ∧ ∀ f, f ≠ 33 → τ.1 82 f = σ.1 82 f) (fun m τ hm hp => by
    obtain ⟨p1, p2⟩ := hp
    obtain ⟨b1', b2, b3, b4, b5, b6, b7, b8, b9⟩ := MX_c (σ := σ) (τ := τ) (p1.1 88 (by decide)) (p1.1 91 (by decide)) (p2 25 (by decide)) h
    have hL2 : MLay τ e (piT e t) := MLay_c hL (p1.1 91 (by decide)) (p1.1 92 (by decide)) (p1.1 93 (by decide)) (p1.1 94 (by decide)) (p1.1 95 (by decide)) (p2 29 (by decide))
    obtain ⟨ρ, g1, g2, g3, -⟩ := m_changesOf d b1' b2 b3 ht hm b4 b5 b6 (b7 m hm) (b8 m hm) (b9 m hm) hL2
    refine ⟨ρ, ⟨p1.tr g2, fun f hf => (g3 f hf).trans (p2 f hf)⟩, ?_⟩
    (try simp only)
    rw [u_263_82p4 d τ _ _, if_pos (show nI m < (11 : Int32) from nlt (N := 11) hm), g1, Option.bind_some, nI_add1]
    have hs : nS (fun m => if K m = 0 then 0 else nT e t (cd m)) m ≤ m * 5 := nS_le (b := 5) m (fun m _ => by
      have := nT_le b2 b3 ht (cd m)
      split <;> omega)
    have h5 := nT_le b2 b3 ht (cd m)
    have e1 : nI (nS (fun m => if K m = 0 then 0 else nT e t (cd m)) m) + nI (if K m = 0 then 0 else nT e t (cd m)) = nI (nS (fun m => if K m = 0 then 0 else nT e t (cd m)) (m + 1)) := nI_pl (by split <;> omega)
    (try simp only)
    rw [e1]) σ ⟨sm.rf _ _, fun _ _ => rfl⟩
  refine ⟨τ, cI_ev mi_263 ((u_263_82 d σ).trans (Eq.trans a1 ?_)) rfl, p1, p2⟩
  (try simp only)
  rw [u_263_82p4 d τ _ _, if_neg (show ¬ nI 11 < (11 : Int32) from nnl (N := 11) (Nat.le_refl _))]
  rfl
/-- what stands of the first T of the reference's trees -/
def GR (σ : ax_S) (g : Nat → Nat) (T : Nat) : Prop := (T = 0 ∧ σ.1 82 34 = -1000000 ∧ σ.1 82 35 = 0) ∨ (0 < T ∧ ∃ L, L ≤ 55 ∧ σ.1 82 34 = nI L ∧ σ.1 82 35 = nI (cn (fun u => g u = L) T) ∧ (∀ u, u < T → L ≤ g u) ∧ (∃ u, u < T ∧ g u = L) ∧ ∀ u, u < T → σ.1 98 u = if g u = L then 1 else 0)
theorem m_sk53 (d : Nat) {σ : ax_S} {N T c : Nat} (hT : T < 945) : ∃ (τ : ax_S) (x4 : Int32), ev sO (d + 5) 260 53 [.ref 82, .int (nI N), .int (nI T), .int (nI c), .int 0] [] σ = ev sO (d + 5) 260 18 [.ref 82, .int (nI N), .int (nI (T + 1)), .int (nI c), .int x4] [] τ ∧ sm [82, 98] σ τ ∧ (∀ f, f ≠ 34 → f ≠ 35 → τ.1 82 f = σ.1 82 f) ∧ τ.1 82 34 = nI c ∧ τ.1 82 35 = 1 ∧ ∀ u, u < T + 1 → τ.1 98 u = if u = T then 1 else 0 := by
  obtain ⟨τ, ⟨p1, p2⟩, a1⟩ := loop_P (E := fun k (τ : ax_S) => ev sO (d + 5) 260 53 [.ref 82, .int (nI N), .int (nI T), .int (nI c), .int (nI k)] [] τ) (N := T) (P := fun k τ => sm [98] σ τ ∧ ∀ u, u < k → τ.1 98 u = 0) (fun k τ hk hp => by
    obtain ⟨p1, p2⟩ := hp
    refine ⟨sI τ 98 k 0, ⟨p1.set _ _ (by decide), fun u hu => ?_⟩, ?_⟩
    · by_cases q : u = k
      · rw [q, sI_1]
      · rw [sI_k _ q]
        exact p2 u (by omega)
    · (try simp only)
      rw [u_260_82p53 d τ _ _ _ _, if_pos (nlt hk), gd_t (nI_g (show k < 945 by omega) (by omega)), nI_c (show k < 2147483648 by omega), nI_add1]) σ ⟨sm.rf _ _, fun u hu => absurd hu (Nat.not_lt_zero u)⟩
  have eu := u_260_82p53 d τ (nI N) (nI T) (nI c) (nI T)
  have e34 : (sI (sI τ 82 34 (nI c)) 82 35 0).1 82 34 = nI c := by rw [sI_k _ (by decide), sI_1]
  have e34b : ∀ z, (sI (sI (sI τ 82 34 (nI c)) 82 35 0) 98 T z).1 82 34 = nI c := fun z => by rw [sI_n _ _ (by decide), e34]
  have e35 : ∀ z, (sI (sI (sI τ 82 34 (nI c)) 82 35 0) 98 T z).1 82 35 = 0 := fun z => by rw [sI_n _ _ (by decide), sI_1]
  rw [if_neg (nnl (Nat.le_refl _) (by omega)), nI_c (show T < 2147483648 by omega), if_pos e34.symm, gd_t (nI_g (show T < 945 by omega) (by omega)), if_pos (e34b 1).symm, nI_add1] at eu
  refine ⟨sI (sI (sI (sI τ 82 34 (nI c)) 82 35 0) 98 T 1) 82 35 1, nI T, Eq.trans a1 (eu.trans ?_), ((((p1.up (by decide)).set _ _ (by decide)).set _ _ (by decide)).set _ _ (by decide)).set _ _ (by decide), fun f f1 f2 => ?_, ?_, sI_1 _ _ _ _, fun u hu => ?_⟩
  · show ev sO (d + 5) 260 18 _ [] (sI (sI (sI (sI τ 82 34 (nI c)) 82 35 0) 98 T 1) 82 35 ((sI (sI (sI τ 82 34 (nI c)) 82 35 0) 98 T 1).1 82 35 + 1)) = _
    rw [e35, show (0 : Int32) + 1 = 1 from rfl]
  · rw [sI_k _ f2, sI_n _ _ (by decide), sI_k _ f2, sI_k _ f1, p1.1 82 (by decide)]
  · rw [sI_k _ (by decide)]
    exact e34b 1
  · rw [sI_n _ _ (by decide)]
    by_cases q : u = T
    · rw [q, sI_1, if_pos rfl]
    · rw [sI_k _ q, sI_n _ _ (by decide), sI_n _ _ (by decide), if_neg q]
      exact p2 u (by omega)
theorem m_seekTrees (d : Nat) {σ : ax_S} {n e : Nat} {E K : Nat → Nat} {F : Nat → Nat → Nat} {u cd : Nat → Nat → Int32} (h : MX σ n e E K F u cd) : ∃ τ : ax_S, cV sO (d + 5) 260 [.ref 82] σ = some τ ∧ sm [82, 92, 93, 94, 95, 96, 97, 98] σ τ ∧ (∀ f, f ≠ 29 → f ≠ 33 → f ≠ 34 → f ≠ 35 → τ.1 82 f = σ.1 82 f) ∧ GR τ (fun u => nB e K cd (qT e u)) (allN e) := by
  have hal := allN_le e
  have h' := h
  obtain ⟨a1, a2, a3, a4, a5, a6, a7, a8, a9⟩ := h
  have eu := u_260_82 d σ
  rw [m_allTrees _ a2 a3 a5, Option.bind_some] at eu
  (try simp only at eu)
  obtain ⟨⟨w3, w4, τ⟩, ⟨q3, q4, p1, p2, p3⟩, b1'⟩ := loop_P (E := fun k (s : Value × Value × ax_S) => ev sO (d + 5) 260 18 [.ref 82, .int (nI (allN e)), .int (nI k), s.1, s.2.1] [] s.2.2) (N := allN e) (P := fun k s => c1 s.1 ∧ c1 s.2.1 ∧ sm [82, 92, 93, 94, 95, 96, 97, 98] σ s.2.2 ∧ (∀ f, f ≠ 29 → f ≠ 33 → f ≠ 34 → f ≠ 35 → s.2.2.1 82 f = σ.1 82 f) ∧ GR s.2.2 (fun u => nB e K cd (qT e u)) k) (fun k s hk hp => by
    obtain ⟨w3, w4, τ⟩ := s
    obtain ⟨q3, q4, p1, p2, p3⟩ := hp
    simp only at q3 q4 p1 p2 p3 ⊢
    obtain ⟨hq, hq2⟩ := qT_of a2 a3 hk
    have hg5 := nB_le (K := K) (cd := cd) a2 a3 hq
    have e18 := u_260_82p18 d τ (nI (allN e)) (nI k) w3 q3 w4 q4
    rw [if_pos (nlt hk)] at e18
    obtain ⟨-, -, -, -, -, hwk⟩ := chk_of a2 a3 hk
    obtain ⟨b, g1, g2, g3, g4⟩ := m_layTree (d + 3) (σ := τ) (e := e) (t := k) a2 a3 (by omega) (by rw [p2 25 (by decide) (by decide) (by decide) (by decide)]; exact a5) hwk
    rw [g1, Option.bind_some] at e18
    have hb : MX b n e E K F u cd := MX_c (by rw [g2.1 88 (by decide), p1.1 88 (by decide)]) (by rw [g2.1 91 (by decide), p1.1 91 (by decide)]) (by rw [g3 25 (by decide), p2 25 (by decide) (by decide) (by decide) (by decide)]) h'
    obtain ⟨c, k1, k2, k3⟩ := m_changes d (σ := b) (t := qT e k) hb hq (by rw [hq2]; exact g4)
    rw [k1, Option.bind_some] at e18
    (try simp only at e18)
    have c34 : c.1 82 34 = τ.1 82 34 := by rw [k3 34 (by decide), g3 34 (by decide)]
    have c35 : c.1 82 35 = τ.1 82 35 := by rw [k3 35 (by decide), g3 35 (by decide)]
    have c98 : c.1 98 = τ.1 98 := by rw [k2.1 98 (by decide), g2.1 98 (by decide)]
    have sc : sm [82, 92, 93, 94, 95, 96, 97, 98] σ c := (p1.tr (g2.up (by decide))).tr (k2.up (by decide))
    have fc : ∀ f, f ≠ 29 → f ≠ 33 → f ≠ 34 → f ≠ 35 → c.1 82 f = σ.1 82 f := fun f f1 f2 f3 f4 => by rw [k3 f f2, g3 f f1, p2 f f1 f2 f3 f4]
    have new : (∀ u, u < k → nB e K cd (qT e k) < nB e K cd (qT e u)) → ev sO (d + 5) 260 18 [.ref 82, .int (nI (allN e)), .int (nI k), w3, w4] [] τ = ev sO (d + 5) 260 53 [.ref 82, .int (nI (allN e)), .int (nI k), .int (nI (nB e K cd (qT e k))), .int 0] [] c → ∃ s' : Value × Value × ax_S, (c1 s'.1 ∧ c1 s'.2.1 ∧ sm [82, 92, 93, 94, 95, 96, 97, 98] σ s'.2.2 ∧ (∀ f, f ≠ 29 → f ≠ 33 → f ≠ 34 → f ≠ 35 → s'.2.2.1 82 f = σ.1 82 f) ∧ GR s'.2.2 (fun u => nB e K cd (qT e u)) (k + 1)) ∧ ev sO (d + 5) 260 18 [.ref 82, .int (nI (allN e)), .int (nI k), w3, w4] [] τ = ev sO (d + 5) 260 18 [.ref 82, .int (nI (allN e)), .int (nI (k + 1)), s'.1, s'.2.1] [] s'.2.2 := fun hlt he1 => by
      obtain ⟨ρ, x4, r1, r2, r3, r4, r5, r6⟩ := m_sk53 d (σ := c) (N := allN e) (T := k) (c := nB e K cd (qT e k)) (by omega)
      refine ⟨(.int (nI (nB e K cd (qT e k))), .int x4, ρ), ⟨rfl, rfl, sc.tr (r2.up (by decide)), fun f f1 f2 f3 f4 => (r3 f f3 f4).trans (fc f f1 f2 f3 f4), Or.inr ⟨by omega, nB e K cd (qT e k), hg5, r4, ?_, fun u hu => ?_, ⟨k, by omega, rfl⟩, fun u hu => ?_⟩⟩, he1.trans r1⟩
      · (try simp only)
        rw [r5, cn_take (P := fun u => nB e K cd (qT e u) = nB e K cd (qT e k)) (T := k) rfl, cn_0 (fun i hi z => by have := hlt i hi; omega)]
        rfl
      · by_cases y : u = k
        · rw [y]
          exact Nat.le_refl _
        · have := hlt u (by omega)
          (try simp only)
          omega
      · (try simp only)
        rw [r6 u hu]
        by_cases y : u = k
        · rw [if_pos y, y, if_pos rfl]
        · have := hlt u (by omega)
          rw [if_neg y, if_neg (by omega)]
    obtain ⟨z1, z2, z3⟩ | ⟨z0, L, z1, z2, z3, z4, z5, z6⟩ := p3
    · rw [c34, if_pos z2] at e18
      exact new (fun u hu => absurd hu (by omega)) e18
    · rw [c34, z2, if_neg (nI_nn (by omega))] at e18
      by_cases y : nB e K cd (qT e k) < L
      · rw [if_pos (nlt y)] at e18
        exact new (fun u hu => by have := z4 u hu; (try simp only at this); omega) e18
      · rw [if_neg (nnl (by omega) (by omega))] at e18
        have g98 := nI_g (show k < 945 by omega) (by omega)
        have h34 : ∀ z, (sI c 98 k z).1 82 34 = nI L := fun z => by rw [sI_n _ _ (by decide), c34, z2]
        have h35 : ∀ z, (sI c 98 k z).1 82 35 = nI (cn (fun u => nB e K cd (qT e u) = L) k) := fun z => by rw [sI_n _ _ (by decide), c35, z3]
        have mkr : ∀ (z v : Int32), ∃ ρ : ax_S, ρ = sI (sI c 98 k z) 82 35 v ∧ sm [82, 92, 93, 94, 95, 96, 97, 98] σ ρ ∧ (∀ f, f ≠ 29 → f ≠ 33 → f ≠ 34 → f ≠ 35 → ρ.1 82 f = σ.1 82 f) ∧ ρ.1 82 34 = nI L ∧ ρ.1 82 35 = v ∧ ∀ u, ρ.1 98 u = if u = k then z else τ.1 98 u := fun z v => by
          refine ⟨_, rfl, (sc.set _ _ (by decide)).set _ _ (by decide), fun f f1 f2 f3 f4 => ?_, ?_, sI_1 _ _ _ _, fun u => ?_⟩
          · rw [sI_k _ f4, sI_n _ _ (by decide)]
            exact fc f f1 f2 f3 f4
          · rw [sI_k _ (by decide)]
            exact h34 _
          · rw [sI_n _ _ (by decide)]
            by_cases x : u = k
            · rw [x, sI_1, if_pos rfl]
            · rw [sI_k _ x, c98, if_neg x]
        by_cases w : nB e K cd (qT e k) = L
        · rw [if_pos (by rw [w]), gd_t g98, nI_c (show k < 2147483648 by omega), h34, if_pos (by rw [w]), h35, nI_add1, nI_add1] at e18
          obtain ⟨ρ, hρ, r1, r2, r3, r4, r5⟩ := mkr 1 (nI (cn (fun u => nB e K cd (qT e u) = L) k + 1))
          rw [← hρ] at e18
          refine ⟨(.int (nI (nB e K cd (qT e k))), w4, ρ), ⟨rfl, q4, r1, r2, Or.inr ⟨by omega, L, z1, r3, ?_, fun u hu => ?_, ⟨k, by omega, w⟩, fun u hu => ?_⟩⟩, e18⟩
          · show ρ.1 82 35 = _
            rw [r4, cn_take (P := fun u => nB e K cd (qT e u) = L) (T := k) w]
          · by_cases x : u = k
            · rw [x]
              show L ≤ nB e K cd (qT e k)
              omega
            · exact z4 u (by omega)
          · show ρ.1 98 u = _
            rw [r5 u]
            by_cases x : u = k
            · rw [if_pos x, x, if_pos w]
            · rw [if_neg x]
              exact z6 u (by omega)
        · have wn : ¬ nI (nB e K cd (qT e k)) = nI L := fun z => w (nI_inj (by omega) (by omega) z)
          rw [if_neg wn, gd_t g98, nI_c (show k < 2147483648 by omega), h34, if_neg wn, h35, nI_add1, Int32.add_zero] at e18
          obtain ⟨ρ, hρ, r1, r2, r3, r4, r5⟩ := mkr 0 (nI (cn (fun u => nB e K cd (qT e u) = L) k))
          rw [← hρ] at e18
          refine ⟨(.int (nI (nB e K cd (qT e k))), w4, ρ), ⟨rfl, q4, r1, r2, Or.inr ⟨by omega, L, z1, r3, ?_, fun u hu => ?_, ?_, fun u hu => ?_⟩⟩, e18⟩
          · show ρ.1 82 35 = _
            rw [r4, cn_skip (P := fun u => nB e K cd (qT e u) = L) (T := k) w]
          · by_cases x : u = k
            · rw [x]
              show L ≤ nB e K cd (qT e k)
              omega
            · exact z4 u (by omega)
          · obtain ⟨u, x1, x2⟩ := z5
            exact ⟨u, by omega, x2⟩
          · show ρ.1 98 u = _
            rw [r5 u]
            by_cases x : u = k
            · rw [if_pos x, x, if_neg w]
            · rw [if_neg x]
              exact z6 u (by omega)) (.null, .null, sI (sI σ 82 34 (-1000000)) 82 35 0) ⟨rfl, rfl, ((sm.rf _ _).set _ _ (by decide)).set _ _ (by decide), fun f _ _ f3 f4 => by (try simp only); rw [sI_k _ f4, sI_k _ f3], Or.inl ⟨rfl, by (try simp only); rw [sI_k _ (by decide), sI_1], sI_1 _ _ _ _⟩⟩
  simp only at q3 q4 p1 p2 p3 b1'
  refine ⟨τ, cV_ev mi_260 (eu.trans (Eq.trans b1' ?_)) rfl, p1, p2, p3⟩
  rw [u_260_82p18 d τ _ _ w3 q3 w4 q4, if_neg (nnl (Nat.le_refl _) (by omega))]
