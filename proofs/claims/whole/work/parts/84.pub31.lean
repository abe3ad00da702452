/-! THE PUBLIC METHODS, 31: bytes on the tape -/
theorem L_255 (z : Int64) : (z &&& 255).toInt = z.toInt % 256 := by
  have hn : (z.toBitVec &&& 255#64).toNat = z.toBitVec.toNat % 256 := by
    rw [BitVec.toNat_and, show (255#64).toNat = 2 ^ 8 - 1 from rfl, Nat.and_two_pow_sub_one_eq_mod]
  show (z.toBitVec &&& 255#64).toInt = z.toBitVec.toInt % 256
  rw [BitVec.toInt_eq_toNat_cond, BitVec.toInt_eq_toNat_cond, hn]
  have := z.toBitVec.isLt
  split <;> split <;> omega
/-- a byte of a word, as the class keeps it and as the reference does -/
def byC (w : Int64) (x : Int32) : Int32 := (((w >>> ((8 * x).toInt64 &&& 63)).toInt32).toInt8.toInt32).toInt8.toInt32
def byM (w : Int64) (x : Int32) : Int32 := ((w >>> ((8 * x).toInt64 &&& 63)) &&& (255 : Int64)).toInt32
theorem by_r (w : Int64) (x : Int32) : 0 ≤ (byM w x).toInt ∧ (byM w x).toInt ≤ 255 ∧ (byC w x).toInt = (if (byM w x).toInt < 128 then (byM w x).toInt else (byM w x).toInt - 256) := by
  have em : (byM w x).toInt = (w >>> ((8 * x).toInt64 &&& 63)).toInt % 256 := by
    unfold byM
    rw [Int64.toInt_toInt32, L_255]
    exact Int.bmod_eq_of_le (by omega) (by omega)
  have ec : (byC w x).toInt = (((w >>> ((8 * x).toInt64 &&& 63)).toInt.bmod 4294967296).bmod 256).bmod 256 := by
    unfold byC
    rw [Int8.toInt_toInt32, Int32.toInt_toInt8, Int8.toInt_toInt32, Int32.toInt_toInt8, Int64.toInt_toInt32]
  rw [em, ec]
  generalize (w >>> ((8 * x).toInt64 &&& 63)).toInt = z
  refine ⟨by omega, by omega, ?_⟩
  simp only [Int.bmod_def]
  split <;> split <;> split <;> split <;> omega
/-- the tape has new bytes, the rest is as it was -/
theorem RA_tp {σ ρ : ax_S} (h : sm [5, 6, 82, 89] σ ρ) (f1 : ρ.1 82 1 = σ.1 82 1) (f7 : ρ.1 82 7 = σ.1 82 7) (f43 : ρ.1 82 43 = σ.1 82 43) (t : Rt ρ) (r : RA σ) : RA ρ ∧ Fo σ ρ := by
  obtain ⟨r1, r2, r3, -, r5, r6, r7, r8⟩ := r
  obtain ⟨h1, h2⟩ := h
  refine ⟨⟨Rd_c (fun a ha => h1 a ?_) r1, Rk_c (fun a ha => h1 a ?_) f7 r2, Rs_c (fun a ha => h1 a ?_) r3, t, Ri_c (fun a ha => h1 a ?_) r5, Ri_c (fun a ha => h1 a ?_) r6, Rtr_c (fun a ha => h1 a ?_) (by rw [h1 80 (by decide)]) f43 r7, ?_⟩, fun a h3 h4 => h1 a ?_, h2⟩
  · simp only [List.mem_cons, List.not_mem_nil, or_false] at ha ⊢; omega
  · simp only [List.mem_cons, List.not_mem_nil, or_false] at ha ⊢; omega
  · simp only [List.mem_cons, List.not_mem_nil, or_false] at ha ⊢; omega
  · simp only [List.mem_cons, List.not_mem_nil, or_false] at ha ⊢; omega
  · simp only [List.mem_cons, List.not_mem_nil, or_false] at ha ⊢; omega
  · simp only [List.mem_cons, List.not_mem_nil, or_false] at ha ⊢; omega
  · unfold Rf
    rw [f1, h1 0 (by decide)]
    exact r8
  · simp only [List.mem_cons, List.not_mem_nil, or_false]; omega
/-- from k - 1 down, below 0 at the end -/
def xj (k j : Nat) : Int32 := if j < k then nI (k - 1 - j) else -1
theorem xj_s {k j : Nat} (h : j < k) (hk : k < 2147483648) : nI (k - 1 - j) + (-1) = xj k (j + 1) := by
  unfold xj
  apply Int32.toInt_inj.mp
  have e : (-1 : Int32).toInt = -1 := by decide
  rw [i_add (by rw [nI_i (by omega), e]; omega) (by rw [nI_i (by omega), e]; omega), nI_i (by omega), e]
  by_cases q : j + 1 < k
  · rw [if_pos q, nI_i (by omega)]
    omega
  · rw [if_neg q, e]
    omega
theorem s_append (d : Nat) {σ : ax_S} {t k : Nat} (w : Int64) (ht : σ.1 5 1 = nI t) (hk : 1 ≤ k) (htk : t + k ≤ 500) : ∃ τ, cI sO d 29 [.ref 5, .long w, .int (nI k)] σ = some (nI (t + k), τ) ∧ sm [5, 6] σ τ ∧ (∀ f, f ≠ 1 → τ.1 5 f = σ.1 5 f) ∧ τ.1 5 1 = nI (t + k) ∧ (∀ i, i < t → τ.1 6 i = σ.1 6 i) ∧ ∀ u, u < k → τ.1 6 (t + u) = byC w (nI (k - 1 - u)) := by
  obtain ⟨τ, ⟨p1, p2, p3, p4, p5⟩, e⟩ := loop_P (E := fun j (τ : ax_S) => ev sO d 29 5 [.ref 5, .long w, .null, .int (nI k), .int (xj k j)] [] τ) (N := k) (P := fun j τ => sm [5, 6] σ τ ∧ (∀ f, f ≠ 1 → τ.1 5 f = σ.1 5 f) ∧ τ.1 5 1 = nI (t + j) ∧ (∀ i, i < t → τ.1 6 i = σ.1 6 i) ∧ ∀ u, u < j → τ.1 6 (t + u) = byC w (nI (k - 1 - u))) (fun j τ hj hp => by
    obtain ⟨p1, p2, p3, p4, p5⟩ := hp
    refine ⟨sI (sI τ 6 (t + j) (byC w (nI (k - 1 - j)))) 5 1 (nI (t + (j + 1))), ⟨(p1.set _ _ (by decide)).set _ _ (by decide), fun f hf => ?_, sI_1 _ _ _ _, fun i hi => ?_, fun u hu => ?_⟩, ?_⟩
    · rw [sI_k _ hf, sI_n _ _ (by decide)]
      exact p2 f hf
    · rw [sI_n _ _ (by decide), sI_k _ (by omega)]
      exact p4 i hi
    · rw [sI_n _ _ (by decide)]
      by_cases q : u = j
      · rw [q, sI_1]
      · rw [sI_k _ (by omega)]
        exact p5 u (by omega)
    · rw [show xj k j = nI (k - 1 - j) from if_pos hj, u_29_5p5 _ _ _ _ rfl, if_neg (show ¬ nI (k - 1 - j) < 0 from nnl (N := 0) (by omega)), p3, if_pos (show nI (t + j) < (500 : Int32) from nlt (N := 500) (by omega)), gd_t (nI_g (show t + j < 500 by omega) (by omega)), ltb, nI_c (by omega), xj_s hj (by omega), sI_n (x := 5) _ _ (by decide), p3, nI_add1]
      rfl) σ ⟨sm.rf _ _, fun _ _ => rfl, ht, fun _ _ => rfl, fun u hu => absurd hu (Nat.not_lt_zero u)⟩
  refine ⟨τ, cI_ev mi_29 ((u_29_5 d σ _ _).trans ?_) rfl, p1, p2, p3, p4, p5⟩
  rw [show nI k - 1 = xj k 0 from (nI_sub1 (by omega) (by omega)).trans (by unfold xj; rw [if_pos (by omega)]; rfl)]
  refine Eq.trans e ?_
  rw [u_29_5p5 _ _ _ _ rfl, if_pos (show xj k k < 0 by unfold xj; rw [if_neg (by omega)]; decide), p3]
theorem m_feed (d : Nat) {σ : ax_S} {t k : Nat} (w : Int64) (ht : σ.1 82 10 = nI t) (hk : 1 ≤ k) (htk : t + k ≤ 500) : ∃ τ, ev sO (d + 1) 203 42 [.ref 82, .long w, .null, .int (nI k), .int (xj k 0)] [] σ = some (some (.long (nI (t + k)).toInt64), τ) ∧ sm [82, 89] σ τ ∧ (∀ f, f ≠ 10 → τ.1 82 f = σ.1 82 f) ∧ τ.1 82 10 = nI (t + k) ∧ (∀ i, i < t → τ.1 89 i = σ.1 89 i) ∧ ∀ u, u < k → τ.1 89 (t + u) = byM w (nI (k - 1 - u)) := by
  obtain ⟨τ, ⟨p1, p2, p3, p4, p5⟩, e⟩ := loop_P (E := fun j (τ : ax_S) => ev sO (d + 1) 203 42 [.ref 82, .long w, .null, .int (nI k), .int (xj k j)] [] τ) (N := k) (P := fun j τ => sm [82, 89] σ τ ∧ (∀ f, f ≠ 10 → τ.1 82 f = σ.1 82 f) ∧ τ.1 82 10 = nI (t + j) ∧ (∀ i, i < t → τ.1 89 i = σ.1 89 i) ∧ ∀ u, u < j → τ.1 89 (t + u) = byM w (nI (k - 1 - u))) (fun j τ hj hp => by
    obtain ⟨p1, p2, p3, p4, p5⟩ := hp
    refine ⟨sI (sI τ 89 (t + j) (byM w (nI (k - 1 - j)))) 82 10 (nI (t + (j + 1))), ⟨(p1.set _ _ (by decide)).set _ _ (by decide), fun f hf => ?_, sI_1 _ _ _ _, fun i hi => ?_, fun u hu => ?_⟩, ?_⟩
    · rw [sI_k _ hf, sI_n _ _ (by decide)]
      exact p2 f hf
    · rw [sI_n _ _ (by decide), sI_k _ (by omega)]
      exact p4 i hi
    · rw [sI_n _ _ (by decide)]
      by_cases q : u = j
      · rw [q, sI_1]
      · rw [sI_k _ (by omega)]
        exact p5 u (by omega)
    · rw [show xj k j = nI (k - 1 - j) from if_pos hj, u_203_82p42 _ _ _ _ rfl, if_neg (show ¬ nI (k - 1 - j) < 0 from nnl (N := 0) (by omega)), p3, gd_t (nI_g (show t + j < 500 by omega) (by omega)), ltb, nI_c (by omega), xj_s hj (by omega), sI_n (x := 82) _ _ (by decide), p3, nI_add1]
      rfl) σ ⟨sm.rf _ _, fun _ _ => rfl, ht, fun _ _ => rfl, fun u hu => absurd hu (Nat.not_lt_zero u)⟩
  refine ⟨τ, e.trans ?_, p1, p2, p3, p4, p5⟩
  rw [u_203_82p42 _ _ _ _ rfl, if_pos (show xj k k < 0 by unfold xj; rw [if_neg (by omega)]; decide), p3]
theorem t_feed (d : Nat) {σ : ax_S} (w : Int64) (x : Int32) (r : RA σ) : PB d σ 27 203 [.long w, .int x] := by
  obtain ⟨rt0, t, ht, s1, s2, s3⟩ := r.2.2.2.1
  by_cases hb : rgP 1 8 x
  · obtain ⟨k, hk0, ex, ex2⟩ := i_nI (x := x) (by have := hb.1; omega)
    have hk1 : 1 ≤ k := by have := hb.1; omega
    have hk8 : k ≤ 8 := by have := hb.2; omega
    have x1 : ¬ x < 1 := by
      rw [i_ltn x 1 (by omega)]
      have := hb.1
      omega
    have x8 : ¬ (8 : Int32) < x := by
      rw [i_nlt x 8 (by omega)]
      have := hb.2
      omega
    have er : (500 - nI t).toInt = 500 - (t : Int) := by
      rw [i_sub (by rw [nI_i (by omega), lit_i 500 (by omega)]; omega) (by rw [nI_i (by omega), lit_i 500 (by omega)]; omega), nI_i (by omega), lit_i 500 (by omega)]
      rfl
    have hr : cI sO (d + 19) 28 [.ref 5, .int x] σ = some (if (500 : Int32) - nI t < x then 0 else 1, σ) := by
      refine cI_ev mi_28 ((u_28_5 _ σ _).trans ?_) rfl
      rw [s1]
      split <;> rfl
    have hM : (500 : Int32) < nI t + x ↔ (500 : Int32) - nI t < x := by
      rw [ex, nI_pl (by omega), i_lt, i_lt, er, nI_i (by omega), nI_i (by omega), lit_i 500 (by omega)]
      omega
    by_cases hf : (500 : Int32) - nI t < x
    · refine AK.pb ⟨-9000000000000000003, sI σ 82 0 0, cL_ev mi_27 ((u_27_0 _ σ _ _).trans ?_) rfl, cL_ev mi_203 ((u_203_82 _ σ _ _).trans ?_) rfl, Sc_0 σ⟩ r
      · rw [if_neg x1, if_neg x8, hr, Option.bind_some, if_pos hf]
        simp only
        rw [if_pos trivial]
      · simp only [m_in, l_i, show (1 : Int64).toInt = 1 by decide, show (8 : Int64).toInt = 8 by decide, Option.bind_some, bi_0]
        rw [if_neg (fun q => q hb), sI_k _ (by decide), s2, if_pos (hM.mpr hf)]
    · have htk : t + k ≤ 500 := by
        rw [i_lt, er, ex2] at hf
        omega
      obtain ⟨τ, a1, a2, a3, a4, a5, a6⟩ := s_append (d + 19) w s1 hk1 htk
      have e82 : (sI τ 82 0 0).1 82 10 = nI t := by rw [sI_k _ (by decide), a2.1 82 (by decide)]; exact s2
      obtain ⟨ρ, b1', b2, b3, b4, b5, b6⟩ := m_feed (d + 19) w e82 hk1 htk
      have g82 : ∀ f, f ≠ 10 → f ≠ 0 → ρ.1 82 f = σ.1 82 f := fun f h1 h2 => by rw [b3 f h1, sI_k _ h2, a2.1 82 (by decide)]
      have g5 : ρ.1 5 = τ.1 5 := by rw [b2.1 5 (by decide), sI_n _ _ (by decide)]
      have g6 : ρ.1 6 = τ.1 6 := by rw [b2.1 6 (by decide), sI_n _ _ (by decide)]
      have rt : Rt ρ := by
        refine ⟨by rw [g82 11 (by decide) (by decide), g5, a3 2 (by decide)]; exact rt0, t + k, htk, by rw [g5]; exact a4, b4, fun i hi => ?_⟩
        by_cases q : i < t
        · rw [g6, a5 i q, b5 i q, sI_n _ _ (by decide), a2.1 89 (by decide)]
          exact s3 i q
        · obtain ⟨u, hu⟩ : ∃ u, i = t + u := ⟨i - t, by omega⟩
          rw [g6, hu, a6 u (by omega), b6 u (by omega)]
          exact by_r w _
      obtain ⟨z1, z2⟩ := RA_tp (((a2.up (by decide)).set _ _ (by decide)).tr (b2.up (by decide))) (g82 1 (by decide) (by decide)) (g82 7 (by decide) (by decide)) (g82 43 (by decide) (by decide)) rt r
      refine ⟨(nI (t + k)).toInt64, τ, ρ, cL_ev mi_27 ((u_27_0 _ σ _ _).trans ?_) rfl, cL_ev mi_203 ((u_203_82 _ τ _ _).trans ?_) rfl, z1, z2⟩
      · rw [if_neg x1, if_neg x8, hr, Option.bind_some, if_neg hf]
        simp only
        rw [if_neg (by decide), ex, a1, Option.bind_some]
      · simp only [m_in, l_i, show (1 : Int64).toInt = 1 by decide, show (8 : Int64).toInt = 8 by decide, Option.bind_some, bi_0]
        rw [if_neg (fun q => q hb), e82, if_neg (fun q => hf (hM.mp q)), ex, show nI k - 1 = xj k 0 from (nI_sub1 (by omega) (by omega)).trans (by unfold xj; rw [if_pos (by omega)]; rfl), b1']
  · refine AK.pb ⟨BADv, sI σ 82 0 0, cL_ev mi_27 ((u_27_0 _ σ _ _).trans ?_) rfl, cL_ev mi_203 ((u_203_82 _ σ _ _).trans ?_) rfl, Sc_0 σ⟩ r
    · split
      · rfl
      · rename_i q1
        rw [if_pos]
        rw [i_ltn x 1 (by omega)] at q1
        rw [i_nlt x 8 (by omega)]
        apply Int.lt_of_not_ge
        exact fun z => hb ⟨by omega, z⟩
    · simp only [m_in, l_i, show (1 : Int64).toInt = 1 by decide, show (8 : Int64).toInt = 8 by decide, Option.bind_some, bi_0]
      rw [if_pos hb]
