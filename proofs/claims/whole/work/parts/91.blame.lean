/-! BLAME: sums of what changed marks add -/
def zs (F : Nat → Int) : Nat → Int
  | 0 => 0
  | k + 1 => zs F k + F k
theorem zs_s (F : Nat → Int) (k : Nat) : zs F (k + 1) = zs F k + F k := rfl
theorem zs_c {F G : Nat → Int} : ∀ {N : Nat}, (∀ k, k < N → F k = G k) → zs F N = zs G N
  | 0, _ => rfl
  | N + 1, h => by rw [zs_s, zs_s, zs_c (fun k hk => h k (Nat.lt_succ_of_lt hk)), h N (Nat.lt_succ_self N)]
theorem zs_add (F G : Nat → Int) : ∀ N, zs (fun k => F k + G k) N = zs F N + zs G N
  | 0 => rfl
  | N + 1 => by
    rw [zs_s, zs_s, zs_s, zs_add F G N]
    omega
theorem zs_bd {F : Nat → Int} {M : Int} : ∀ {N : Nat}, (∀ k, k < N → -M ≤ F k ∧ F k ≤ M) → -(M * N) ≤ zs F N ∧ zs F N ≤ M * N
  | 0, _ => by
    show -(M * (0 : Nat)) ≤ (0 : Int) ∧ (0 : Int) ≤ M * (0 : Nat)
    simp
  | N + 1, h => by
    have h1 := zs_bd (N := N) (fun k hk => h k (Nat.lt_succ_of_lt hk))
    have h2 := h N (Nat.lt_succ_self N)
    rw [zs_s]
    have e : M * ((N + 1 : Nat) : Int) = M * (N : Int) + M := by
      rw [Int.natCast_add, Int.mul_add]
      simp
    rw [e]
    omega
theorem zs_bit {D : Nat → Int} {S T : Nat} {j : Nat} (hs : S.testBit j = true) (h : ∀ k, T.testBit k = (S.testBit k && decide (k ≠ j))) : ∀ N, zs (fun k => if S.testBit k = true then D k else 0) N = zs (fun k => if T.testBit k = true then D k else 0) N + (if j < N then D j else 0)
  | 0 => by
    rw [if_neg (Nat.not_lt_zero j)]
    rfl
  | N + 1 => by
    rw [zs_s, zs_s, zs_bit hs h N]
    by_cases q : N = j
    · have e : T.testBit N = false := by rw [h N, decide_eq_false (fun z => z q), Bool.and_false]
      rw [e, q, hs, if_neg (by omega), if_pos rfl, if_neg (by decide), if_pos (by omega)]
    · have e : T.testBit N = S.testBit N := by rw [h N, decide_eq_true q, Bool.and_true]
      rw [e]
      by_cases q2 : j < N
      · rw [if_pos q2, if_pos (show j < N + 1 by omega)]
        omega
      · rw [if_neg q2, if_neg (show ¬ j < N + 1 by omega)]
        omega
/-- what a kitchen's numbers are good for -/
abbrev kI (K : Nat → Int32) : Prop := ∀ i, 90 ≤ i → i < 102 → 0 ≤ (K i).toInt ∧ (K i).toInt ≤ (if i < 99 then 9 else if i < 101 then 99 else 9999)
abbrev mkV (v : Int32) (k : Nat) : Prop := v = -1000000 ∨ (0 ≤ v.toInt ∧ v.toInt ≤ cap0 k)
theorem cz_b {v : Int32} {k : Nat} (h : mkV v k) : 0 ≤ (cz v).toInt ∧ (cz v).toInt ≤ cap0 k := by
  unfold cz
  obtain q | ⟨q1, q2⟩ := h
  · rw [if_pos q, i_0]
    exact ⟨by omega, cap0_0 k⟩
  · rw [if_neg (i_pos_nn q1)]
    exact ⟨q1, q2⟩
theorem ab_b {x : Int32} {M : Int} (h1 : -M ≤ x.toInt) (h2 : x.toInt ≤ M) (hM : M < 2147483648) : 0 ≤ (ab x).toInt ∧ (ab x).toInt ≤ M := by
  have := i_rng x
  unfold ab
  by_cases q : 0 ≤ x
  · rw [if_pos q]
    rw [i_le, i_0] at q
    omega
  · rw [if_neg q]
    rw [i_le, i_0] at q
    rw [i_sub (by rw [i_0]; omega) (by rw [i_0]; omega), i_0]
    omega
theorem lft_b {K : Nat → Int32} {k : Nat} {v : Int32} (hK : kI K) (hk : k < 11) (hv : mkV v k) : -100000 ≤ (lft K k v).toInt ∧ (lft K k v).toInt ≤ 100000 := by
  obtain ⟨c1, c2⟩ := cz_b hv
  unfold lft
  by_cases k8 : k = 8
  · rw [if_pos k8]
    have k98 := hK 98 (by omega) (by omega)
    rw [if_pos (by omega)] at k98
    have c2 : (cz v).toInt ≤ 9 := by rw [k8] at c2; exact c2
    have e : (cz v - K 98).toInt = (cz v).toInt - (K 98).toInt := i_sub (by omega) (by omega)
    obtain ⟨a1, a2⟩ := ab_b (x := cz v - K 98) (M := 9) (by omega) (by omega) (by omega)
    have e2 : ((-10 : Int32)).toInt = -10 := by decide
    have e3 : (-10 * ab (cz v - K 98)).toInt = -10 * (ab (cz v - K 98)).toInt := by
      rw [i_mul (by rw [e2]; omega) (by rw [e2]; omega), e2]
    rw [e3]
    omega
  · rw [if_neg k8]
    by_cases k9 : k = 9
    · rw [if_pos k9]
      have k99 := hK 99 (by omega) (by omega)
      rw [if_neg (by omega), if_pos (by omega)] at k99
      have c2 : (cz v).toInt ≤ 99 := by rw [k9] at c2; exact c2
      have e : (cz v - K 99).toInt = (cz v).toInt - (K 99).toInt := i_sub (by omega) (by omega)
      obtain ⟨a1, a2⟩ := ab_b (x := cz v - K 99) (M := 99) (by omega) (by omega) (by omega)
      have e3 : (-(ab (cz v - K 99))).toInt = -(ab (cz v - K 99)).toInt := by
        rw [Int32.toInt_neg]
        exact Int.bmod_eq_of_le (by omega) (by omega)
      rw [e3]
      omega
    · rw [if_neg k9]
      by_cases k10 : k = 10
      · rw [if_pos k10]
        have k100 := hK 100 (by omega) (by omega)
        rw [if_neg (by omega), if_pos (by omega)] at k100
        have c2 : (cz v).toInt ≤ 99 := by rw [k10] at c2; exact c2
        split
        · omega
        · omega
      · rw [if_neg k10]
        have kk := hK (90 + k) (by omega) (by omega)
        rw [if_pos (by omega)] at kk
        have c2 : (cz v).toInt ≤ 9999 := by
          unfold cap0 at c2
          rw [if_pos (by omega)] at c2
          exact c2
        have m1 : 0 ≤ (K (90 + k)).toInt * (cz v).toInt := Int.mul_nonneg kk.1 c1
        have m2 : (K (90 + k)).toInt * (cz v).toInt ≤ 9 * 9999 := Int.mul_le_mul kk.2 c2 c1 (by omega)
        rw [i_mul (by omega) (by omega)]
        omega
theorem rse_z {K f : Nat → Int32} (hK : kI K) (hf : ∀ k, k < 11 → mkV (f k) k) : (rse K f).toInt = zs (fun k => (lft K k (f k)).toInt) 11 := by
  have go : ∀ N, N ≤ 11 → (it (fun k s => s + lft K k (f k)) N 0).toInt = zs (fun k => (lft K k (f k)).toInt) N := by
    intro N
    induction N with
    | zero => intro _; rfl
    | succ N ih =>
      intro hN
      have b := zs_bd (F := fun k => (lft K k (f k)).toInt) (M := 100000) (N := N) (fun k hk => lft_b hK (by omega) (hf k (by omega)))
      have b2 := lft_b hK (show N < 11 by omega) (hf N (by omega))
      have ih := ih (by omega)
      rw [it_s, zs_s, i_add (by rw [ih]; omega) (by rw [ih]; omega), ih]
  exact go 11 (Nat.le_refl _)
/-- what a mark's change adds -/
def dlt (K f g : Nat → Int32) (k : Nat) : Int := (lft K k (g k)).toInt - (lft K k (f k)).toInt
theorem rsx_z {K f g : Nat → Int32} {S : Nat} (hK : kI K) (hf : ∀ k, k < 11 → mkV (f k) k) (hg : ∀ k, k < 11 → mkV (g k) k) : (rsx K f g (nI S)).toInt = (rse K f).toInt + zs (fun k => if S.testBit k = true then dlt K f g k else 0) 11 := by
  unfold rsx
  rw [rse_z hK (fun k hk => by
    (try simp only)
    split
    · exact hg k hk
    · exact hf k hk), rse_z hK hf, ← zs_add]
  refine zs_c (fun k hk => ?_)
  simp only [nI_bt S (show k < 32 by omega)]
  cases S.testBit k
  · rw [if_neg (by decide), if_neg (by decide)]
    omega
  · rw [if_pos rfl, if_pos rfl]
    unfold dlt
    omega
/-- the sets of marks that are unlike -/
def unlS (f g : Nat → Int32) : Int32 := it (fun k u => if ulP f g k then u ||| b1 k else u) 11 0
theorem unlS_bt {f g : Nat → Int32} {b : Nat} (hb : b < 32) : bt (unlS f g) b = true ↔ b < 11 ∧ ulP f g b := by
  unfold unlS
  rw [bt_it, bt_0]
  constructor
  · rintro (h | ⟨k, a, p, q⟩)
    · exact absurd h (by decide)
    · rw [bt_1 (by omega) hb] at q
      have := of_decide_eq_true q
      subst this
      exact ⟨a, p⟩
  · rintro ⟨h, p⟩
    exact Or.inr ⟨b, h, p, by rw [bt_1 hb hb]; exact decide_eq_true rfl⟩
/-- a set of them -/
theorem sub_iff {U : Int32} {S : Nat} (hS : S < 2048) : nI S &&& (U ^^^ (-1)) = 0 ↔ ∀ k, k < 11 → S.testBit k = true → bt U k = true := by
  constructor
  · intro h k hk hs
    have := congrArg (fun x => bt x k) h
    simp only [bt_and, bt_xor, bt_m1 (show k < 32 by omega), bt_0, nI_bt S (show k < 32 by omega), hs, Bool.true_and] at this
    cases e : bt U k
    · rw [e] at this
      exact absurd this (by decide)
    · rfl
  · intro h
    apply bt_ext
    intro k hk
    rw [bt_and, bt_xor, bt_m1 hk, bt_0, nI_bt S hk]
    cases e : S.testBit k
    · rfl
    · have hk11 : k < 11 := by
        apply Nat.lt_of_not_le
        intro c
        rw [Nat.testBit_lt_two_pow (Nat.lt_of_lt_of_le hS (Nat.pow_le_pow_right (n := 2) (by omega) c))] at e
        exact absurd e (by decide)
      rw [h k hk11 e]
      rfl
/-- .. by which it sinks -/
abbrev blP (K f g : Nat → Int32) (S : Nat) : Prop := nI S &&& (unlS f g ^^^ (-1)) = 0 ∧ rsx K f g (nI S) < K 101
theorem s_findBlame (d : Nat) {σ : ax_S} {n a b : Nat} (hs : σ.1 17 0 = nI n) (hn : n ≤ 12) (ha : a < n) (hb : b < n) (hK : kI (kc σ)) (hfa : ∀ k, k < 11 → mkV (cr σ a k) k) (hfb : ∀ k, k < 11 → mkV (cr σ b k) k) : ∃ τ, cV sO (d + 3) 116 [.ref 63, .ref 7, .int (nI a), .int (nI b)] σ = some τ ∧ sm [63, 64, 65] σ τ ∧ tkS τ = tkB (blP (kc σ) (cr σ a) (cr σ b)) 2047 := by
  obtain ⟨τ0, b1', b2, b3, b4⟩ := s_begin (d + 2) σ
  have cong : ∀ τ : ax_S, sm [63, 64, 65] σ τ → cr τ = cr σ ∧ kc τ = kc σ ∧ τ.1 17 0 = nI n := fun τ h => by
    refine ⟨?_, kcb_c (σ := σ) (ρ := τ) (a := 8) (fun b h1 h2 => h.1 b (fun q => by simp only [List.mem_cons, List.not_mem_nil, or_false] at q; omega)), by rw [h.1 17 (by decide)]; exact hs⟩
    funext i m
    unfold cr
    rw [h.1 21 (by decide)]
  -- what each mark's change adds
  obtain ⟨⟨w, τ1⟩, ⟨p0, p1, p2⟩, e1⟩ := loop_P (E := fun k (s : Value × ax_S) => ev sO (d + 3) 116 10 [.ref 63, .ref 7, .int (nI a), .int (nI b), .int (it (fun k u => if ulP (cr σ a) (cr σ b) k then u ||| b1 k else u) k 0), .int (nI k), s.1, .null] [] s.2) (N := 11) (P := fun k s => c1 s.1 ∧ sm [64] τ0 s.2 ∧ ∀ j, j < k → ulP (cr σ a) (cr σ b) j → s.2.1 64 j = lft (kc σ) j (cr σ b j) - lft (kc σ) j (cr σ a j)) (fun k s hk hp => by
    obtain ⟨w, τ⟩ := s
    obtain ⟨p0, p1, p2⟩ := hp
    simp only at p0 p1 p2 ⊢
    obtain ⟨ecr, ekc, hsτ⟩ := cong τ ((b2.up (by decide)).tr (p1.up (by decide)))
    rw [u_116_63_7p10 _ _ _ _ _ _ _ p0 _ rfl, if_pos (l11 hk), s_isUnlike d hsτ hn ha hb hk, Option.bind_some]
    simp only [bi_0, nI_add1, ecr]
    by_cases q : ulP (cr σ a) (cr σ b) k
    · rw [if_neg (fun z => z q), s_mark (d + 1) hsτ hn hb hk, Option.bind_some]
      simp only [s_liftOf (d + 1) τ _ hk, Option.bind_some, s_mark (d + 1) hsτ hn ha hk, ecr, ekc]
      rw [gd_t (nI_g (show k < 12 by omega) (by omega)), nI_c (by omega)]
      refine ⟨(.int (lft (kc σ) k (cr σ b k)), sI τ 64 k (lft (kc σ) k (cr σ b k) - lft (kc σ) k (cr σ a k))), ⟨rfl, p1.set _ _ (by decide), fun j hj hu => ?_⟩, ?_⟩
      · by_cases q2 : j = k
        · rw [q2, sI_1]
        · rw [sI_k _ q2]
          exact p2 j (by omega) hu
      · rw [it_s, if_pos q]
        rfl
    · rw [if_pos q]
      refine ⟨(w, τ), ⟨p0, p1, fun j hj hu => ?_⟩, ?_⟩
      · by_cases q2 : j = k
        · exact absurd (q2 ▸ hu) q
        · exact p2 j (by omega) hu
      · rw [it_s, if_neg q]) (.null, τ0) ⟨rfl, sm.rf _ _, fun j hj => absurd hj (Nat.not_lt_zero j)⟩
  simp only at p0 p1 p2 e1
  obtain ⟨ecr1, ekc1, hs1⟩ := cong τ1 ((b2.up (by decide)).tr (p1.up (by decide)))
  have D : ∀ k, k < 11 → -200000 ≤ dlt (kc σ) (cr σ a) (cr σ b) k ∧ dlt (kc σ) (cr σ a) (cr σ b) k ≤ 200000 := fun k hk => by
    have q1 := lft_b hK hk (hfa k hk)
    have q2 := lft_b hK hk (hfb k hk)
    unfold dlt
    omega
  have SB : ∀ S : Nat, -2200000 ≤ zs (fun k => if S.testBit k = true then dlt (kc σ) (cr σ a) (cr σ b) k else 0) 11 ∧ zs (fun k => if S.testBit k = true then dlt (kc σ) (cr σ a) (cr σ b) k else 0) 11 ≤ 2200000 := fun S => by
    have := zs_bd (F := fun k => if S.testBit k = true then dlt (kc σ) (cr σ a) (cr σ b) k else 0) (M := 200000) (N := 11) (fun k hk => by
      (try simp only)
      split
      · exact D k hk
      · omega)
    omega
  have RB : -1100000 ≤ (rse (kc σ) (cr σ a)).toInt ∧ (rse (kc σ) (cr σ a)).toInt ≤ 1100000 := by
    rw [rse_z hK hfa]
    have := zs_bd (F := fun k => (lft (kc σ) k (cr σ a k)).toInt) (M := 100000) (N := 11) (fun k hk => lft_b hK hk (hfa k hk))
    omega
  have LB : 0 ≤ (kc σ 101).toInt ∧ (kc σ 101).toInt ≤ 9999 := by
    have := hK 101 (by omega) (by omega)
    rw [if_neg (by omega), if_neg (by omega)] at this
    exact this
  have TS : (kc σ 101 - rse (kc σ) (cr σ a)).toInt = (kc σ 101).toInt - (rse (kc σ) (cr σ a)).toInt := i_sub (by omega) (by omega)
  -- all sets
  have hp := loop_P (E := fun k (s : Value × ax_S) => ev sO (d + 3) 116 114 [.ref 63, .ref 7, .int (nI a), .int (nI b), .int (unlS (cr σ a) (cr σ b)), .int (kc σ 101 - rse (kc σ) (cr σ a)), .int (nI (k + 1)), s.1] [] s.2) (N := 2047) (P := fun k s => c1 s.1 ∧ sm [63, 65] τ1 s.2 ∧ (∀ S, S ≤ k → nI S &&& (unlS (cr σ a) (cr σ b) ^^^ (-1)) = 0 → (s.2.1 65 S).toInt = zs (fun k => if S.testBit k = true then dlt (kc σ) (cr σ a) (cr σ b) k else 0) 11) ∧ tkS s.2 = tkB (blP (kc σ) (cr σ a) (cr σ b)) k) (fun k s hk hp => by
    obtain ⟨w, τ⟩ := s
    obtain ⟨q1, q2, q3, q4⟩ := hp
    simp only at q1 q2 q3 q4 ⊢
    rw [u_116_63_7p114 _ _ _ rfl _ rfl _ rfl _ _ _ _ q1, if_pos (show nI (k + 1) < (2048 : Int32) from nlt (N := 2048) (by omega))]
    by_cases c : nI (k + 1) &&& (unlS (cr σ a) (cr σ b) ^^^ (-1)) = 0
    · rw [if_pos c, s_ntz, Option.bind_some]
      obtain ⟨j, hj, l1, l2, l3⟩ := lb_n (X := k + 1) (by omega) (by omega)
      have csub := (sub_iff (U := unlS (cr σ a) (cr σ b)) (S := k + 1) (by omega)).mp c
      have hj11 : j < 11 := by
        apply Nat.lt_of_not_le
        intro c
        rw [Nat.testBit_lt_two_pow (Nat.lt_of_lt_of_le (show k + 1 < 2 ^ 11 by omega) (Nat.pow_le_pow_right (by omega) c))] at l2
        exact absurd l2 (by decide)
      have huj := ((unlS_bt (show j < 32 by omega)).mp (csub j hj11 l2)).2
      have hlt := (pc_step (X := k + 1) (by omega) (by omega)).1
      have c' : nI ((k + 1) &&& (k + 1 - 1)) &&& (unlS (cr σ a) (cr σ b) ^^^ (-1)) = 0 := (sub_iff (by omega)).mpr (fun i hi hb => csub i hi (by
        rw [l3 i, Bool.and_eq_true] at hb
        exact hb.1))
      have ej : (τ.1 64 j).toInt = dlt (kc σ) (cr σ a) (cr σ b) j := by
        rw [q2.1 64 (by decide), p2 j (by omega) huj]
        have z1 := lft_b hK hj11 (hfa j hj11)
        have z2 := lft_b hK hj11 (hfb j hj11)
        exact i_sub (by omega) (by omega)
      have em := q3 ((k + 1) &&& (k + 1 - 1)) (by omega) c'
      have ez := zs_bit (D := dlt (kc σ) (cr σ a) (cr σ b)) l2 l3 11
      rw [if_pos hj11] at ez
      have bS := SB ((k + 1) &&& (k + 1 - 1))
      have bj := D j hj11
      have es : (τ.1 65 ((k + 1) &&& (k + 1 - 1)) + τ.1 64 j).toInt = zs (fun i => if (k + 1).testBit i = true then dlt (kc σ) (cr σ a) (cr σ b) i else 0) 11 := by
        rw [i_add (by rw [em, ej]; omega) (by rw [em, ej]; omega), em, ej, ez]
      generalize hv : τ.1 65 ((k + 1) &&& (k + 1 - 1)) + τ.1 64 j = v at es
      have new : ∀ S, S ≤ k + 1 → nI S &&& (unlS (cr σ a) (cr σ b) ^^^ (-1)) = 0 → ((sI τ 65 (k + 1) v).1 65 S).toInt = zs (fun i => if S.testBit i = true then dlt (kc σ) (cr σ a) (cr σ b) i else 0) 11 := fun S hS hc => by
        by_cases q : S = k + 1
        · rw [q, sI_1, es]
        · rw [sI_k _ q]
          exact q3 S (by omega) hc
      have tks : tkS (sI τ 65 (k + 1) v) = tkS τ := by
        unfold tkS
        rw [sI_n _ _ (by decide)]
      have hsink : v < kc σ 101 - rse (kc σ) (cr σ a) ↔ rsx (kc σ) (cr σ a) (cr σ b) (nI (k + 1)) < kc σ 101 := by
        rw [i_lt, i_lt, TS, es, rsx_z hK hfa hfb]
        omega
      simp only [l1, nI_and1 (show k + 1 < 4096 by omega) (show k + 1 ≠ 0 by omega), nI_c (show k + 1 < 2147483648 by omega), nI_c (show (k + 1) &&& (k + 1 - 1) < 2147483648 by omega), nI_c (show j < 2147483648 by omega), hv, sI_1, nI_add1]
      rw [gd_t (nI_g (show (k + 1) &&& (k + 1 - 1) < 4096 by omega) (by omega)), gd_t (nI_g hj (by omega)), gd_t (nI_g (show k + 1 < 4096 by omega) (by omega)), gd_t (nI_g (show k + 1 < 4096 by omega) (by omega))]
      by_cases cs : v < kc σ 101 - rse (kc σ) (cr σ a)
      · obtain ⟨ρ, r1, r2, r3⟩ := s_take (d + 1) (sI τ 65 (k + 1) v) (S := k + 1) (by omega)
        rw [if_pos cs, r1, Option.bind_some]
        refine ⟨(.int (nI j), ρ), ⟨rfl, (q2.set _ _ (by decide)).tr (r2.up (by decide)), fun S hS hc => ?_, ?_⟩, rfl⟩
        · rw [r2.1 65 (by decide)]
          exact new S hS hc
        · rw [r3, tks, q4]
          unfold tkB
          rw [it_s, if_pos ⟨c, hsink.mp cs⟩]
      · rw [if_neg cs]
        refine ⟨(.int (nI j), sI τ 65 (k + 1) v), ⟨rfl, q2.set _ _ (by decide), new, ?_⟩, rfl⟩
        rw [tks, q4]
        unfold tkB
        rw [it_s, if_neg (fun z => cs (hsink.mpr z.2))]
    · rw [if_neg c, nI_add1]
      refine ⟨(w, τ), ⟨q1, q2, fun S hS hc => ?_, ?_⟩, rfl⟩
      · by_cases q : S = k + 1
        · exact absurd (q ▸ hc) c
        · exact q3 S (by omega) hc
      · rw [q4]
        unfold tkB
        rw [it_s, if_neg (fun z => c z.1)]) (.null, τ1) ⟨rfl, sm.rf _ _, fun S hS _ => by
      rw [show S = 0 by omega, p1.1 65 (by decide), b4]
      symm
      have : zs (fun k => if (0 : Nat).testBit k = true then dlt (kc σ) (cr σ a) (cr σ b) k else 0) 11 = zs (fun _ => 0) 11 := zs_c (fun k hk => by rw [Nat.zero_testBit, if_neg (by decide)])
      rw [this]
      rfl, by
      unfold tkS at b3 ⊢
      rw [p1.1 63 (by decide)]
      exact b3⟩
  obtain ⟨⟨w2, τ2⟩, ⟨q1, q2, q3, q4⟩, e2⟩ := hp
  simp only at q1 q2 q3 q4 e2
  refine ⟨τ2, cV_ev mi_116 ((u_116_63_7 d σ _ _).trans ?_) rfl, (b2.up (by decide)).tr ((p1.up (by decide)).tr (q2.up (by decide))), q4⟩
  rw [b1', Option.bind_some]
  refine Eq.trans e1 ?_
  rw [u_116_63_7p10 _ _ _ _ _ _ _ p0 _ rfl, if_neg g11, s_least, Option.bind_some]
  (try simp only)
  rw [s_riseOf d hs1 hn ha, Option.bind_some]
  simp only [ecr1, ekc1]
  refine Eq.trans e2 ?_
  rw [u_116_63_7p114 _ _ _ rfl _ rfl _ rfl _ _ _ _ q1, if_neg (show ¬ nI (2047 + 1) < (2048 : Int32) from nnl (N := 2048) (Nat.le_refl _))]
