/-! THE CLASS: a card added; its kitchen told by one row of numbers (0 measures, 1 packets, 2.. measures, 66.. packets, 90.. lifts, heat, long, beat, least) -/
theorem upd_1 (f : Nat → Int32) (k : Nat) (v : Int32) : upd f k v k = v := if_pos rfl
theorem upd_n (f : Nat → Int32) {j k : Nat} (v : Int32) (h : j ≠ k) : upd f k v j = f j := if_neg h
theorem sI_u (σ : ax_S) (a k : Nat) (v : Int32) : (sI σ a k v).1 a = upd (σ.1 a) k v := sR_1 σ a _
theorem s_land (d : Nat) (σ : ax_S) : cI sO d 79 [.ref 61] σ = some (σ.1 61 0, σ) := cI_ev mi_79 (u_79_61 d σ) rfl
theorem s_year (d : Nat) (σ : ax_S) : cI sO d 80 [.ref 61] σ = some (σ.1 61 1, σ) := cI_ev mi_80 (u_80_61 d σ) rfl
theorem s_valueOf (d : Nat) (σ : ax_S) {k : Nat} (hk : k < 11) : cI sO (d + 1) 81 [.ref 61, .int (nI k)] σ = some (σ.1 62 k, σ) := by
  refine cI_ev mi_81 ((u_81_61 d σ _).trans ?_) rfl
  rw [s_isMark, Option.bind_some]
  simp only
  rw [bi_t (mkP_nI hk), if_neg (by decide), gd_t (by rw [nI_i (by omega)]; omega), nI_c (by omega)]
theorem s_add (d : Nat) {σ : ax_S} {n : Nat} (x : Int32) (hs : σ.1 17 0 = nI n) (hn : n < 12) : ∃ τ, cI sO (d + 2) 78 [.ref 17, .ref 61, .int x] σ = some (nI n, τ) ∧ sm [17, 18, 19, 20, 21] σ τ ∧ τ.1 17 0 = nI (n + 1) ∧ τ.1 18 = upd (σ.1 18) n (σ.1 61 0) ∧ τ.1 19 = upd (σ.1 19) n (σ.1 61 1) ∧ τ.1 20 = upd (σ.1 20) n x ∧ ∀ i m, m < 11 → cr τ i m = if i = n then σ.1 62 m else cr σ i m := by
  have key : ∃ ρ, ev sO (d + 2) 78 0 [.ref 17, .ref 61, .int x, .null, .null] [] σ = ev sO (d + 2) 78 55 [.ref 17, .ref 61, .int x, .int (nI n), .int 0] [] ρ ∧ sm [17, 18, 19, 20] σ ρ ∧ ρ.1 17 0 = nI (n + 1) ∧ ρ.1 18 = upd (σ.1 18) n (σ.1 61 0) ∧ ρ.1 19 = upd (σ.1 19) n (σ.1 61 1) ∧ ρ.1 20 = upd (σ.1 20) n x := by
    have hb : 0 ≤ (nI n).toInt ∧ (nI n).toInt < (12 : Nat) := by rw [nI_i (by omega)]; omega
    refine ⟨sI (sI (sI (sI σ 17 0 (nI (n + 1))) 18 n (σ.1 61 0)) 19 n (σ.1 61 1)) 20 n x, ?_, ((((sm.rf _ _).set _ _ (by decide)).set _ _ (by decide)).set _ _ (by decide)).set _ _ (by decide), ?_, ?_, ?_, ?_⟩
    · rw [u_78_17_61]
      simp only [s_isFull _ hs (by omega), Option.bind_some, s_land, s_year, hs, nI_add1]
      rw [bi_f (by omega), if_pos rfl, gd_t hb, gd_t hb, gd_t hb, nI_c (by omega)]
      rfl
    · rw [sI_n _ _ (by decide), sI_n _ _ (by decide), sI_n _ _ (by decide), sI_1]
    · rw [sI_n _ _ (by decide), sI_n _ _ (by decide), sI_u, sI_n _ _ (by decide)]
    · rw [sI_n _ _ (by decide), sI_u, sI_n _ _ (by decide), sI_n _ _ (by decide)]
    · rw [sI_u, sI_n _ _ (by decide), sI_n _ _ (by decide), sI_n _ _ (by decide)]
  obtain ⟨ρ, e0, r1, r2, r3, r4, r5⟩ := key
  have f0 : ρ.1 62 = σ.1 62 := r1.1 62 (by decide)
  have f1 : ρ.1 21 = σ.1 21 := r1.1 21 (by decide)
  obtain ⟨τ, ⟨p1, p2⟩, e⟩ := loop_P (E := fun k (τ : ax_S) => ev sO (d + 2) 78 55 [.ref 17, .ref 61, .int x, .int (nI n), .int (nI k)] [] τ) (N := 11) (P := fun k τ => sm [21] ρ τ ∧ ∀ i m, m < 11 → cr τ i m = if i = n ∧ m < k then σ.1 62 m else cr σ i m) (fun k τ hk hp => by
    obtain ⟨p1, p2⟩ := hp
    have hs2 : τ.1 17 0 = nI (n + 1) := by rw [p1.1 17 (by decide)]; exact r2
    have h62 : τ.1 62 = σ.1 62 := by rw [p1.1 62 (by decide)]; exact f0
    rw [u_78_17_61p55 _ _ _ rfl, if_pos (l11 hk)]
    simp only [s_valueOf _ _ hk, s_putMark _ _ hs2 (show n + 1 ≤ 12 by omega) (Nat.lt_succ_self n) hk, Option.bind_some, nI_add1]
    refine ⟨_, ⟨p1.set _ _ (by decide), fun i m hm => ?_⟩, rfl⟩
    rw [cr_put _ hk i m hm, p2 i m hm, h62]
    by_cases q1 : i = n ∧ m = k
    · rw [if_pos q1, if_pos ⟨q1.1, by omega⟩, q1.2]
    · rw [if_neg q1]
      by_cases q2 : i = n ∧ m < k
      · rw [if_pos q2, if_pos ⟨q2.1, by omega⟩]
      · rw [if_neg q2, if_neg (fun q3 => q2 ⟨q3.1, by have := q3.2; have : m ≠ k := fun q4 => q1 ⟨q3.1, q4⟩; omega⟩)]) ρ ⟨sm.rf _ _, fun i m hm => by rw [if_neg (fun q => Nat.not_lt_zero m q.2)]; unfold cr; rw [f1]⟩
  refine ⟨τ, cI_ev mi_78 (e0.trans (e.trans ?_)) rfl, (r1.up (by decide)).tr (p1.up (by decide)), ?_, ?_, ?_, ?_, fun i m hm => ?_⟩
  · rw [u_78_17_61p55 _ _ _ rfl, if_neg g11]
  · rw [p1.1 17 (by decide)]; exact r2
  · rw [p1.1 18 (by decide)]; exact r3
  · rw [p1.1 19 (by decide)]; exact r4
  · rw [p1.1 20 (by decide)]; exact r5
  · rw [p2 i m hm]
    by_cases q : i = n
    · rw [if_pos q, if_pos ⟨q, hm⟩]
    · rw [if_neg q, if_neg (fun q2 => q q2.1)]
/-- the kitchen's row -/
def kc (σ : ax_S) (i : Nat) : Int32 :=
  if i = 0 then σ.1 8 1 else if i = 1 then σ.1 8 6 else if i < 66 then σ.1 (9 + (i - 2) % 4) ((i - 2) / 4) else if i < 90 then σ.1 (13 + (i - 66) % 3) ((i - 66) / 3) else if i < 98 then σ.1 16 (i - 90) else if i < 102 then σ.1 8 (i - 87) else 0
theorem kc_0 (σ : ax_S) : kc σ 0 = σ.1 8 1 := rfl
theorem kc_1 (σ : ax_S) : kc σ 1 = σ.1 8 6 := rfl
theorem kc_m (σ : ax_S) {k r : Nat} (hk : k < 16) (hr : r < 4) : kc σ (2 + 4 * k + r) = σ.1 (9 + r) k := by
  unfold kc
  rw [if_neg (by omega), if_neg (by omega), if_pos (by omega), show (2 + 4 * k + r - 2) % 4 = r by omega, show (2 + 4 * k + r - 2) / 4 = k by omega]
theorem kc_p (σ : ax_S) {k r : Nat} (hk : k < 8) (hr : r < 3) : kc σ (66 + 3 * k + r) = σ.1 (13 + r) k := by
  unfold kc
  rw [if_neg (by omega), if_neg (by omega), if_neg (by omega), if_pos (by omega), show (66 + 3 * k + r - 66) % 3 = r by omega, show (66 + 3 * k + r - 66) / 3 = k by omega]
theorem kc_l (σ : ax_S) {k : Nat} (hk : k < 8) : kc σ (90 + k) = σ.1 16 k := by
  unfold kc
  rw [if_neg (by omega), if_neg (by omega), if_neg (by omega), if_neg (by omega), if_pos (by omega), show 90 + k - 90 = k by omega]
theorem kc_h (σ : ax_S) : kc σ 98 = σ.1 8 11 := rfl
theorem kc_lo (σ : ax_S) : kc σ 99 = σ.1 8 12 := rfl
theorem kc_b (σ : ax_S) : kc σ 100 = σ.1 8 13 := rfl
theorem kc_le (σ : ax_S) : kc σ 101 = σ.1 8 14 := rfl
/-- the size of a number -/
def ab (x : Int32) : Int32 := if 0 ≤ x then x else 0 - x
/-- what a stained one counts -/
def cz (v : Int32) : Int32 := if v = -1000000 then 0 else v
def lft (K : Nat → Int32) (k : Nat) (v : Int32) : Int32 := if k = 8 then -10 * ab (cz v - K 98) else if k = 9 then -(ab (cz v - K 99)) else if k = 10 then (if K 100 < cz v then K 100 else cz v) else K (90 + k) * cz v
theorem nI_lit {k : Nat} (j : Nat) (hk : k < 2147483648) (hj : j < 2147483648) : nI k = nI j ↔ k = j := ⟨nI_inj hk hj, fun e => by rw [e]⟩
theorem s_liftOf (d : Nat) (σ : ax_S) {k : Nat} (v : Int32) (hk : k < 11) : cI sO (d + 1) 112 [.ref 8, .int (nI k), .int v] σ = some (lft (kc σ) k v, σ) := by
  refine cI_ev mi_112 ((u_112_8 d σ _ _).trans ?_) rfl
  have e8 : nI k = (8 : Int32) ↔ k = 8 := nI_lit 8 (by omega) (by omega)
  have e9 : nI k = (9 : Int32) ↔ k = 9 := nI_lit 9 (by omega) (by omega)
  have e10 : nI k = (10 : Int32) ↔ k = 10 := nI_lit 10 (by omega) (by omega)
  unfold lft
  simp only [e8, e9, e10, kc_h, kc_lo, kc_b]
  by_cases h1 : v = -1000000
  · rw [if_pos h1, show cz v = 0 from if_pos h1]
    by_cases h8 : k = 8
    · rw [if_pos h8, if_pos h8]
      rfl
    · rw [if_neg h8, if_neg h8]
      by_cases h9 : k = 9
      · rw [if_pos h9, if_pos h9]
        rfl
      · rw [if_neg h9, if_neg h9]
        by_cases h10 : k = 10
        · rw [if_pos h10, if_pos h10]
          rfl
        · rw [if_neg h10, if_neg h10, s_isThing, Option.bind_some]
          simp only
          rw [bi_t ⟨by rw [nI_i (by omega)]; omega, by rw [nI_i (by omega)]; omega⟩, if_neg (by decide), gd_t (by rw [nI_i (by omega)]; omega), nI_c (by omega), kc_l _ (by omega)]
  · rw [if_neg h1, show cz v = v from if_neg h1]
    by_cases h8 : k = 8
    · rw [if_pos h8, if_pos h8]
      rfl
    · rw [if_neg h8, if_neg h8]
      by_cases h9 : k = 9
      · rw [if_pos h9, if_pos h9]
        rfl
      · rw [if_neg h9, if_neg h9]
        by_cases h10 : k = 10
        · rw [if_pos h10, if_pos h10]
          rfl
        · rw [if_neg h10, if_neg h10, s_isThing, Option.bind_some]
          simp only
          rw [bi_t ⟨by rw [nI_i (by omega)]; omega, by rw [nI_i (by omega)]; omega⟩, if_neg (by decide), gd_t (by rw [nI_i (by omega)]; omega), nI_c (by omega), kc_l _ (by omega)]
/-- RISE -/
def rse (K : Nat → Int32) (f : Nat → Int32) : Int32 := it (fun k s => s + lft K k (f k)) 11 0
theorem s_riseOf (d : Nat) {σ : ax_S} {n c : Nat} (hs : σ.1 17 0 = nI n) (hn : n ≤ 12) (hc : c < n) : cI sO (d + 2) 111 [.ref 7, .int (nI c)] σ = some (rse (kc σ) (cr σ c), σ) := by
  refine cI_ev mi_111 ((u_111_7 d σ _).trans ?_) rfl
  refine (loop_it (E := fun k (u : Int32) => ev sO (d + 2) 111 4 [.ref 7, .int (nI c), .int u, .int (nI k)] [] σ) (f := fun k s => s + lft (kc σ) k (cr σ c k)) (N := 11) (fun k s hk => ?_) 0).trans ?_
  · rw [u_111_7p4, if_pos (l11 hk)]
    simp only [s_mark _ hs hn hc hk, s_liftOf _ _ _ hk, Option.bind_some, nI_add1]
  · rw [u_111_7p4, if_neg g11]
    rfl
theorem s_least (d : Nat) (σ : ax_S) : cI sO d 114 [.ref 8] σ = some (kc σ 101, σ) := cI_ev mi_114 (u_114_8 d σ) rfl
theorem s_sinks (d : Nat) {σ : ax_S} {n c : Nat} (hs : σ.1 17 0 = nI n) (hn : n ≤ 12) (hc : c < n) : cI sO (d + 3) 113 [.ref 7, .int (nI c)] σ = some (bi (rse (kc σ) (cr σ c) < kc σ 101), σ) := by
  refine cI_ev mi_113 ((u_113_7 d σ _).trans ?_) rfl
  simp only [s_riseOf _ hs hn hc, s_least, Option.bind_some]
  unfold bi
  split <;> rfl
/-- KIND -/
def knd (K mo : Nat → Int32) (row : Nat → Nat → Int32) (c : Nat) : Int32 := if sts (row c) = 0 then (if rse K (row c) < K 101 then 3 else if mo c = -1000000 then 4 else 1) else if mo c = -1000000 then 2 else if unl (row c) (row (mo c).toNatClampNeg) < 2 then 2 else 5
theorem s_kindOf (d : Nat) {σ : ax_S} {n c : Nat} (hs : σ.1 17 0 = nI n) (hn : n ≤ 12) (hm : moP (σ.1 20) n) (hc : c < n) : cI sO (d + 4) 179 [.ref 7, .int (nI c)] σ = some (knd (kc σ) (σ.1 20) (cr σ) c, σ) := by
  refine cI_ev mi_179 ((u_179_7 d σ _).trans ?_) rfl
  have e1 := s_stainsOf (d + 1) hs hn hc
  simp only [e1, s_sinks _ hs hn hc, s_motherOf _ hs hn hc, Option.bind_some, bi_0]
  unfold knd
  by_cases h1 : sts (cr σ c) = 0
  · rw [if_pos h1, if_pos (show it (fun k u => if cr σ c k = -1000000 then u + 1 else u) 11 (0 : Int32) = 0 from h1)]
    by_cases h2 : rse (kc σ) (cr σ c) < kc σ 101
    · rw [if_neg (fun q => q h2), if_pos h2]
    · rw [if_pos h2, if_neg h2]
      split <;> rfl
  · rw [if_neg h1, if_neg (show ¬ it (fun k u => if cr σ c k = -1000000 then u + 1 else u) 11 (0 : Int32) = 0 from h1)]
    obtain e | ⟨i, hi, e⟩ := hm c hc
    · rw [e, if_pos rfl, if_pos rfl]
    · rw [e, if_neg (nI_nn (by omega)), if_neg (nI_nn (by omega)), s_apart _ hs hn hc (show i < n by omega), Option.bind_some, nI_c (by omega)]
      simp only
      split <;> rfl
