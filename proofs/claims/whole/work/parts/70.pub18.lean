/-! THE PUBLIC METHODS, 18: a book -/
/-- the CARDS for which a CARD is enough -/
def nr (row : Nat → Nat → Int32) (dd : Int32) (n c : Nat) : Int32 := it (fun k u => if k = c ∨ ¬ dd < unl (row c) (row k) then u ||| b1 k else u) n 0
def nr2 (row : Nat → Nat → Int32) (dd : Int32) (n c : Nat) : Int32 := it (fun k u => if ¬ dd < unl (row c) (row k) then u ||| b1 k else u) n (b1 c)
theorem nr_bt {row : Nat → Nat → Int32} {dd : Int32} {n c b : Nat} (hn : n ≤ 12) (hb : b < 32) : bt (nr row dd n c) b = true ↔ b < n ∧ (b = c ∨ ¬ dd < unl (row c) (row b)) := by
  unfold nr
  rw [bt_it, bt_0]
  constructor
  · rintro (h | ⟨k, a, p, q⟩)
    · exact absurd h (by decide)
    · rw [bt_1 (by omega) hb] at q
      have := of_decide_eq_true q
      subst this
      exact ⟨a, p⟩
  · rintro ⟨h, p⟩
    exact Or.inr ⟨b, h, p, by rw [bt_1 hb hb]; exact decide_eq_true rfl⟩
theorem nr2_bt {row : Nat → Nat → Int32} {dd : Int32} {n c b : Nat} (hn : n ≤ 12) (hc : c < n) (hb : b < 32) : bt (nr2 row dd n c) b = true ↔ b < n ∧ (b = c ∨ ¬ dd < unl (row c) (row b)) := by
  unfold nr2
  rw [bt_it, bt_1 (by omega) hb]
  constructor
  · rintro (h | ⟨k, a, p, q⟩)
    · have := of_decide_eq_true h
      subst this
      exact ⟨hc, Or.inl rfl⟩
    · rw [bt_1 (by omega) hb] at q
      have := of_decide_eq_true q
      subst this
      exact ⟨a, Or.inr p⟩
  · rintro ⟨h, p | p⟩
    · exact Or.inl (decide_eq_true p)
    · exact Or.inr ⟨b, h, p, by rw [bt_1 hb hb]; exact decide_eq_true rfl⟩
theorem nr_e {row row' : Nat → Nat → Int32} {dd : Int32} {n c : Nat} (hn : n ≤ 12) (hc : c < n) (h : ∀ j, j < n → eqR (row j) (row' j)) : nr2 row' dd n c = nr row dd n c := bt_eq (fun b hb => by
  rw [nr_bt hn hb, nr2_bt hn hc hb]
  constructor
  · rintro ⟨a, p⟩
    exact ⟨a, p.imp id (fun q => by rw [unl_c (h c hc) (h b a)]; exact q)⟩
  · rintro ⟨a, p⟩
    exact ⟨a, p.imp id (fun q => by rw [← unl_c (h c hc) (h b a)]; exact q)⟩)
/-- what a set is enough for -/
def cov (F : Nat → Int32) (N S : Nat) : Int32 := it (fun k u => if S.testBit k = true then u ||| F k else u) N 0
theorem cov_bt {F : Nat → Int32} {N S b : Nat} : bt (cov F N S) b = true ↔ ∃ k, k < N ∧ S.testBit k = true ∧ bt (F k) b = true := by
  unfold cov
  rw [bt_it, bt_0]
  exact ⟨fun h => h.elim (fun q => absurd q (by decide)) id, fun h => Or.inr h⟩
theorem cov_n {F G : Nat → Int32} {n S : Nat} (hn : n ≤ 12) (hS : S < 2 ^ n) (h : ∀ k, k < n → F k = G k) : cov G 12 S = cov F n S := bt_eq (fun b hb => by
  rw [cov_bt, cov_bt]
  constructor
  · rintro ⟨k, a, p, q⟩
    by_cases c : k < n
    · exact ⟨k, c, p, by rw [h k c]; exact q⟩
    · rw [Nat.testBit_lt_two_pow (Nat.lt_of_lt_of_le hS (Nat.pow_le_pow_right (by omega) (by omega)))] at p
      exact absurd p (by decide)
  · rintro ⟨k, a, p, q⟩
    exact ⟨k, by omega, p, by rw [← h k a]; exact q⟩)
theorem cov_lb {F : Nat → Int32} {S j : Nat} (hj : j < 12) (hs : S.testBit j = true) (h : ∀ k, (S &&& (S - 1)).testBit k = (S.testBit k && decide (k ≠ j))) : cov F 12 (S &&& (S - 1)) ||| F j = cov F 12 S := bt_eq (fun b hb => by
  rw [bt_or, Bool.or_eq_true, cov_bt, cov_bt]
  constructor
  · rintro (⟨k, a, p, q⟩ | q)
    · rw [h k, Bool.and_eq_true] at p
      exact ⟨k, a, p.1, q⟩
    · exact ⟨j, hj, hs, q⟩
  · rintro ⟨k, a, p, q⟩
    by_cases c : k = j
    · exact Or.inr (by rw [← c]; exact q)
    · exact Or.inl ⟨k, a, by rw [h k, p, decide_eq_true c]; rfl, q⟩)
theorem s_nearTo (d : Nat) {σ : ax_S} {n c : Nat} (dd : Int32) (hs : σ.1 17 0 = nI n) (hn : n ≤ 12) (hc : c < n) : cI sO (d + 4) 172 [.ref 17, .int (nI c), .int dd] σ = some (nr (cr σ) dd n c, σ) := by
  refine cI_ev mi_172 ((u_172_17 d σ _ _).trans ?_) rfl
  refine (loop_it (E := fun k (u : Int32) => ev sO (d + 4) 172 5 [.ref 17, .int (nI c), .int dd, .int u, .int (nI k)] [] σ) (f := fun k u => if k = c ∨ ¬ dd < unl (cr σ c) (cr σ k) then u ||| b1 k else u) (N := n) (fun k u hk => ?_) 0).trans ?_
  · rw [u_172_17p5, s_size, Option.bind_some]
    simp only [hs]
    rw [if_pos (nlt hk)]
    by_cases q : k = c
    · rw [if_pos (by rw [q]), if_pos (Or.inl q), nI_add1]
      rfl
    · rw [if_neg (fun e => q (nI_inj (by omega) (by omega) e)), s_apart d hs hn hc hk, Option.bind_some]
      simp only [nI_add1]
      by_cases p : dd < unl (cr σ c) (cr σ k)
      · rw [if_pos p, if_neg (fun e => e.elim q (fun z => z p))]
      · rw [if_neg p, if_pos (Or.inr p)]
        rfl
  · rw [u_172_17p5, s_size, Option.bind_some]
    simp only [hs]
    rw [if_neg (nnl (Nat.le_refl n))]
    rfl
/-- a set is held against the fewest so far: the first, how many, how often -/
def tkF (S : Nat) (s : Int32 × Int32 × Int32) : Int32 × Int32 × Int32 := if nI (pcN S) < s.2.1 then (nI S, nI (pcN S), 1) else if nI (pcN S) = s.2.1 then (s.1, s.2.1, s.2.2 + 1) else s
abbrev tkS (σ : ax_S) : Int32 × Int32 × Int32 := (σ.1 63 2, σ.1 63 3, σ.1 63 4)
theorem s_take (d : Nat) (σ : ax_S) {S : Nat} (hS : S < 4096) : ∃ τ, cV sO (d + 1) 119 [.ref 63, .int (nI S)] σ = some τ ∧ sm [63] σ τ ∧ tkS τ = tkF S (tkS σ) := by
  have e : ∀ τ, ev sO (d + 1) 119 0 [.ref 63, .int (nI S), .null] [] σ = some (none, τ) → cV sO (d + 1) 119 [.ref 63, .int (nI S)] σ = some τ := fun τ h => cV_ev mi_119 h rfl
  by_cases p : nI (pcN S) < σ.1 63 3
  · refine ⟨sI (sI (sI (sI σ 63 3 (nI (pcN S))) 63 2 (nI S)) 63 4 0) 63 4 1, e _ ?_, ((((sm.rf _ _).set _ _ (by decide)).set _ _ (by decide)).set _ _ (by decide)).set _ _ (by decide), ?_⟩
    · rw [u_119_63, s_bitCount, Option.bind_some]
      simp only [bc_n hS]
      rw [if_pos p, if_pos (by rw [sI_k _ (by decide), sI_k _ (by decide), sI_1]), sI_1]
      rfl
    · unfold tkS tkF
      rw [if_pos p, sI_k _ (by decide), sI_k _ (by decide), sI_1, sI_k _ (by decide), sI_k _ (by decide), sI_k _ (by decide), sI_1, sI_1]
  · by_cases q : nI (pcN S) = σ.1 63 3
    · refine ⟨sI σ 63 4 (σ.1 63 4 + 1), e _ ?_, (sm.rf _ _).set _ _ (by decide), ?_⟩
      · rw [u_119_63, s_bitCount, Option.bind_some]
        simp only [bc_n hS]
        rw [if_neg p, if_pos q]
      · unfold tkS tkF
        rw [if_neg p, if_pos q, sI_k _ (by decide), sI_k _ (by decide), sI_1]
    · refine ⟨σ, e _ ?_, sm.rf _ _, ?_⟩
      · rw [u_119_63, s_bitCount, Option.bind_some]
        simp only [bc_n hS]
        rw [if_neg p, if_neg q]
      · unfold tkS tkF
        rw [if_neg p, if_neg q]
theorem s_begin (d : Nat) (σ : ax_S) : ∃ τ, cV sO d 117 [.ref 63] σ = some τ ∧ sm [63, 65] σ τ ∧ tkS τ = (-1000000, 13, 0) ∧ τ.1 65 0 = 0 := by
  refine ⟨_, cV_ev mi_117 (u_117_63 d σ) rfl, ((((sm.rf _ _).set _ _ (by decide)).set _ _ (by decide)).set _ _ (by decide)).set _ _ (by decide), ?_, sI_1 _ _ _ _⟩
  unfold tkS
  rw [sI_n _ _ (by decide), sI_k _ (by decide), sI_k _ (by decide), sI_1, sI_k _ (by decide), sI_1, sI_1]
/-- the class's fold: sets 1 .. k -/
def tkB (C : Nat → Prop) [DecidablePred C] (k : Nat) : Int32 × Int32 × Int32 := it (fun k s => if C (k + 1) then tkF (k + 1) s else s) k (-1000000, 13, 0)
theorem s_findBook (d : Nat) {σ : ax_S} {n : Nat} (dd : Int32) (hs : σ.1 17 0 = nI n) (hn : n ≤ 12) (hn0 : 0 < n) : ∃ τ, cV sO (d + 5) 171 [.ref 63, .ref 17, .int dd] σ = some τ ∧ sm [63, 64, 65] σ τ ∧ tkS τ = tkB (fun S => cov (nr (cr σ) dd n) 12 S = nI (2 ^ n - 1)) (2 ^ n - 1) := by
  obtain ⟨τ0, b1', b2, b3, b4⟩ := s_begin (d + 4) σ
  have hs0 : τ0.1 17 0 = nI n := by rw [b2.1 17 (by decide)]; exact hs
  have pw : 2 ^ n ≤ 4096 := pw_lt hn
  have pw0 : 0 < 2 ^ n := Nat.pow_pos (by omega)
  have eall : ((1 : Int32) <<< (nI n &&& 31)) - 1 = nI (2 ^ n - 1) := by
    rw [show (1 : Int32) <<< (nI n &&& 31) = b1 n from rfl, b1_n (by omega), nI_sub1 pw0 (by omega)]
  -- what is near to each
  obtain ⟨τ1, ⟨p1, p2⟩, e1⟩ := loop_P (E := fun k (τ : ax_S) => ev sO (d + 5) 171 19 [.ref 63, .ref 17, .int dd, .int (nI n), .int (nI (2 ^ n - 1)), .int (nI k), .null] [] τ) (N := n) (P := fun k τ => sm [64] τ0 τ ∧ ∀ j, j < k → τ.1 64 j = nr (cr σ) dd n j) (fun k τ hk hp => by
    obtain ⟨p1, p2⟩ := hp
    have hsτ : τ.1 17 0 = nI n := by rw [p1.1 17 (by decide)]; exact hs0
    have ecr : cr τ = cr σ := by
      funext i m
      unfold cr
      rw [p1.1 21 (by decide), b2.1 21 (by decide)]
    refine ⟨sI τ 64 k (nr (cr σ) dd n k), ⟨p1.set _ _ (by decide), fun j hj => ?_⟩, ?_⟩
    · by_cases q : j = k
      · rw [q, sI_1]
      · rw [sI_k _ q]
        exact p2 j (by omega)
    · (try simp only)
      rw [u_171_63_17p19 _ _ _ _ _ _ _ rfl, if_pos (nlt hk), if_pos (show nI k < (12 : Int32) from nlt (N := 12) (by omega)), s_nearTo d dd hsτ hn hk, Option.bind_some, gd_t (nI_g (show k < 12 by omega) (by omega)), nI_add1, nI_c (by omega), ecr]) τ0 ⟨sm.rf _ _, fun j hj => absurd hj (Nat.not_lt_zero j)⟩
  -- all sets
  have hp := loop_P (E := fun k (s : Value × ax_S) => ev sO (d + 5) 171 55 [.ref 63, .ref 17, .int dd, .int (nI n), .int (nI (2 ^ n - 1)), .int (nI (k + 1)), s.1] [] s.2) (N := 2 ^ n - 1) (P := fun k s => c1 s.1 ∧ sm [63, 65] τ1 s.2 ∧ (∀ S, S ≤ k → s.2.1 65 S = cov (nr (cr σ) dd n) 12 S) ∧ tkS s.2 = tkB (fun S => cov (nr (cr σ) dd n) 12 S = nI (2 ^ n - 1)) k) (fun k s hk hp => by
    obtain ⟨w, τ⟩ := s
    obtain ⟨q1, q2, q3, q4⟩ := hp
    simp only at q1 q2 q3 q4 ⊢
    obtain ⟨j, hj, l1, l2, l3⟩ := lb_n (X := k + 1) (by omega) (by omega)
    have hjn : j < n := by
      apply Nat.lt_of_not_le
      intro c
      rw [Nat.testBit_lt_two_pow (Nat.lt_of_lt_of_le (show k + 1 < 2 ^ n by omega) (Nat.pow_le_pow_right (by omega) c))] at l2
      exact absurd l2 (by decide)
    have hlt := (pc_step (X := k + 1) (by omega) (by omega)).1
    have ej : τ.1 64 j = nr (cr σ) dd n j := by rw [q2.1 64 (by decide)]; exact p2 j hjn
    have em : τ.1 65 ((k + 1) &&& (k + 1 - 1)) = cov (nr (cr σ) dd n) 12 ((k + 1) &&& (k + 1 - 1)) := q3 _ (by omega)
    have ec : τ.1 65 ((k + 1) &&& (k + 1 - 1)) ||| τ.1 64 j = cov (nr (cr σ) dd n) 12 (k + 1) := by
      rw [ej, em]
      exact cov_lb hj l2 l3
    have new : ∀ S, S ≤ k + 1 → (sI τ 65 (k + 1) (cov (nr (cr σ) dd n) 12 (k + 1))).1 65 S = cov (nr (cr σ) dd n) 12 S := fun S hS => by
      by_cases q : S = k + 1
      · rw [q, sI_1]
      · rw [sI_k _ q]
        exact q3 S (by omega)
    have tks : tkS (sI τ 65 (k + 1) (cov (nr (cr σ) dd n) 12 (k + 1))) = tkS τ := by
      unfold tkS
      rw [sI_n _ _ (by decide)]
    rw [u_171_63_17p55 _ _ _ rfl _ rfl _ rfl _ _ _ q1, if_neg (nnl (show k + 1 ≤ 2 ^ n - 1 by omega)), if_pos (show nI (k + 1) < (4096 : Int32) from nlt (N := 4096) (by omega)), s_ntz, Option.bind_some]
    simp only [l1, nI_and1 (show k + 1 < 4096 by omega) (show k + 1 ≠ 0 by omega), nI_c (show k + 1 < 2147483648 by omega), nI_c (show (k + 1) &&& (k + 1 - 1) < 2147483648 by omega), nI_c (show j < 2147483648 by omega), ec, sI_1, nI_add1]
    rw [gd_t (nI_g (show (k + 1) &&& (k + 1 - 1) < 4096 by omega) (by omega)), gd_t (nI_g hj (by omega)), gd_t (nI_g (show k + 1 < 4096 by omega) (by omega)), gd_t (nI_g (show k + 1 < 4096 by omega) (by omega))]
    by_cases c : cov (nr (cr σ) dd n) 12 (k + 1) = nI (2 ^ n - 1)
    · obtain ⟨ρ, r1, r2, r3⟩ := s_take (d + 3) (sI τ 65 (k + 1) (cov (nr (cr σ) dd n) 12 (k + 1))) (S := k + 1) (by omega)
      rw [if_pos c, r1, Option.bind_some]
      refine ⟨(.int (nI j), ρ), ⟨rfl, (q2.set _ _ (by decide)).tr (r2.up (by decide)), fun S hS => ?_, ?_⟩, rfl⟩
      · rw [r2.1 65 (by decide)]
        exact new S hS
      · rw [r3, tks, q4]
        unfold tkB
        rw [it_s, if_pos c]
    · rw [if_neg c]
      refine ⟨(.int (nI j), sI τ 65 (k + 1) (cov (nr (cr σ) dd n) 12 (k + 1))), ⟨rfl, q2.set _ _ (by decide), new, ?_⟩, rfl⟩
      rw [tks, q4]
      unfold tkB
      rw [it_s, if_neg c]) (.null, τ1) ⟨rfl, sm.rf _ _, fun S hS => by
        rw [show S = 0 by omega, p1.1 65 (by decide), b4]
        symm
        refine bt_eq (fun b hb => ?_)
        rw [cov_bt, bt_0]
        exact ⟨fun ⟨k, _, q, _⟩ => by rw [Nat.zero_testBit] at q; exact absurd q (by decide), fun q => absurd q (by decide)⟩, by
        unfold tkS at b3 ⊢
        rw [p1.1 63 (by decide)]
        exact b3⟩
  obtain ⟨⟨w, τ2⟩, ⟨q1, q2, q3, q4⟩, e2⟩ := hp
  simp only at q1 q2 q3 q4 e2
  refine ⟨τ2, cV_ev mi_171 ((u_171_63_17 d σ _).trans ?_) rfl, (b2.up (by decide)).tr ((p1.up (by decide)).tr (q2.up (by decide))), q4⟩
  rw [b1', Option.bind_some, s_size, Option.bind_some]
  simp only [hs0, eall]
  refine e1.trans ?_
  rw [u_171_63_17p19 _ _ _ _ _ _ _ rfl, if_neg (nnl (Nat.le_refl n))]
  refine e2.trans ?_
  rw [u_171_63_17p55 _ _ _ rfl _ rfl _ rfl _ _ _ q1, if_pos (nlt (show 2 ^ n - 1 < 2 ^ n - 1 + 1 by omega))]
