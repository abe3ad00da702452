/-! THE PUBLIC METHODS, 19: the reference's book -/
/-- scratch of both: sets, what the reference keeps for a call -/
abbrev Sb (σ ρ : ax_S) : Prop := sm [63, 64, 65, 82, 87, 90, 91, 92, 93, 94, 95, 96, 97, 98, 99, 100] σ ρ ∧ (ρ.1 82 1 = σ.1 82 1 ∧ ρ.1 82 7 = σ.1 82 7 ∧ ρ.1 82 10 = σ.1 82 10 ∧ ρ.1 82 11 = σ.1 82 11 ∧ ρ.1 82 43 = σ.1 82 43)
theorem RA_Sb {σ ρ : ax_S} (h : Sb σ ρ) (r : RA σ) : RA ρ := by
  obtain ⟨⟨h1, -⟩, f1, f7, f10, f11, f43⟩ := h
  obtain ⟨r1, r2, r3, r4, r5, r6, r7, r8⟩ := r
  refine ⟨Rd_c (fun a ha => h1 a ?_) r1, Rk_c (fun a ha => h1 a ?_) f7 r2, Rs_c (fun a ha => h1 a ?_) r3, Rt_c (fun a ha => h1 a ?_) (by rw [h1 5 (by decide)]) (by rw [h1 5 (by decide)]) f10 f11 r4, Ri_c (fun a ha => h1 a ?_) r5, Ri_c (fun a ha => h1 a ?_) r6, Rtr_c (fun a ha => h1 a ?_) (by rw [h1 80 (by decide)]) f43 r7, ?_⟩
  all_goals first | (simp only [List.mem_cons, List.not_mem_nil, or_false] at ha ⊢; omega) | skip
  unfold Rf
  rw [f1, h1 0 (by decide)]
  exact r8
theorem Fo_Sb {σ ρ : ax_S} (h : Sb σ ρ) : Fo σ ρ := Fo_sm h.1 (fun a h1 h2 => by
  simp only [List.mem_cons, List.not_mem_nil, or_false]
  omega)
theorem m_near (d : Nat) {σ : ax_S} {n : Nat} (dd : Int32) (hs : σ.1 88 0 = nI n) (hn : n ≤ 12) (hi : mI σ n) : ∃ τ, sm [100] σ τ ∧ (∀ j, j < n → τ.1 100 j = nr2 (mr σ) dd n j) ∧ ev sO (d + 4) 277 36 [.ref 82, .int dd, .int 0, .null, .null, .null, .null] [] σ = ev sO (d + 4) 277 121 [.ref 82, .int dd, .int (nI (2 ^ n - 1)), .int (nI (2 ^ n - 1)), .int 1, .null, .null] [] τ := by
  have pw : 2 ^ n ≤ 4096 := pw_lt hn
  have pw0 : 0 < 2 ^ n := Nat.pow_pos (by omega)
  have eall : ((1 : Int32) <<< (nI n &&& 31)) - 1 = nI (2 ^ n - 1) := by
    rw [show (1 : Int32) <<< (nI n &&& 31) = b1 n from rfl, b1_n (by omega), nI_sub1 pw0 (by omega)]
  have hp := loop_P (E := fun k (s : Value × ax_S) => ev sO (d + 4) 277 36 [.ref 82, .int dd, .int (nI k), s.1, .null, .null, .null] [] s.2) (N := n) (P := fun k s => c1 s.1 ∧ sm [100] σ s.2 ∧ ∀ j, j < k → s.2.1 100 j = nr2 (mr σ) dd n j) (fun k s hk hp => by
    obtain ⟨w, τ⟩ := s
    obtain ⟨p1, p2, p3⟩ := hp
    simp only at p1 p2 p3 ⊢
    have hsτ : τ.1 88 0 = nI n := by rw [p2.1 88 (by decide)]; exact hs
    obtain ⟨ρ, ⟨q1, q2, q3⟩, e⟩ := loop_P (E := fun b (ρ : ax_S) => ev sO (d + 4) 277 57 [.ref 82, .int dd, .int (nI k), .int (nI b), .null, .null, .null] [] ρ) (N := n) (P := fun b ρ => sm [100] σ ρ ∧ (∀ j, j < k → ρ.1 100 j = nr2 (mr σ) dd n j) ∧ ρ.1 100 k = it (fun i u => if ¬ dd < unl (mr σ k) (mr σ i) then u ||| b1 i else u) b (b1 k)) (fun b ρ hb hq => by
      obtain ⟨q1, q2, q3⟩ := hq
      have e88 : ρ.1 88 = σ.1 88 := q1.1 88 (by decide)
      have hsρ : ρ.1 88 0 = nI n := by rw [e88]; exact hs
      obtain ⟨emr, -, -, -, -, -, hmi⟩ := m88 e88
      have old : ∀ v, (∀ j, j < k → (sI ρ 100 k v).1 100 j = nr2 (mr σ) dd n j) := fun v j hj => by
        rw [sI_k _ (by omega)]
        exact q2 j hj
      (try simp only)
      rw [u_277_82p57 _ _ _ _ _ _ rfl _ rfl _ rfl, hsρ, if_pos (nlt hb), gd_t (nI_g (show k < 12 by omega) (by omega)), m_unlikeOf d hn (hmi n hi) hk hb, Option.bind_some]
      simp only [nI_add1, emr, nI_c (show k < 2147483648 by omega)]
      by_cases c : dd < unl (mr σ k) (mr σ b)
      · rw [if_pos c, gd_t (nI_g (show k < 12 by omega) (by omega))]
        refine ⟨_, ⟨q1.set _ _ (by decide), old _, ?_⟩, rfl⟩
        rw [sI_1, or_z, q3, it_s, if_neg (fun z => z c)]
      · rw [if_neg c, gd_t (nI_g (show k < 12 by omega) (by omega))]
        refine ⟨_, ⟨q1.set _ _ (by decide), old _, ?_⟩, rfl⟩
        rw [sI_1, q3, it_s, if_pos c]
        rfl) (sI τ 100 k (b1 k)) ⟨p2.set _ _ (by decide), fun j hj => by rw [sI_k _ (by omega)]; exact p3 j hj, sI_1 _ _ _ _⟩
    have hsρ : ρ.1 88 0 = nI n := by rw [q1.1 88 (by decide)]; exact hs
    rw [u_277_82p36 _ _ _ _ _ p1 _ rfl _ rfl _ rfl, hsτ, if_pos (nlt hk), gd_t (nI_g (show k < 12 by omega) (by omega)), nI_c (show k < 2147483648 by omega)]
    refine ⟨(.int (nI n), ρ), ⟨rfl, q1, fun j hj => ?_⟩, ?_⟩
    · by_cases q : j = k
      · rw [q]
        exact q3
      · exact q2 j (by omega)
    · refine Eq.trans e ?_
      rw [u_277_82p57 _ _ _ _ _ _ rfl _ rfl _ rfl, hsρ, if_neg (nnl (Nat.le_refl n)), nI_add1]) (.null, σ) ⟨rfl, sm.rf _ _, fun j hj => absurd hj (Nat.not_lt_zero j)⟩
  obtain ⟨⟨w, τ⟩, ⟨p1, p2, p3⟩, e⟩ := hp
  simp only at p1 p2 p3 e
  have hsτ : τ.1 88 0 = nI n := by rw [p2.1 88 (by decide)]; exact hs
  refine ⟨τ, p2, p3, Eq.trans e ?_⟩
  rw [u_277_82p36 _ _ _ _ _ p1 _ rfl _ rfl _ rfl, hsτ, if_neg (nnl (Nat.le_refl n)), eall]
theorem m_cov (d : Nat) {σ : ax_S} {n S : Nat} (F : Nat → Int32) (X : Value) (hX : c1 X) (x2 x3 : Int32) (hs : σ.1 88 0 = nI n) (hn : n ≤ 12) (hF : ∀ j, j < n → σ.1 100 j = F j) : ev sO (d + 4) 277 133 [.ref 82, X, .int x2, .int x3, .int (nI S), .int 0, .int 0] [] σ = ev sO (d + 4) 277 133 [.ref 82, X, .int x2, .int x3, .int (nI S), .int (cov F n S), .int (nI n)] [] σ := by
  refine loop_it (E := fun k (u : Int32) => ev sO (d + 4) 277 133 [.ref 82, X, .int x2, .int x3, .int (nI S), .int u, .int (nI k)] [] σ) (f := fun k u => if S.testBit k = true then u ||| F k else u) (N := n) (fun k u hk => ?_) 0
  rw [u_277_82p133 _ _ _ hX, hs, if_pos (nlt hk)]
  simp only [bt_at (nI S) (show k < 32 by omega), nI_bt S (show k < 32 by omega), nI_add1, nI_c (show k < 2147483648 by omega)]
  by_cases p : S.testBit k = true
  · rw [if_pos p, if_pos rfl, gd_t (nI_g (show k < 12 by omega) (by omega)), if_pos p, hF k hk]
  · rw [if_neg p, if_neg (by decide), if_neg p, or_z]
/-- the reference's fold -/
def bkM (C : Nat → Prop) [DecidablePred C] (a k : Nat) : Nat := it (fun k B => if C (k + 1) ∧ pcN (k + 1) < pcN B then k + 1 else B) k a
theorem m_bk (d : Nat) {σ : ax_S} {n : Nat} (F : Nat → Int32) (hs : σ.1 88 0 = nI n) (hn : n ≤ 12) (hn0 : 0 < n) (hF : ∀ j, j < n → σ.1 100 j = F j) (w : Value) (hw : c1 w) : ev sO (d + 4) 277 121 [.ref 82, w, .int (nI (2 ^ n - 1)), .int (nI (2 ^ n - 1)), .int 1, .null, .null] [] σ = some (some (.long (nI (bkM (fun S => cov F n S = nI (2 ^ n - 1)) (2 ^ n - 1) (2 ^ n - 2))).toInt64), σ) := by
  have pw : 2 ^ n ≤ 4096 := pw_lt hn
  have pw0 : 2 ≤ 2 ^ n := by
    have h := Nat.pow_le_pow_right (n := 2) (by omega) (show 1 ≤ n from hn0)
    rw [show (2 : Nat) ^ 1 = 2 from rfl] at h
    exact h
  obtain ⟨hB, ⟨v1, v2⟩, ⟨h1, h2⟩, e⟩ := loop_dI (E := fun k (B : Nat) (v : Value × Value) => ev sO (d + 4) 277 121 [.ref 82, w, .int (nI (2 ^ n - 1)), .int (nI B), .int (nI (k + 1)), v.1, v.2] [] σ) (D := fun v => c1 v.1 ∧ c1 v.2) (P := fun _ B => B < 4096) (f := fun k B => if cov F n (k + 1) = nI (2 ^ n - 1) ∧ pcN (k + 1) < pcN B then k + 1 else B) (N := 2 ^ n - 2) (fun k B v hk hB hv => by
    refine ⟨?_, ?_⟩
    · split <;> omega
    · (try simp only)
      rw [u_277_82p121 _ _ _ hw _ _ _ _ hv.1 _ hv.2, if_pos (nlt (show k + 1 < 2 ^ n - 1 by omega)), m_cov d F w hw _ _ hs hn hF, u_277_82p133 _ _ _ hw, hs, if_neg (nnl (Nat.le_refl n))]
      have b1' := pc_12 (k + 1)
      have b2 := pc_12 B
      by_cases c : cov F n (k + 1) = nI (2 ^ n - 1)
      · rw [if_pos c, m_bits _ _ (show k + 1 < 4096 by omega), Option.bind_some]
        (try simp only)
        rw [m_bits _ _ hB, Option.bind_some]
        simp only [nI_add1]
        by_cases q : pcN (k + 1) < pcN B
        · rw [if_pos (nlt q), if_pos ⟨c, q⟩]
          exact ⟨(_, _), ⟨rfl, rfl⟩, rfl⟩
        · rw [if_neg (nnl (show pcN B ≤ pcN (k + 1) by omega)), if_neg (fun z => q z.2)]
          exact ⟨(_, _), ⟨rfl, rfl⟩, rfl⟩
      · rw [if_neg c, if_neg (fun z => c z.1), nI_add1]
        exact ⟨(_, _), ⟨rfl, rfl⟩, rfl⟩) (2 ^ n - 1) (.null, .null) (by omega) ⟨rfl, rfl⟩
  refine e.trans ?_
  simp only at h1 h2 ⊢
  rw [u_277_82p121 _ _ _ hw _ _ _ _ h1 _ h2, if_neg (nnl (show 2 ^ n - 1 ≤ 2 ^ n - 2 + 1 by omega))]
  rfl
/-- both folds are the same -/
theorem tk_bk (C : Nat → Prop) [DecidablePred C] {n : Nat} (hn : n ≤ 12) : ∀ k, k ≤ 2 ^ n - 2 → (tkB C k = (-1000000, 13, 0) ∧ bkM C (2 ^ n - 1) k = 2 ^ n - 1) ∨ ∃ S y, 0 < S ∧ S ≤ k ∧ tkB C k = (nI S, nI (pcN S), y) ∧ bkM C (2 ^ n - 1) k = S
  | 0, _ => Or.inl ⟨rfl, rfl⟩
  | k + 1, hk => by
    have ih := tk_bk C hn k (by omega)
    have pw : 2 ^ n ≤ 4096 := pw_lt hn
    have b1' := pc_12 (k + 1)
    have e1 : tkB C (k + 1) = if C (k + 1) then tkF (k + 1) (tkB C k) else tkB C k := rfl
    have e2 : bkM C (2 ^ n - 1) (k + 1) = if C (k + 1) ∧ pcN (k + 1) < pcN (bkM C (2 ^ n - 1) k) then k + 1 else bkM C (2 ^ n - 1) k := rfl
    rw [e1, e2]
    by_cases c : C (k + 1)
    · rw [if_pos c]
      obtain ⟨a, b⟩ | ⟨S, y, s1, s2, a, b⟩ := ih
      · have l : pcN (k + 1) < pcN (2 ^ n - 1) := by rw [pc_pw hn]; exact pc_fn hn (by omega)
        rw [a, b, if_pos ⟨c, l⟩]
        unfold tkF
        rw [if_pos (show nI (pcN (k + 1)) < (13 : Int32) from nlt (N := 13) (by omega))]
        exact Or.inr ⟨k + 1, 1, by omega, by omega, rfl, rfl⟩
      · have b2 := pc_12 S
        rw [a, b]
        unfold tkF
        (try simp only)
        by_cases l : pcN (k + 1) < pcN S
        · rw [if_pos (nlt l), if_pos ⟨c, l⟩]
          exact Or.inr ⟨k + 1, 1, by omega, by omega, rfl, rfl⟩
        · rw [if_neg (nnl (show pcN S ≤ pcN (k + 1) by omega)), if_neg (show ¬ (C (k + 1) ∧ pcN (k + 1) < pcN S) from fun z => l z.2)]
          split
          · exact Or.inr ⟨S, y + 1, s1, by omega, rfl, rfl⟩
          · exact Or.inr ⟨S, y, s1, by omega, rfl, rfl⟩
    · rw [if_neg c, if_neg (fun z => c z.1)]
      obtain ⟨a, b⟩ | ⟨S, y, s1, s2, a, b⟩ := ih
      · exact Or.inl ⟨a, b⟩
      · exact Or.inr ⟨S, y, s1, by omega, a, b⟩
theorem tk_end (C : Nat → Prop) [DecidablePred C] {n : Nat} (hn : n ≤ 12) (hn0 : 0 < n) (hC : C (2 ^ n - 1)) : (tkB C (2 ^ n - 1)).1 = nI (bkM C (2 ^ n - 1) (2 ^ n - 2)) := by
  have pw0 : 2 ≤ 2 ^ n := by
    have h := Nat.pow_le_pow_right (n := 2) (by omega) (show 1 ≤ n from hn0)
    rw [show (2 : Nat) ^ 1 = 2 from rfl] at h
    exact h
  obtain ⟨k, hk⟩ : ∃ k, 2 ^ n - 1 = k + 1 := ⟨2 ^ n - 2, by omega⟩
  have hk2 : 2 ^ n - 2 = k := by omega
  have h := tk_bk C hn k (by omega)
  have e1 : tkB C (k + 1) = if C (k + 1) then tkF (k + 1) (tkB C k) else tkB C k := rfl
  rw [hk2, hk, e1, if_pos (hk ▸ hC)]
  have ep : pcN (k + 1) = n := by rw [← hk]; exact pc_pw hn
  rw [hk] at h
  obtain ⟨a, b⟩ | ⟨S, y, s1, s2, a, b⟩ := h
  · rw [a, b]
    unfold tkF
    rw [if_pos (show nI (pcN (k + 1)) < (13 : Int32) from nlt (N := 13) (by omega))]
  · have l : pcN S < n := pc_fn hn (by omega)
    rw [a, b]
    unfold tkF
    (try simp only)
    rw [if_neg (nnl (show pcN S ≤ pcN (k + 1) by omega)), if_neg (fun z => by have := nI_inj (by omega) (by omega) z; omega)]
