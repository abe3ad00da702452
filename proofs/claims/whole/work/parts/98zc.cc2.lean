/-! TREES: the class counts all changes -/
def nS (f : Nat → Nat) : Nat → Nat
  | 0 => 0
  | k + 1 => nS f k + f k
theorem nS_c {f g : Nat → Nat} : ∀ n, (∀ k, k < n → f k = g k) → nS f n = nS g n
  | 0, _ => rfl
  | n + 1, h => by
    show nS f n + f n = nS g n + g n
    rw [nS_c n (fun k hk => h k (by omega)), h n (by omega)]
theorem nS_le {f : Nat → Nat} {b : Nat} : ∀ n, (∀ k, k < n → f k ≤ b) → nS f n ≤ n * b
  | 0, _ => by rw [Nat.zero_mul]; exact Nat.le_refl _
  | n + 1, h => by
    show nS f n + f n ≤ (n + 1) * b
    have h1 := nS_le n (fun k hk => h k (by omega))
    have h2 := h n (by omega)
    rw [Nat.succ_mul]
    omega
theorem nS_mono {f : Nat → Nat} {k : Nat} : ∀ n, k ≤ n → nS f k ≤ nS f n
  | 0, h => by rw [Nat.le_zero.mp h]; exact Nat.le_refl _
  | n + 1, h => by
    by_cases q : k = n + 1
    · rw [q]; exact Nat.le_refl _
    · have := nS_mono (f := f) n (show k ≤ n by omega)
      show nS f k ≤ nS f n + f n
      omega
theorem rnN_le (f : Int32 → Int32 → Int32) : ∀ (L : List (Nat × Nat × Nat)) (V : Nat → Int32), rnN f L V ≤ L.length
  | [], _ => Nat.le_refl _
  | p :: xs, V => by
    show (if V p.2.1 &&& V p.2.2 = 0 then 1 else 0) + rnN f xs _ ≤ _
    have := rnN_le f xs (upd V p.1 (f (V p.2.1) (V p.2.2)))
    rw [List.length_cons]
    split <;> omega
theorem rnV_n (f : Int32 → Int32 → Int32) {n : Nat} : ∀ (L : List (Nat × Nat × Nat)) (V : Nat → Int32), (∀ p, p ∈ L → p.1 ≠ n) → rnV f L V n = V n
  | [], _, _ => rfl
  | p :: xs, V, h => by
    show rnV f xs _ n = V n
    rw [rnV_n f xs _ (fun q hq => h q (List.mem_cons_of_mem _ hq)), upd_n _ _ (fun z => h p (List.mem_cons_self ..) z.symm)]
theorem cP_l {σ : ax_S} {g : CG} {e : Nat} (h : GRel σ g e) : (cProg g).length = e - 1 := by
  show (List.map _ g.2.2.2).length = _
  rw [List.length_map]
  exact h.1.1.2.2.2
theorem cP_e {σ : ax_S} {g : CG} {e : Nat} (h : GRel σ g e) {p : Nat × Nat × Nat} (hp : p ∈ cProg g) : ∃ i, 1 ≤ i ∧ i < e ∧ p.1 = 2 * i := by
  obtain ⟨x, hx, e1⟩ := List.mem_map.mp (show p ∈ List.map _ g.2.2.2 from hp)
  obtain ⟨i, h1, h2, h3⟩ := h.1.2.2.2 x hx
  exact ⟨i, h1, h2, by rw [← e1]; exact h3⟩
/-- a leaf -/
abbrev lfN (n : Nat) : Prop := n = 0 ∨ n % 2 = 1
/-- what counting leaves be -/
abbrev CcF (σ τ : ax_S) : Prop := sm [66, 72] σ τ ∧ (∀ f, f ≠ 11 → τ.1 66 f = σ.1 66 f) ∧ ∀ m n, m < 11 → n < 11 → lfN n → τ.1 72 (m * 11 + n) = σ.1 72 (m * 11 + n)
theorem s_countChanges (d : Nat) {σ : ax_S} {g : CG} {e L nv : Nat} {v : Nat → Nat} (he : e ≤ 6) (hg : GRel σ g e) (hnv : nv ≤ 11) (h10 : σ.1 66 10 = nI nv) (hv : ∀ i, i < nv → σ.1 78 i = nI (v i) ∧ v i < 11) (hinj : ∀ i j, i < nv → j < nv → v i = v j → i = j) (hL : L < 1000) (h12 : σ.1 66 12 = nI L) : ∃ (τ : ax_S) (c : Nat), cV sO d 147 [.ref 66] σ = some τ ∧ CcF σ τ ∧ τ.1 66 11 = nI c ∧ c < 1000 ∧ c ≤ nS (fun i => rnN fF (cProg g) fun n => σ.1 72 (v i * 11 + n)) nv ∧ (L < c ∨ (c = nS (fun i => rnN fF (cProg g) fun n => σ.1 72 (v i * 11 + n)) nv ∧ ∀ i, i < nv → ∀ n, n < 11 → τ.1 72 (v i * 11 + n) = rnV fF (cProg g) (fun n => σ.1 72 (v i * 11 + n)) n)) := by
  generalize hF : (fun i => rnN fF (cProg g) fun n => σ.1 72 (v i * 11 + n)) = F
  have hF' : ∀ i, rnN fF (cProg g) (fun n => σ.1 72 (v i * 11 + n)) = F i := fun i => by rw [← hF]
  have hFl : ∀ i, F i ≤ 5 := fun i => by
    rw [← hF']
    have := rnN_le fF (cProg g) (fun n => σ.1 72 (v i * 11 + n))
    rw [cP_l hg] at this
    omega
  have hS : ∀ k, k ≤ nv → nS F k ≤ 55 := fun k hk => by
    have := nS_le (f := F) (b := 5) k (fun i _ => hFl i)
    omega
  have hlf : ∀ p, p ∈ cProg g → ∀ n, lfN n → p.1 ≠ n := fun p hp n hn => by
    obtain ⟨i, a, b, c⟩ := cP_e hg hp
    omega
  obtain h := loop_E (E := fun k (s : Value × Value × Value × Value × Value × ax_S) => ev sO d 147 7 [.ref 66, .int (nI k), s.1, s.2.1, s.2.2.1, s.2.2.2.1, s.2.2.2.2.1] [] s.2.2.2.2.2) (N := nv)
    (P := fun k s => c1 s.1 ∧ c1 s.2.1 ∧ c1 s.2.2.1 ∧ c1 s.2.2.2.1 ∧ c1 s.2.2.2.2.1 ∧ CcF σ s.2.2.2.2.2 ∧ s.2.2.2.2.2.1 66 11 = nI (nS F k) ∧ (∀ i, i < k → ∀ n, n < 11 → s.2.2.2.2.2.1 72 (v i * 11 + n) = rnV fF (cProg g) (fun n => σ.1 72 (v i * 11 + n)) n) ∧ ∀ x, x < 11 → (∀ i, i < k → v i ≠ x) → ∀ n, n < 11 → s.2.2.2.2.2.1 72 (x * 11 + n) = σ.1 72 (x * 11 + n))
    (R := fun r => ∃ (τ : ax_S) (c : Nat), r = some (none, τ) ∧ CcF σ τ ∧ τ.1 66 11 = nI c ∧ c < 1000 ∧ c ≤ nS F nv ∧ L < c) (fun k s hk hp => by
    obtain ⟨w2, w3, w4, w5, w6, τ⟩ := s
    obtain ⟨q2, q3, q4, q5, q6, ⟨f1, f2, f3⟩, p1, p2, p3⟩ := hp
    simp only at q2 q3 q4 q5 q6 f1 f2 f3 p1 p2 p3 ⊢
    have eu := u_147_66p7 d τ (nI k) w2 q2 w3 q3 w4 q4 w5 q5 w6 q6
    rw [f2 10 (by decide), h10, if_pos (nlt hk), f2 12 (by decide), h12, p1] at eu
    by_cases q : L < nS F k
    · refine Or.inr ⟨τ, nS F k, ?_, ⟨f1, f2, f3⟩, p1, by have := hS k (by omega); omega, nS_mono nv (by omega), q⟩
      rw [eu, if_pos (nlt q (by have := hS k (by omega); omega))]
    · have e78 : τ.1 78 = σ.1 78 := f1.1 78 (by decide)
      rw [if_neg (nnl (by omega) (by omega)), gd_t (nI_g (show k < 11 by omega) (by omega)), nI_c (show k < 2147483648 by omega), e78, (hv k hk).1, show nI (v k) * (11 : Int32) = nI (v k * 11) from nI_mul (b := 11) (by have := (hv k hk).2; omega) (by have := (hv k hk).2; omega) (by omega)] at eu
      have hg2 : GRel τ g e := GRel_c hg (f1.1 73 (by decide)) (f1.1 74 (by decide)) (f1.1 75 (by decide)) (f1.1 77 (by decide)) (f2 8 (by decide))
      have hfr : ∀ n, n < 11 → τ.1 72 (v k * 11 + n) = σ.1 72 (v k * 11 + n) := p3 (v k) (hv k hk).2 (fun i hi z => by have := hinj i k (by omega) hk z; omega)
      obtain ⟨ρ, x3, a4, a5, a6, c4, c5, c6, g1, g2, g3, g4, g5, g6⟩ := s_cc d (nI k) (hv k hk).2 he (e - 1) 0 w4 w5 w6 τ (fun n => σ.1 72 (v k * 11 + n)) (nS F k) q4 q5 q6 (by omega) hg2 hfr p1
      rw [List.drop_zero] at g4 g5
      refine Or.inl ⟨(.int (nI (v k * 11)), .int x3, a4, a5, a6, ρ), ⟨rfl, rfl, c4, c5, c6, ⟨f1.tr g2, fun f hf => (g3 f hf).trans (f2 f hf), fun m n hm hn hl => ?_⟩, ?_, fun i hi n hn => ?_, fun x hx hi n hn => ?_⟩, ?_⟩
      · by_cases z : m = v k
        · rw [z]
          (try simp only)
          rw [g5 n hn]
          exact rnV_n fF _ _ (fun p hp => hlf p hp n hl)
        · (try simp only)
          rw [g6 _ (by have := (hv k hk).2; omega)]
          exact f3 m n hm hn hl
      · (try simp only)
        rw [g4, hF']
        rfl
      · (try simp only)
        by_cases z : i = k
        · rw [z]
          exact g5 n hn
        · have hne : v i ≠ v k := fun y => z (hinj i k (by omega) hk y)
          rw [g6 _ (by have := (hv k hk).2; omega)]
          exact p2 i (by omega) n hn
      · (try simp only)
        have hne : v k ≠ x := hi k (by omega)
        rw [g6 _ (by omega)]
        exact p3 x hx (fun i hi2 => hi i (by omega)) n hn
      · rw [eu, show (0 : Int32) = nI 0 from rfl, g1, nI_add1]) (.null, .null, .null, .null, .null, sI σ 66 11 0) ⟨rfl, rfl, rfl, rfl, rfl, ⟨(sm.rf _ _).set _ _ (by decide), fun f hf => sI_k _ hf, fun m n _ _ _ => by rw [sI_n _ _ (by decide)]⟩, sI_1 _ _ _ _, fun i hi => absurd hi (Nat.not_lt_zero i), fun x hx _ n _ => by rw [sI_n _ _ (by decide)]⟩
  have h0 := u_147_66 d σ
  obtain ⟨s, ⟨q2, q3, q4, q5, q6, f, p1, p2, p3⟩, e1⟩ | ⟨τ, c, r1, r2, r3, r4, r5, r6⟩ := h
  · obtain ⟨w2, w3, w4, w5, w6, τ⟩ := s
    simp only at q2 q3 q4 q5 q6 f p1 p2 p3 e1
    refine ⟨τ, nS F nv, cV_ev mi_147 (h0.trans (Eq.trans e1 ?_)) rfl, f, p1, by have := hS nv (Nat.le_refl _); omega, Nat.le_refl _, Or.inr ⟨rfl, p2⟩⟩
    rw [u_147_66p7 d τ (nI nv) w2 q2 w3 q3 w4 q4 w5 q5 w6 q6, f.2.1 10 (by decide), h10, if_neg (nnl (Nat.le_refl _) (by omega))]
  · exact ⟨τ, c, cV_ev mi_147 (h0.trans r1) rfl, r2, r3, r4, r5, Or.inl r6⟩
