/-! THE PUBLIC METHODS, 26: an ask, the reference's -/
abbrev Mv (σ τ : ax_S) (t : Nat) (L : List Int32) : Prop := sm [82, 104] σ τ ∧ (∀ j, j ≠ 43 → τ.1 82 j = σ.1 82 j) ∧ τ.1 82 43 = nI (t + L.length) ∧ (∀ i, i < t → τ.1 104 i = σ.1 104 i) ∧ ∀ i, i < L.length → τ.1 104 (t + i) = (L[i]?).getD 0
theorem Mv_tr {σ τ ρ : ax_S} {t : Nat} {L M : List Int32} (h : Mv σ τ t L) (h2 : Mv τ ρ (t + L.length) M) : Mv σ ρ t (L ++ M) := by
  obtain ⟨a1, a2, a3, a4, a5⟩ := h
  obtain ⟨b1, b2, b3, b4, b5⟩ := h2
  refine ⟨a1.tr b1, fun j hj => (b2 j hj).trans (a2 j hj), ?_, fun i hi => (b4 i (by omega)).trans (a4 i hi), fun i hi => ?_⟩
  · rw [b3, List.length_append, Nat.add_assoc]
  · rw [List.length_append] at hi
    by_cases c : i < L.length
    · rw [b4 _ (by omega), a5 i c, List.getElem?_append_left c]
    · have := b5 (i - L.length) (by omega)
      rw [List.getElem?_append_right (by omega), ← this, show t + L.length + (i - L.length) = t + i by omega]
theorem m_began (d : Nat) {σ : ax_S} {t : Nat} (b : Int32) (ht : σ.1 82 43 = nI t) (h16 : t < 16) : ∃ τ, cV sO d 287 [.ref 82, .int b] σ = some τ ∧ Mv σ τ t [b] := by
  refine ⟨sI (sI σ 104 t b) 82 43 (nI (t + 1)), cV_ev mi_287 ((u_287_82 d σ b).trans ?_) rfl, ((sm.rf _ _).set _ _ (by decide)).set _ _ (by decide), fun j hj => ?_, sI_1 _ _ _ _, fun i hi => ?_, fun i hi => ?_⟩
  · rw [ht, if_pos (show nI t < (16 : Int32) from nlt (N := 16) h16), gd_t (nI_g h16 (by omega)), nI_c (by omega), sI_n _ _ (by decide), ht, nI_add1]
  · rw [sI_k _ hj, sI_n _ _ (by decide)]
  · rw [sI_n _ _ (by decide), sI_k _ (by omega)]
  · have : i = 0 := by
      simp only [List.length_cons, List.length_nil] at hi
      omega
    rw [this, sI_n _ _ (by decide), Nat.add_zero, sI_1]
    rfl
/-- a part of an ask of the reference: what it comes to and what it leaves -/
abbrev MC (σ0 : ax_S) (f : ax_S → Option (Int32 × ax_S)) (v : Int32) (L : List Int32) : Prop := ∀ σ t, σ.1 88 = σ0.1 88 → σ.1 86 = σ0.1 86 → σ.1 82 43 = nI t → t + L.length ≤ 16 → ∃ τ, f σ = some (v, τ) ∧ Mv σ τ t L
theorem m_things0 (d : Nat) {σ0 σ : ax_S} {n c : Nat} (hn : n ≤ 12) (hi : mI σ0 n) (hc : c < n) (e : σ.1 88 = σ0.1 88) : cI sO (d + 3) 288 [.ref 82, .int (nI c)] σ = some (ths (mr σ0 c), σ) := by
  obtain ⟨emr, -, -, -, -, -, hmi⟩ := m88 e
  rw [m_things d hn (hmi n hi) hc, emr]
theorem m_stn0 (d : Nat) {σ0 σ : ax_S} {n c : Nat} {α : Type} (k : Int32 × ax_S → Option α) (hn : n ≤ 12) (hi : mI σ0 n) (hc : c < n) (e : σ.1 88 = σ0.1 88) : ((cI sO d 232 [.ref 82, .int (nI c), .int 4] σ).bind fun u => (cI sO d 240 [.int u.1] u.2).bind k) = k (sts (mr σ0 c), σ) := by
  obtain ⟨emr, -, -, -, ems, -, hmi⟩ := m88 e
  obtain ⟨X, hX, e1, e2⟩ := ms_few hi hc
  rw [m_of4 _ _ (show c < 12 by omega), Option.bind_some]
  (try simp only)
  rw [ems, e1, m_bits _ _ (show X < 4096 by omega), Option.bind_some, e2]
theorem m_mar5 (d : Nat) {σ0 : ax_S} {n c : Nat} (hn : n ≤ 12) (hi : mI σ0 n) (hc : c < n) : MC σ0 (cI sO (d + 4) 286 [.ref 82, .int (nI c), .int 5]) (ths (mr σ0 c) - sts (mr σ0 c) + 100) [14, 13, 10] := by
  intro σ t e88 e86 ht h16
  simp only [List.length_cons, List.length_nil] at h16
  obtain ⟨u0, a0, b0⟩ := m_began (d + 3) 14 ht (by omega)
  obtain ⟨u1, a1, b1⟩ := m_began (d + 3) (t := t + 1) 13 b0.2.2.1 (by omega)
  obtain ⟨u2, a2, b2⟩ := m_began (d + 3) (t := t + 2) 10 b1.2.2.1 (by omega)
  have b := Mv_tr b0 (Mv_tr b1 b2)
  have e2 : u2.1 88 = σ0.1 88 := (b.1.1 88 (by decide)).trans e88
  refine ⟨u2, cI_ev mi_286 ((u_286_82 d σ _ _).trans ?_) rfl, b⟩
  rw [if_pos rfl, a0, Option.bind_some, a1, Option.bind_some, a2, Option.bind_some, m_things0 d hn hi hc e2, Option.bind_some]
  (try simp only)
  rw [m_stn0 _ _ hn hi hc e2]
  rfl
theorem m_mar2 (d : Nat) {σ0 : ax_S} {n c : Nat} (hn : n ≤ 12) (hi : mI σ0 n) (hc : c < n) : MC σ0 (cI sO (d + 4) 286 [.ref 82, .int (nI c), .int 2]) (ths (mr σ0 c) - sts (mr σ0 c)) [13, 10] := by
  intro σ t e88 e86 ht h16
  simp only [List.length_cons, List.length_nil] at h16
  obtain ⟨u1, a1, b1⟩ := m_began (d + 3) 13 ht (by omega)
  obtain ⟨u2, a2, b2⟩ := m_began (d + 3) (t := t + 1) 10 b1.2.2.1 (by omega)
  have b := Mv_tr b1 b2
  have e2 : u2.1 88 = σ0.1 88 := (b.1.1 88 (by decide)).trans e88
  refine ⟨u2, cI_ev mi_286 ((u_286_82 d σ _ _).trans ?_) rfl, b⟩
  rw [if_neg (by decide), a1, Option.bind_some, a2, Option.bind_some, m_things0 d hn hi hc e2, Option.bind_some]
  (try simp only)
  rw [m_stn0 _ _ hn hi hc e2]
  (try simp only)
  rw [if_neg (by decide), Int32.add_zero]
theorem m_mrk1 (d : Nat) {σ0 : ax_S} {c : Nat} : MC σ0 (cI sO (d + 5) 289 [.ref 82, .int (nI c), .int 1]) (nI c) [20] := by
  intro σ t e88 e86 ht h16
  simp only [List.length_cons, List.length_nil] at h16
  obtain ⟨u0, a0, b0⟩ := m_began (d + 4) 20 ht (by omega)
  refine ⟨u0, cI_ev mi_289 ((u_289_82 d σ _ _).trans ?_) rfl, b0⟩
  rw [if_neg (by decide), if_neg (by decide), u_289_82p26 _ _ _ _ _ rfl _ rfl, if_neg (by decide), u_289_82p37 _ _ _ _ _ rfl _ rfl, m_isOf, Option.bind_some]
  simp only [bi_f (show ¬ alP 1 2 by decide)]
  rw [if_pos trivial, u_289_82p53 _ _ _ _ _ _ rfl, a0, Option.bind_some, if_pos rfl, if_neg (by decide), if_neg (by decide), if_neg (by decide), Int32.add_zero]
theorem m_mrk2 (d : Nat) {σ0 : ax_S} {n c : Nat} (hn : n ≤ 12) (hi : mI σ0 n) (hc : c < n) : MC σ0 (cI sO (d + 5) 289 [.ref 82, .int (nI c), .int 2]) (nI c + (ths (mr σ0 c) - sts (mr σ0 c))) [22, 20, 13, 10] := by
  intro σ t e88 e86 ht h16
  simp only [List.length_cons, List.length_nil] at h16
  obtain ⟨u0, a0, b0⟩ := m_began (d + 4) 22 ht (by omega)
  obtain ⟨u1, a1, b1⟩ := m_began (d + 4) (t := t + 1) 20 b0.2.2.1 (by omega)
  have b01 := Mv_tr b0 b1
  obtain ⟨u2, a2, b2⟩ := m_mar2 d hn hi hc u1 (t + 2) ((b01.1.1 88 (by decide)).trans e88) ((b01.1.1 86 (by decide)).trans e86) b1.2.2.1 (by simp only [List.length_cons, List.length_nil]; omega)
  refine ⟨u2, cI_ev mi_289 ((u_289_82 d σ _ _).trans ?_) rfl, Mv_tr b01 b2⟩
  rw [if_neg (by decide), if_neg (by decide), u_289_82p26 _ _ _ _ _ rfl _ rfl, if_neg (by decide), u_289_82p37 _ _ _ _ _ rfl _ rfl, m_isOf, Option.bind_some]
  simp only [bi_t (show alP 2 2 by decide)]
  rw [if_neg (by decide), a0, Option.bind_some, u_289_82p53 _ _ _ _ _ _ rfl, a1, Option.bind_some, if_neg (by decide), a2, Option.bind_some, if_neg (by decide)]
theorem m_mrk3 (d : Nat) {σ0 : ax_S} {n c : Nat} (hn : n ≤ 12) (hi : mI σ0 n) (hc : c < n) : MC σ0 (cI sO (d + 5) 289 [.ref 82, .int (nI c), .int 3]) (nI c + rse (σ0.1 86) (mr σ0 c)) [24, 20] := by
  intro σ t e88 e86 ht h16
  simp only [List.length_cons, List.length_nil] at h16
  obtain ⟨u0, a0, b0⟩ := m_began (d + 4) 24 ht (by omega)
  obtain ⟨u1, a1, b1⟩ := m_began (d + 4) (t := t + 1) 20 b0.2.2.1 (by omega)
  have b01 := Mv_tr b0 b1
  have e2 : u1.1 88 = σ0.1 88 := (b01.1.1 88 (by decide)).trans e88
  have e3 : u1.1 86 = σ0.1 86 := (b01.1.1 86 (by decide)).trans e86
  obtain ⟨emr, -, -, -, -, -, hmi⟩ := m88 e2
  refine ⟨u1, cI_ev mi_289 ((u_289_82 d σ _ _).trans ?_) rfl, b01⟩
  rw [if_pos rfl, u_289_82p10 _ _ _ _ _ rfl _ rfl, if_pos rfl, a0, Option.bind_some, u_289_82p26 _ _ _ _ _ rfl _ rfl, if_neg (by decide), u_289_82p37 _ _ _ _ _ rfl _ rfl, m_isOf, Option.bind_some]
  simp only [bi_f (show ¬ alP 3 2 by decide)]
  rw [if_pos trivial, u_289_82p53 _ _ _ _ _ _ rfl, a1, Option.bind_some, if_pos rfl, if_pos rfl, m_riseOf (d + 3) 0 hn (hmi n hi) hc hc, Option.bind_some, if_neg (by decide)]
  simp only [rsx_0, emr, e3]
theorem m_mrk4 (d : Nat) {σ0 : ax_S} {n c : Nat} (hn : n ≤ 12) (hc : c < n) : MC σ0 (cI sO (d + 5) 289 [.ref 82, .int (nI c), .int 4]) (nI c + my σ0 c) [21, 20] := by
  intro σ t e88 e86 ht h16
  simp only [List.length_cons, List.length_nil] at h16
  obtain ⟨u0, a0, b0⟩ := m_began (d + 4) 21 ht (by omega)
  obtain ⟨u1, a1, b1⟩ := m_began (d + 4) (t := t + 1) 20 b0.2.2.1 (by omega)
  have b01 := Mv_tr b0 b1
  have e2 : u1.1 88 = σ0.1 88 := (b01.1.1 88 (by decide)).trans e88
  obtain ⟨-, emy, -⟩ := m88 e2
  refine ⟨u1, cI_ev mi_289 ((u_289_82 d σ _ _).trans ?_) rfl, b01⟩
  rw [if_neg (by decide), if_pos rfl, u_289_82p10 _ _ _ _ _ rfl _ rfl, if_neg (by decide), a0, Option.bind_some, u_289_82p26 _ _ _ _ _ rfl _ rfl, if_neg (by decide), u_289_82p37 _ _ _ _ _ rfl _ rfl, m_isOf, Option.bind_some]
  simp only [bi_f (show ¬ alP 4 2 by decide)]
  rw [if_pos trivial, u_289_82p53 _ _ _ _ _ _ rfl, a1, Option.bind_some, if_pos rfl, if_neg (by decide), if_pos rfl, m_of2 _ _ (show c < 12 by omega), Option.bind_some, if_neg (by decide)]
  simp only [emy]
theorem m_mrk5 (d : Nat) {σ0 : ax_S} {n c : Nat} (hn : n ≤ 12) (hi : mI σ0 n) (hc : c < n) : MC σ0 (cI sO (d + 5) 289 [.ref 82, .int (nI c), .int 5]) (-(nI c + (ths (mr σ0 c) - sts (mr σ0 c) + 100))) [23, 22, 20, 14, 13, 10] := by
  intro σ t e88 e86 ht h16
  simp only [List.length_cons, List.length_nil] at h16
  obtain ⟨u3, a3, b3⟩ := m_began (d + 4) 23 ht (by omega)
  obtain ⟨u0, a0, b0⟩ := m_began (d + 4) (t := t + 1) 22 b3.2.2.1 (by omega)
  obtain ⟨u1, a1, b1⟩ := m_began (d + 4) (t := t + 2) 20 b0.2.2.1 (by omega)
  have b01 := Mv_tr b3 (Mv_tr b0 b1)
  obtain ⟨u2, a2, b2⟩ := m_mar5 d hn hi hc u1 (t + 3) ((b01.1.1 88 (by decide)).trans e88) ((b01.1.1 86 (by decide)).trans e86) b1.2.2.1 (by simp only [List.length_cons, List.length_nil]; omega)
  refine ⟨u2, cI_ev mi_289 ((u_289_82 d σ _ _).trans ?_) rfl, Mv_tr b01 b2⟩
  rw [if_neg (by decide), if_neg (by decide), u_289_82p26 _ _ _ _ _ rfl _ rfl, if_pos rfl, a3, Option.bind_some, u_289_82p37 _ _ _ _ _ rfl _ rfl, m_isOf, Option.bind_some]
  simp only [bi_t (show alP 5 2 by decide)]
  rw [if_neg (by decide), a0, Option.bind_some, u_289_82p53 _ _ _ _ _ _ rfl, a1, Option.bind_some, if_neg (by decide), a2, Option.bind_some, if_pos rfl]
theorem m_mrk (d : Nat) {σ0 : ax_S} {n c : Nat} {ki : Int32} (hn : n ≤ 12) (hi : mI σ0 n) (hc : c < n) (h : ki = 1 ∨ ki = 2 ∨ ki = 3 ∨ ki = 4 ∨ ki = 5) : MC σ0 (cI sO (d + 5) 289 [.ref 82, .int (nI c), .int ki]) (askV (nI c) ki (my σ0 c) (ths (mr σ0 c)) (sts (mr σ0 c)) (rse (σ0.1 86) (mr σ0 c)) 1) (askL ki 1) := by
  obtain rfl | rfl | rfl | rfl | rfl := h
  · exact m_mrk1 d
  · exact m_mrk2 d hn hi hc
  · exact m_mrk3 d hn hi hc
  · exact m_mrk4 d hn hc
  · exact m_mrk5 d hn hi hc
theorem m_siz (d : Nat) {σ0 : ax_S} {n c : Nat} {ki : Int32} (hn : n ≤ 12) (hi : mI σ0 n) (hc : c < n) (h : ki = 1 ∨ ki = 2 ∨ ki = 3 ∨ ki = 4 ∨ ki = 5) : MC σ0 (cI sO (d + 6) 285 [.ref 82, .int (nI c), .int ki]) (askV (nI c) ki (my σ0 c) (ths (mr σ0 c)) (sts (mr σ0 c)) (rse (σ0.1 86) (mr σ0 c)) 0) (askL ki 0) := by
  -- a whole one, by what it leaves for MARK
  have two : ∀ (ki v : Int32) (L : List Int32), ¬ alP ki 2 → ki ≠ 3 → MC σ0 (cI sO (d + 5) 289 [.ref 82, .int (nI c), .int ki]) v L → MC σ0 (cI sO (d + 6) 285 [.ref 82, .int (nI c), .int ki]) (ths (mr σ0 c) + v) (11 :: 10 :: L) := by
    intro ki v L k2 k3 hM σ t e88 e86 ht h16
    simp only [List.length_cons, List.length_nil] at h16
    obtain ⟨u0, a0, b0⟩ := m_began (d + 5) 11 ht (by omega)
    obtain ⟨u1, a1, b1⟩ := m_began (d + 5) (t := t + 1) 10 b0.2.2.1 (by omega)
    have b01 := Mv_tr b0 b1
    have e2 : u1.1 88 = σ0.1 88 := (b01.1.1 88 (by decide)).trans e88
    obtain ⟨u2, a2, b2⟩ := hM u1 (t + 2) e2 ((b01.1.1 86 (by decide)).trans e86) b1.2.2.1 (by omega)
    refine ⟨u2, cI_ev mi_285 ((u_285_82 d σ _ _).trans ?_) rfl, Mv_tr b01 b2⟩
    rw [m_isOf, Option.bind_some]
    simp only [bi_f k2]
    rw [if_pos trivial, if_neg k3, a0, Option.bind_some, a1, Option.bind_some, m_things0 (d + 2) hn hi hc e2, Option.bind_some]
    (try simp only)
    rw [a2, Option.bind_some, if_neg k3]
  obtain rfl | rfl | rfl | rfl | rfl := h
  · exact two 1 _ _ (by decide) (by decide) (m_mrk1 d)
  · intro σ t e88 e86 ht h16
    obtain ⟨u2, a2, b2⟩ := m_mar2 (d + 1) hn hi hc σ t e88 e86 ht h16
    refine ⟨u2, cI_ev mi_285 ((u_285_82 d σ _ _).trans ?_) rfl, b2⟩
    rw [m_isOf, Option.bind_some]
    simp only [bi_t (show alP 2 2 by decide)]
    rw [if_neg (by decide), a2, Option.bind_some]
    rfl
  · intro σ t e88 e86 ht h16
    have h16 : t + 5 ≤ 16 := h16
    obtain ⟨u3, a3, b3⟩ := m_began (d + 5) 12 ht (by omega)
    obtain ⟨u0, a0, b0⟩ := m_began (d + 5) (t := t + 1) 11 b3.2.2.1 (by omega)
    obtain ⟨u1, a1, b1⟩ := m_began (d + 5) (t := t + 2) 10 b0.2.2.1 (by omega)
    have b01 := Mv_tr b3 (Mv_tr b0 b1)
    have e2 : u1.1 88 = σ0.1 88 := (b01.1.1 88 (by decide)).trans e88
    obtain ⟨u2, a2, b2⟩ := m_mrk3 d hn hi hc u1 (t + 3) e2 ((b01.1.1 86 (by decide)).trans e86) b1.2.2.1 (by simp only [List.length_cons, List.length_nil]; omega)
    refine ⟨u2, cI_ev mi_285 ((u_285_82 d σ _ _).trans ?_) rfl, Mv_tr b01 b2⟩
    rw [m_isOf, Option.bind_some]
    simp only [bi_f (show ¬ alP 3 2 by decide)]
    rw [if_pos trivial, if_pos trivial, a3, Option.bind_some, a0, Option.bind_some, a1, Option.bind_some, m_things0 (d + 2) hn hi hc e2, Option.bind_some]
    (try simp only)
    rw [a2, Option.bind_some, if_pos trivial]
    rfl
  · exact two 4 _ _ (by decide) (by decide) (m_mrk4 d hn hc)
  · intro σ t e88 e86 ht h16
    obtain ⟨u2, a2, b2⟩ := m_mar5 (d + 1) hn hi hc σ t e88 e86 ht h16
    refine ⟨u2, cI_ev mi_285 ((u_285_82 d σ _ _).trans ?_) rfl, b2⟩
    rw [m_isOf, Option.bind_some]
    simp only [bi_t (show alP 5 2 by decide)]
    rw [if_neg (by decide), a2, Option.bind_some]
    rfl
