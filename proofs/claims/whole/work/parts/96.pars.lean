/-! READING, as a thing of its own: a fault (0: none), its place, the token (sort, begin, end) -/
abbrev TK : Type := Nat × Nat × Nat × Nat × Nat
def pB (j : Nat) (T : TK) : TK := if T.1 = 0 then (j, T.2.2.2.1, T.2.2) else T
def pN (b : Nat → Int32) (n : Nat) (T : TK) : TK := if T.1 = 0 then (0, T.2.1, nxt b n T.2.2.2.2) else T
def pM (b : Nat → Int32) (n : Nat) (so : Prop) [Decidable so] (T : TK) : TK := if so then pN b n T else pB 1 T
def vl (b : Nat → Int32) (s e : Nat) : Int32 := it (fun k v => 10 * v + b (s + k) - 48) (e - s) 0
def pH (b : Nat → Int32) (lo hi : Int32) (T : TK) : TK := if T.1 = 0 then (if T.2.2.1 = 3 then (if rgP lo.toInt hi.toInt (vl b T.2.2.2.1 T.2.2.2.2) then T else pB 2 T) else pB 1 T) else T
def pU (b : Nat → Int32) (n : Nat) (lo hi : Int32) (T : TK) : TK := pN b n (pH b lo hi T)
def pK (b : Nat → Int32) (n : Nat) (lo hi : Int32) (T : TK) : TK := if T.1 = 0 ∧ T.2.2.1 = 5 then pN b n T else pU b n lo hi T
def pE (T : TK) : TK := if T.2.2.1 = 1 then T else pB 1 T
abbrev nmT (b : Nat → Int32) (W : List Int32) (T : TK) : Prop := nmP b W T.2.2.1 T.2.2.2.1 T.2.2.2.2
theorem pB_0 {j : Nat} {T : TK} (h : T.1 = 0) : pB j T = (j, T.2.2.2.1, T.2.2) := if_pos h
theorem pB_n {j : Nat} {T : TK} (h : ¬ T.1 = 0) : pB j T = T := if_neg h
theorem pN_0 {b : Nat → Int32} {n : Nat} {T : TK} (h : T.1 = 0) : pN b n T = (0, T.2.1, nxt b n T.2.2.2.2) := if_pos h
theorem pN_n {b : Nat → Int32} {n : Nat} {T : TK} (h : ¬ T.1 = 0) : pN b n T = T := if_neg h
theorem pM_n {b : Nat → Int32} {n : Nat} {so : Prop} [Decidable so] {T : TK} (h : ¬ T.1 = 0) : pM b n so T = T := by
  unfold pM
  split
  · exact pN_n h
  · exact pB_n h
theorem pH_n {b : Nat → Int32} {lo hi : Int32} {T : TK} (h : ¬ T.1 = 0) : pH b lo hi T = T := if_neg h
theorem pU_n {b : Nat → Int32} {n : Nat} {lo hi : Int32} {T : TK} (h : ¬ T.1 = 0) : pU b n lo hi T = T := by
  unfold pU
  rw [pH_n h, pN_n h]
theorem pK_n {b : Nat → Int32} {n : Nat} {lo hi : Int32} {T : TK} (h : ¬ T.1 = 0) : pK b n lo hi T = T := by
  unfold pK
  rw [if_neg (fun q => h q.1), pU_n h]
theorem pE_n {T : TK} (h : ¬ T.1 = 0) : pE T = T := by
  unfold pE
  split
  · rfl
  · exact pB_n h
/-- where it has not failed: what a number was -/
theorem pU_ok {b : Nat → Int32} {n : Nat} {lo hi : Int32} {T : TK} (h : (pU b n lo hi T).1 = 0) : T.1 = 0 ∧ T.2.2.1 = 3 ∧ rgP lo.toInt hi.toInt (vl b T.2.2.2.1 T.2.2.2.2) ∧ pH b lo hi T = T := by
  unfold pU at h
  by_cases t0 : T.1 = 0
  · unfold pH at h ⊢
    rw [if_pos t0] at h ⊢
    by_cases k3 : T.2.2.1 = 3
    · rw [if_pos k3] at h ⊢
      by_cases r : rgP lo.toInt hi.toInt (vl b T.2.2.2.1 T.2.2.2.2)
      · exact ⟨t0, k3, r, if_pos r⟩
      · rw [if_neg r, pB_0 t0, pN_n (by simp only; omega)] at h
        exact absurd h (by simp only; omega)
    · rw [if_neg k3, pB_0 t0, pN_n (by simp only; omega)] at h
      exact absurd h (by simp only; omega)
  · rw [pH_n t0, pN_n t0] at h
    exact absurd h t0
theorem pM_ok {b : Nat → Int32} {n : Nat} {so : Prop} [Decidable so] {T : TK} (h : (pM b n so T).1 = 0) : T.1 = 0 ∧ so := by
  by_cases t0 : T.1 = 0
  · refine ⟨t0, ?_⟩
    unfold pM at h
    by_cases q : so
    · exact q
    · rw [if_neg q, pB_0 t0] at h
      exact absurd h (by simp only; omega)
  · rw [pM_n t0] at h
    exact absurd h t0
/-! the class's -/
abbrev CSt (σ : ax_S) (b : Nat → Int32) (n : Nat) (L : Int32) (T : TK) : Prop := cBy σ b n ∧ tkO b n T.2.2.1 T.2.2.2.1 T.2.2.2.2 ∧ σ.1 5 5 = nI (cso T.2.2.1) ∧ σ.1 5 6 = nI T.2.2.2.1 ∧ σ.1 5 7 = nI T.2.2.2.2 ∧ σ.1 5 4 = (if T.1 = 0 then 0 else 1) ∧ (T.1 = 0 → σ.1 5 2 = L) ∧ (T.1 ≠ 0 → T.1 ≤ 4 ∧ σ.1 5 2 = nI T.1 ∧ σ.1 5 3 = nI T.2.1 ∧ T.2.1 ≤ 500)
theorem CSt_c {σ ρ : ax_S} {b : Nat → Int32} {n : Nat} {L : Int32} {T : TK} (h5 : ρ.1 5 = σ.1 5) (h6 : ρ.1 6 = σ.1 6) (h : CSt σ b n L T) : CSt ρ b n L T := by
  unfold CSt cBy at h ⊢
  rw [h5, h6]
  exact h
theorem c54 {σ : ax_S} {b : Nat → Int32} {n : Nat} {L : Int32} {T : TK} (h : CSt σ b n L T) : σ.1 5 4 = 0 ↔ T.1 = 0 := by
  obtain ⟨-, -, -, -, -, h4, -⟩ := h
  rw [h4]
  by_cases q : T.1 = 0
  · rw [if_pos q]
    exact ⟨fun _ => q, fun _ => rfl⟩
  · rw [if_neg q]
    exact ⟨fun z => absurd z (by decide), fun z => absurd z q⟩
theorem s_blame_n (d : Nat) {σ : ax_S} {b : Nat → Int32} {n : Nat} {L : Int32} {T : TK} (h : CSt σ b n L T) (t : ¬ T.1 = 0) (j : Int32) : cV sO d 47 [.ref 5, .int j] σ = some σ := by
  refine cV_ev mi_47 ((u_47_5 d σ _).trans ?_) rfl
  rw [if_neg (fun q => t ((c54 h).mp q))]
theorem s_blame (d : Nat) {σ : ax_S} {b : Nat → Int32} {n : Nat} {L : Int32} {T : TK} (h : CSt σ b n L T) {j : Nat} (j1 : 1 ≤ j) (j4 : j ≤ 4) : ∃ τ, cV sO d 47 [.ref 5, .int (nI j)] σ = some τ ∧ sm [5] σ τ ∧ CSt τ b n L (pB j T) := by
  by_cases t : T.1 = 0
  · have h' := h
    obtain ⟨⟨c1', c2, c3⟩, c4, c5, c6, c7, c8, c9, c10⟩ := h'
    refine ⟨sI (sI (sI σ 5 4 1) 5 2 (nI j)) 5 3 (nI T.2.2.2.1), cV_ev mi_47 ((u_47_5 d σ _).trans ?_) rfl, (((sm.rf _ _).set _ _ (by decide)).set _ _ (by decide)).set _ _ (by decide), ?_⟩
    · rw [if_pos ((c54 h).mpr t), sI_k (k := 2) _ (by decide), sI_k (k := 4) _ (by decide), c6]
    · rw [pB_0 t]
      refine ⟨⟨c1', ?_, fun i hi => ?_⟩, c4, ?_, ?_, ?_, ?_, fun q => absurd q (by simp only; omega), fun _ => ⟨j4, ?_, sI_1 _ _ _ _, by have := c4.2.1; have := c4.2.2.1; simp only; omega⟩⟩
      · rw [sI_k _ (by decide), sI_k _ (by decide), sI_k _ (by decide)]; exact c2
      · rw [sI_n _ _ (by decide), sI_n _ _ (by decide), sI_n _ _ (by decide)]; exact c3 i hi
      · rw [sI_k _ (by decide), sI_k _ (by decide), sI_k _ (by decide)]; exact c5
      · rw [sI_k _ (by decide), sI_k _ (by decide), sI_k _ (by decide)]; exact c6
      · rw [sI_k _ (by decide), sI_k _ (by decide), sI_k _ (by decide)]; exact c7
      · rw [sI_k _ (by decide), sI_k _ (by decide), sI_1, if_neg (by simp only; omega)]
      · rw [sI_k _ (by decide), sI_1]
  · exact ⟨σ, s_blame_n d h t _, sm.rf _ _, by rw [pB_n t]; exact h⟩
theorem s_stp (d : Nat) {σ : ax_S} {b : Nat → Int32} {n : Nat} {L : Int32} {T : TK} (h : CSt σ b n L T) (t : T.1 = 0) : ∃ τ, cV sO (d + 1) 33 [.ref 5] σ = some τ ∧ sm [5] σ τ ∧ CSt τ b n L (pN b n T) := by
  obtain ⟨c1', c4, c5, c6, c7, c8, c9, c10⟩ := h
  obtain ⟨τ, e1, e2, e3, e4, e5, e6⟩ := s_step d c1' c4.2.2.1 c7
  refine ⟨τ, e1, e2, ?_⟩
  rw [pN_0 t]
  refine ⟨⟨c1'.1, (e3 1 (by decide)).trans c1'.2.1, fun i hi => by rw [e2.1 6 (by decide)]; exact c1'.2.2 i hi⟩, nxt_o b c4.2.2.1, e4, e5, e6, ?_, fun _ => (e3 2 (by decide)).trans (c9 t), fun q => absurd rfl q⟩
  rw [e3 4 (by decide), c8, if_pos t, if_pos rfl]
theorem s_pass (d : Nat) {σ : ax_S} {b : Nat → Int32} {n : Nat} {L : Int32} {T : TK} (so : Prop) [Decidable so] (h : CSt σ b n L T) : ∃ τ, cV sO (d + 2) 49 [.ref 5, .int (bi so)] σ = some τ ∧ sm [5] σ τ ∧ CSt τ b n L (pM b n so T) := by
  unfold pM
  by_cases q : so
  · rw [if_pos q, bi_t q]
    by_cases t : T.1 = 0
    · obtain ⟨τ, e1, e2, e3⟩ := s_stp d h t
      refine ⟨τ, cV_ev mi_49 ((u_49_5 d σ _).trans ?_) rfl, e2, e3⟩
      rw [if_neg (by decide), if_pos ((c54 h).mpr t), e1, Option.bind_some]
    · refine ⟨σ, cV_ev mi_49 ((u_49_5 d σ _).trans ?_) rfl, sm.rf _ _, by rw [pN_n t]; exact h⟩
      rw [if_neg (by decide), if_neg (fun z => t ((c54 h).mp z))]
  · rw [if_neg q, bi_f q]
    obtain ⟨τ, e1, e2, e3⟩ := s_blame (d + 1) h (j := 1) (by omega) (by omega)
    refine ⟨τ, cV_ev mi_49 ((u_49_5 d σ _).trans ?_) rfl, e2, e3⟩
    rw [if_pos rfl, show (1 : Int32) = nI 1 from rfl, e1, Option.bind_some]
theorem cso_3 {k : Nat} (hk : k ≤ 5) : nI (cso k) = 3 ↔ k = 4 ∨ k = 5 := by
  have : k = 0 ∨ k = 1 ∨ k = 2 ∨ k = 3 ∨ k = 4 ∨ k = 5 := by omega
  obtain q | q | q | q | q | q := this <;> rw [q] <;> decide
theorem cso_2 {k : Nat} (hk : k ≤ 5) : nI (cso k) = 2 ↔ k = 3 := by
  have : k = 0 ∨ k = 1 ∨ k = 2 ∨ k = 3 ∨ k = 4 ∨ k = 5 := by omega
  obtain q | q | q | q | q | q := this <;> rw [q] <;> decide
theorem cso_4 {k : Nat} (hk : k ≤ 5) : nI (cso k) = 4 ↔ k = 1 := by
  have : k = 0 ∨ k = 1 ∨ k = 2 ∨ k = 3 ∨ k = 4 ∨ k = 5 := by omega
  obtain q | q | q | q | q | q := this <;> rw [q] <;> decide
theorem s_atSign (d : Nat) {σ : ax_S} {b : Nat → Int32} {n : Nat} {L : Int32} {T : TK} (h : CSt σ b n L T) : cI sO (d + 1) 54 [.ref 5, .int 59] σ = some (bi (T.2.2.1 = 4), σ) ∧ cI sO (d + 1) 54 [.ref 5, .int 63] σ = some (bi (T.2.2.1 = 5), σ) := by
  obtain ⟨⟨c1', c2, c3⟩, ⟨k5, o2, o3, o4, o5, -⟩, c5, c6, c7, -⟩ := h
  have go : ∀ (x : Nat) (kk : Nat), (x = 59 ∧ kk = 4) ∨ (x = 63 ∧ kk = 5) → ev sO (d + 1) 54 0 [.ref 5, .int (OfNat.ofNat x)] [] σ = some (some (.int (bi (T.2.2.1 = kk))), σ) := fun x kk hx => by
    rw [u_54_5, c5]
    by_cases q : T.2.2.1 = 4 ∨ T.2.2.1 = 5
    · have hs : T.2.2.2.1 < n := q.elim (fun z => (o4 z).1) (fun z => (o5 z).1)
      rw [if_pos ((cso_3 k5).mpr q), c6, s_byteAt _ c2 c1' (by omega), Option.bind_some]
      (try simp only)
      rw [if_pos hs]
      have hb := c3 _ hs
      have e := byR_eq hb x (by omega)
      have key : σ.1 6 T.2.2.2.1 = (OfNat.ofNat x : Int32) ↔ T.2.2.1 = kk := by
        rw [e]
        obtain q | q := q
        · rw [(o4 q).2, q]
          obtain ⟨rfl, rfl⟩ | ⟨rfl, rfl⟩ := hx
          · exact ⟨fun _ => rfl, fun _ => rfl⟩
          · exact ⟨fun z => absurd z (by decide), fun z => absurd z (by decide)⟩
        · rw [(o5 q).2, q]
          obtain ⟨rfl, rfl⟩ | ⟨rfl, rfl⟩ := hx
          · exact ⟨fun z => absurd z (by decide), fun z => absurd z (by decide)⟩
          · exact ⟨fun _ => rfl, fun _ => rfl⟩
      by_cases z : T.2.2.1 = kk
      · rw [if_pos (key.mpr z), bi_t z]
      · rw [if_neg (fun w => z (key.mp w)), bi_f z]
    · rw [if_neg (fun z => q ((cso_3 k5).mp z)), bi_f]
      intro z
      obtain ⟨-, rfl⟩ | ⟨-, rfl⟩ := hx
      · exact q (Or.inl z)
      · exact q (Or.inr z)
  exact ⟨cI_ev mi_54 (go 59 4 (Or.inl ⟨rfl, rfl⟩)) rfl, cI_ev mi_54 (go 63 5 (Or.inr ⟨rfl, rfl⟩)) rfl⟩
theorem s_passStop (d : Nat) {σ : ax_S} {b : Nat → Int32} {n : Nat} {L : Int32} {T : TK} (h : CSt σ b n L T) : ∃ τ, cV sO (d + 3) 53 [.ref 5] σ = some τ ∧ sm [5] σ τ ∧ CSt τ b n L (pM b n (T.2.2.1 = 4) T) := by
  obtain ⟨τ, e1, e2, e3⟩ := s_pass d (T.2.2.1 = 4) h
  refine ⟨τ, cV_ev mi_53 ((u_53_5 d σ).trans ?_) rfl, e2, e3⟩
  rw [(s_atSign (d + 1) h).1, Option.bind_some]
  (try simp only)
  rw [e1, Option.bind_some]
theorem s_passEnd (d : Nat) {σ : ax_S} {b : Nat → Int32} {n : Nat} {L : Int32} {T : TK} (h : CSt σ b n L T) : ∃ τ, cV sO (d + 1) 57 [.ref 5] σ = some τ ∧ sm [5] σ τ ∧ CSt τ b n L (pE T) := by
  have k5 := h.2.1.1
  have ea : cI sO d 58 [.ref 5] σ = some (bi (T.2.2.1 = 1), σ) := by
    refine cI_ev mi_58 ((u_58_5 d σ).trans ?_) rfl
    rw [h.2.2.1]
    by_cases q : T.2.2.1 = 1
    · rw [if_pos ((cso_4 k5).mpr q), bi_t q]
    · rw [if_neg (fun z => q ((cso_4 k5).mp z)), bi_f q]
  unfold pE
  by_cases q : T.2.2.1 = 1
  · rw [if_pos q]
    refine ⟨σ, cV_ev mi_57 ((u_57_5 d σ).trans ?_) rfl, sm.rf _ _, h⟩
    rw [ea, Option.bind_some]
    simp only [bi_0]
    rw [if_neg (fun z => z q)]
  · rw [if_neg q]
    obtain ⟨τ, e1, e2, e3⟩ := s_blame d h (j := 1) (by omega) (by omega)
    refine ⟨τ, cV_ev mi_57 ((u_57_5 d σ).trans ?_) rfl, e2, e3⟩
    rw [ea, Option.bind_some]
    simp only [bi_0]
    rw [if_pos q, show (1 : Int32) = nI 1 from rfl, e1, Option.bind_some]
theorem s_valueHere (d : Nat) {σ : ax_S} {b : Nat → Int32} {n : Nat} {L : Int32} {T : TK} (h : CSt σ b n L T) (k3 : T.2.2.1 = 3) : cI sO (d + 1) 52 [.ref 5] σ = some (vl b T.2.2.2.1 T.2.2.2.2, σ) := by
  obtain ⟨⟨c1', c2, c3⟩, ⟨k5, o2, o3, -, -, -, o7⟩, c5, c6, c7, -⟩ := h
  refine cI_ev mi_52 ((u_52_5 d σ).trans ?_) rfl
  rw [c6]
  refine (loop_it (E := fun k (v : Int32) => ev sO (d + 1) 52 7 [.ref 5, .int v, .int (nI (T.2.2.2.1 + k))] [] σ) (f := fun k v => 10 * v + b (T.2.2.2.1 + k) - 48) (N := T.2.2.2.2 - T.2.2.2.1) (fun k v hk => ?_) 0).trans ?_
  · have hf := (o7 k3).2 (T.2.2.2.1 + k) (by omega) (by omega)
    have hc : σ.1 6 (T.2.2.2.1 + k) = b (T.2.2.2.1 + k) := by
      have := c3 (T.2.2.2.1 + k) (by omega)
      obtain ⟨z1, z2, z3⟩ := this
      rw [if_pos (by have := hf.2; omega)] at z3
      exact (i_eq _ _).mpr z3
    rw [u_52_5p7, c7, if_pos (nlt (show T.2.2.2.1 + k < T.2.2.2.2 by omega)), s_byteAt _ c2 c1' (by omega), Option.bind_some]
    (try simp only)
    rw [if_pos (show T.2.2.2.1 + k < n by omega), hc, nI_add1, Int32.mul_comm v 10, Nat.add_assoc]
    have : (10 : Int32) * v + (b (T.2.2.2.1 + k) - 48) = 10 * v + b (T.2.2.2.1 + k) - 48 := by
      rw [Int32.sub_eq_add_neg, Int32.sub_eq_add_neg, Int32.add_assoc]
    rw [this]
  · rw [u_52_5p7, c7, if_neg (nnl (show T.2.2.2.2 ≤ T.2.2.2.1 + (T.2.2.2.2 - T.2.2.2.1) by omega) (by omega))]
    rfl
theorem s_numberHere (d : Nat) {σ : ax_S} {b : Nat → Int32} {n : Nat} {L : Int32} {T : TK} (lo hi : Int32) (h : CSt σ b n L T) : ∃ v τ, cI sO (d + 2) 51 [.ref 5, .int lo, .int hi] σ = some (v, τ) ∧ sm [5] σ τ ∧ CSt τ b n L (pH b lo hi T) ∧ ((pH b lo hi T).1 = 0 → v = vl b T.2.2.2.1 T.2.2.2.2) ∧ (¬ (pH b lo hi T).1 = 0 → v = 0) := by
  have k5 := h.2.1.1
  have c5 := h.2.2.1
  have w54 := c54 h
  by_cases t : T.1 = 0
  · unfold pH
    rw [if_pos t]
    by_cases k3 : T.2.2.1 = 3
    · rw [if_pos k3]
      have base : ∀ X, ev sO (d + 2) 51 0 [.ref 5, .int lo, .int hi, .null] [] σ = X ↔ (if vl b T.2.2.2.1 T.2.2.2.2 < lo then ((cV sO (d + 1) 47 [.ref 5, .int 2] σ).bind fun u1 => if (u1.1 5 4) = 0 then some (some (Value.int (vl b T.2.2.2.1 T.2.2.2.2)), u1) else some (some (Value.int 0), u1)) else (if hi < vl b T.2.2.2.1 T.2.2.2.2 then ((cV sO (d + 1) 47 [.ref 5, .int 2] σ).bind fun u2 => if (u2.1 5 4) = 0 then some (some (Value.int (vl b T.2.2.2.1 T.2.2.2.2)), u2) else some (some (Value.int 0), u2)) else some (some (Value.int (vl b T.2.2.2.1 T.2.2.2.2)), σ))) = X := fun X => by
        rw [u_51_5, if_pos (by rw [c5]; exact (cso_2 k5).mpr k3), if_pos (w54.mpr t), s_valueHere d h k3, Option.bind_some]
        (try simp only)
        rw [if_pos (w54.mpr t)]
      by_cases r : rgP lo.toInt hi.toInt (vl b T.2.2.2.1 T.2.2.2.2)
      · rw [if_pos r]
        refine ⟨vl b T.2.2.2.1 T.2.2.2.2, σ, cI_ev mi_51 ((base _).mpr ?_) rfl, sm.rf _ _, h, fun _ => rfl, fun q => absurd t q⟩
        rw [if_neg (by rw [i_lt]; have := r.1; omega), if_neg (by rw [i_lt]; have := r.2; omega)]
      · rw [if_neg r]
        obtain ⟨τ, e1, e2, e3⟩ := s_blame (d + 1) h (j := 2) (by omega) (by omega)
        have t2 : ¬ (pB 2 T).1 = 0 := by rw [pB_0 t]; simp only; omega
        have z54 : ¬ τ.1 5 4 = 0 := fun q => t2 ((c54 e3).mp q)
        refine ⟨0, τ, cI_ev mi_51 ((base _).mpr ?_) rfl, e2, e3, fun q => absurd q t2, fun _ => rfl⟩
        rw [show (2 : Int32) = nI 2 from rfl, e1]
        by_cases q1 : vl b T.2.2.2.1 T.2.2.2.2 < lo
        · rw [if_pos q1, Option.bind_some, if_neg z54]
        · rw [if_neg q1, if_pos, Option.bind_some, if_neg z54]
          rw [i_lt] at q1 ⊢
          apply Int.lt_of_not_ge
          exact fun z => r ⟨by omega, z⟩
    · rw [if_neg k3]
      obtain ⟨τ, e1, e2, e3⟩ := s_blame (d + 1) h (j := 1) (by omega) (by omega)
      have t2 : ¬ (pB 1 T).1 = 0 := by rw [pB_0 t]; simp only; omega
      have z54 : ¬ τ.1 5 4 = 0 := fun q => t2 ((c54 e3).mp q)
      refine ⟨0, τ, cI_ev mi_51 ((u_51_5 d σ _ _).trans ?_) rfl, e2, e3, fun q => absurd q t2, fun _ => rfl⟩
      rw [if_neg (fun q => k3 ((cso_2 k5).mp (c5 ▸ q))), show (1 : Int32) = nI 1 from rfl, e1, Option.bind_some, if_neg z54, s_blame_n (d + 1) e3 t2, Option.bind_some, if_neg z54]
      repeat' split
      all_goals rfl
  · rw [pH_n t]
    have z54 : ¬ σ.1 5 4 = 0 := fun q => t (w54.mp q)
    refine ⟨0, σ, cI_ev mi_51 ((u_51_5 d σ _ _).trans ?_) rfl, sm.rf _ _, h, fun q => absurd q t, fun _ => rfl⟩
    simp only [s_blame_n (d + 1) h t, Option.bind_some, if_neg z54]
    repeat' split
    all_goals rfl
theorem s_passNumber (d : Nat) {σ : ax_S} {b : Nat → Int32} {n : Nat} {L : Int32} {T : TK} (lo hi : Int32) (h : CSt σ b n L T) : ∃ v τ, cI sO (d + 3) 50 [.ref 5, .int lo, .int hi] σ = some (v, τ) ∧ sm [5] σ τ ∧ CSt τ b n L (pU b n lo hi T) ∧ ((pU b n lo hi T).1 = 0 → v = vl b T.2.2.2.1 T.2.2.2.2) ∧ (¬ (pU b n lo hi T).1 = 0 → v = 0) := by
  obtain ⟨v, τ, e1, e2, e3, e4, e5⟩ := s_numberHere (d) lo hi h
  unfold pU
  by_cases t : (pH b lo hi T).1 = 0
  · obtain ⟨ρ, f1, f2, f3⟩ := s_stp (d + 1) e3 t
    refine ⟨v, ρ, cI_ev mi_50 ((u_50_5 d σ _ _).trans ?_) rfl, e2.tr f2, f3, fun _ => e4 t, fun q => absurd (by rw [pN_0 t]) q⟩
    rw [e1, Option.bind_some]
    (try simp only)
    rw [if_pos ((c54 e3).mpr t), f1, Option.bind_some]
  · refine ⟨v, τ, cI_ev mi_50 ((u_50_5 d σ _ _).trans ?_) rfl, e2, by rw [pN_n t]; exact e3, fun q => absurd (by rw [pN_n t] at q; exact q) t, fun _ => e5 t⟩
    rw [e1, Option.bind_some]
    (try simp only)
    rw [if_neg (fun q => t ((c54 e3).mp q))]
theorem s_passMark (d : Nat) {σ : ax_S} {b : Nat → Int32} {n : Nat} {L : Int32} {T : TK} (lo hi : Int32) (h : CSt σ b n L T) : ∃ v τ, cI sO (d + 4) 73 [.ref 5, .int lo, .int hi] σ = some (v, τ) ∧ sm [5] σ τ ∧ CSt τ b n L (pK b n lo hi T) ∧ ((pK b n lo hi T).1 = 0 → v = if T.2.2.1 = 5 then -1000000 else vl b T.2.2.2.1 T.2.2.2.2) := by
  by_cases k5 : T.2.2.1 = 5
  · by_cases t : T.1 = 0
    · obtain ⟨τ, f1, f2, f3⟩ := s_stp (d + 2) h t
      refine ⟨-1000000, τ, cI_ev mi_73 ((u_73_5 (d + 1) σ _ _).trans ?_) rfl, f2, ?_, fun _ => (if_pos k5).symm⟩
      · rw [(s_atSign (d + 2) h).2, Option.bind_some]
        simp only [bi_0]
        rw [if_neg (fun z => z k5), if_pos ((c54 h).mpr t), f1, Option.bind_some]
      · unfold pK
        rw [if_pos ⟨t, k5⟩]
        exact f3
    · refine ⟨-1000000, σ, cI_ev mi_73 ((u_73_5 (d + 1) σ _ _).trans ?_) rfl, sm.rf _ _, by rw [pK_n t]; exact h, fun _ => (if_pos k5).symm⟩
      rw [(s_atSign (d + 2) h).2, Option.bind_some]
      simp only [bi_0]
      rw [if_neg (fun z => z k5), if_neg (fun z => t ((c54 h).mp z))]
  · obtain ⟨v, τ, e1, e2, e3, e4, -⟩ := s_numberHere (d + 1) lo hi h
    have ep : pK b n lo hi T = pU b n lo hi T := if_neg (fun q => k5 q.2)
    rw [ep]
    unfold pU
    by_cases t : (pH b lo hi T).1 = 0
    · obtain ⟨ρ, f1, f2, f3⟩ := s_stp (d + 2) e3 t
      refine ⟨v, ρ, cI_ev mi_73 ((u_73_5 (d + 1) σ _ _).trans ?_) rfl, e2.tr f2, f3, fun _ => by rw [e4 t, if_neg k5]⟩
      rw [(s_atSign (d + 2) h).2, Option.bind_some]
      simp only [bi_0]
      rw [if_pos k5, e1, Option.bind_some]
      (try simp only)
      rw [if_pos ((c54 e3).mpr t), f1, Option.bind_some]
    · refine ⟨v, τ, cI_ev mi_73 ((u_73_5 (d + 1) σ _ _).trans ?_) rfl, e2, by rw [pN_n t]; exact e3, fun q => absurd (by rw [pN_n t] at q; exact q) t⟩
      rw [(s_atSign (d + 2) h).2, Option.bind_some]
      simp only [bi_0]
      rw [if_pos k5, e1, Option.bind_some]
      (try simp only)
      rw [if_neg (fun q => t ((c54 e3).mp q))]
