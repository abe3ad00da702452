/-! A CARD'S TEXT: what a line leaves -/
theorem nxt_le (b : Nat → Int32) {n e : Nat} (he : e ≤ n) : e ≤ (nxt b n e).2.2 ∧ ((nxt b n e).1 ≠ 1 → e < (nxt b n e).2.2) := by
  unfold nxt
  have h := sc_r (fun i => blkP (b i)) (n - e) e
  generalize sc (fun i => blkP (b i)) e (n - e) = s at h ⊢
  obtain ⟨h1, h2, -, -⟩ := h
  (try simp only)
  have up : ∀ (P : Nat → Prop) [DecidablePred P], s < n → P s → s < sc P s (n - s) := fun P _ hs hp => by
    obtain ⟨l1, l2, l3, l4⟩ := sc_r P (n - s) s
    by_cases q : sc P s (n - s) = s
    · rw [q] at l4
      exact absurd hp (l4 (by omega))
    · omega
  by_cases hs : s < n
  · rw [if_pos hs]
    by_cases hl : ltrP (b s)
    · rw [if_pos hl]
      have := up (fun i => ltrP (b i)) hs hl
      exact ⟨by show e ≤ sc (fun i => ltrP (b i)) s (n - s); omega, fun _ => by show e < sc (fun i => ltrP (b i)) s (n - s); omega⟩
    · rw [if_neg hl]
      by_cases hf : figP (b s)
      · rw [if_pos hf]
        have := up (fun i => figP (b i)) hs hf
        exact ⟨by show e ≤ sc (fun i => figP (b i)) s (n - s); omega, fun _ => by show e < sc (fun i => figP (b i)) s (n - s); omega⟩
      · rw [if_neg hf]
        exact ⟨by show e ≤ s + 1; omega, fun _ => by show e < s + 1; omega⟩
  · rw [if_neg hs]
    exact ⟨h1, fun q => absurd rfl q⟩
/-- a token's end does not go back -/
abbrev tE (T : TK) : Nat := T.2.2.2.2
theorem pB_e (j : Nat) (T : TK) : (pB j T).2.2 = T.2.2 := by
  unfold pB
  split <;> rfl
theorem pN_e (b : Nat → Int32) {n : Nat} {T : TK} (h : tE T ≤ n) : tE T ≤ tE (pN b n T) := by
  by_cases t : T.1 = 0
  · rw [pN_0 t]
    exact (nxt_le b h).1
  · rw [pN_n t]
    exact Nat.le_refl _
theorem pN_n2 (b : Nat → Int32) {n : Nat} {T : TK} (h : tE T ≤ n) : tE (pN b n T) ≤ n := by
  by_cases t : T.1 = 0
  · rw [pN_0 t]
    exact (nxt_o b h).2.2.1
  · rw [pN_n t]
    exact h
abbrev eOK (n : Nat) (T U : TK) : Prop := tE T ≤ n → tE T ≤ tE U ∧ tE U ≤ n
theorem pB_E (n j : Nat) (T : TK) : eOK n T (pB j T) := fun h => by
  unfold tE
  rw [pB_e]
  exact ⟨Nat.le_refl _, h⟩
theorem pN_E (b : Nat → Int32) (n : Nat) (T : TK) : eOK n T (pN b n T) := fun h => ⟨pN_e b h, pN_n2 b h⟩
theorem pM_E (b : Nat → Int32) (n : Nat) (so : Prop) [Decidable so] (T : TK) : eOK n T (pM b n so T) := by
  unfold pM
  split
  · exact pN_E b n T
  · exact pB_E n 1 T
theorem pH_E (b : Nat → Int32) (n : Nat) (lo hi : Int32) (T : TK) : eOK n T (pH b lo hi T) := by
  unfold pH
  split
  · split
    · split
      · exact fun h => ⟨Nat.le_refl _, h⟩
      · exact pB_E n 2 T
    · exact pB_E n 1 T
  · exact fun h => ⟨Nat.le_refl _, h⟩
theorem eOK.tr {n : Nat} {T U V : TK} (h1 : eOK n T U) (h2 : eOK n U V) : eOK n T V := fun h => ⟨Nat.le_trans (h1 h).1 (h2 (h1 h).2).1, (h2 (h1 h).2).2⟩
theorem pU_E (b : Nat → Int32) (n : Nat) (lo hi : Int32) (T : TK) : eOK n T (pU b n lo hi T) := (pH_E b n lo hi T).tr (pN_E b n _)
theorem pK_E (b : Nat → Int32) (n : Nat) (lo hi : Int32) (T : TK) : eOK n T (pK b n lo hi T) := by
  unfold pK
  split
  · exact pN_E b n T
  · exact pU_E b n lo hi T
/-- .. and a stop is passed: it goes on -/
theorem pM_go {b : Nat → Int32} {n : Nat} {so : Prop} [Decidable so] {T U : TK} (e : eOK n T U) (h : tE T ≤ n) (ok : (pM b n so U).1 = 0) (s1 : (pM b n so U).2.2.1 ≠ 1) : tE T < tE (pM b n so U) := by
  have ok2 := ok
  obtain ⟨u0, hs⟩ := pM_ok ok2
  obtain ⟨e1, e2⟩ := e h
  have ep : pM b n so U = pN b n U := if_pos hs
  rw [ep] at s1 ⊢
  rw [pN_0 u0] at s1 ⊢
  have := (nxt_le b e2).2 s1
  exact Nat.lt_of_le_of_lt e1 this
theorem pM_t {b : Nat → Int32} {n : Nat} {so : Prop} [Decidable so] {T : TK} (h : so) : pM b n so T = pM b n True T := by
  unfold pM
  rw [if_pos h, if_pos trivial]
theorem pK_ok {b : Nat → Int32} {n : Nat} {lo hi : Int32} {T : TK} (h : (pK b n lo hi T).1 = 0) : T.1 = 0 ∧ (T.2.2.1 = 5 ∨ (T.2.2.1 = 3 ∧ rgP lo.toInt hi.toInt (vT b T))) := by
  unfold pK at h
  by_cases q : T.1 = 0 ∧ T.2.2.1 = 5
  · exact ⟨q.1, Or.inl q.2⟩
  · rw [if_neg q] at h
    have := pU_ok h
    exact ⟨this.1, Or.inr ⟨this.2.1, this.2.2.1⟩⟩
/-- a mark as it is read -/
def mkv (b : Nat → Int32) (T : TK) : Int32 := if T.2.2.1 = 5 then -1000000 else vT b T
/-- what has been said, and the marks -/
abbrev DRp (S : Nat → Bool) (A : Nat → Int32) : Prop := (∀ k, k < 11 → A k = -1000000 ∨ (0 ≤ (A k).toInt ∧ (A k).toInt ≤ cap0 k)) ∧ (∀ k, k < 8 → S k = false → A k = 0) ∧ (S 8 = false → A 8 = 0 ∧ A 9 = 0) ∧ (S 10 = false → A 10 = 0)
abbrev pgC (σ : ax_S) (S : Nat → Bool) (A : Nat → Int32) : Prop := (∀ k, k < 8 → bt (σ.1 61 3) k = S k) ∧ σ.1 61 4 = (if S 8 then 1 else 0) ∧ σ.1 61 5 = (if S 10 then 1 else 0) ∧ ∀ k, k < 11 → σ.1 62 k = A k
abbrev pmA (g A : Nat → Int32) : Prop := (∀ k, k < 11 → g (4 + k) = (if A k = -1000000 then 0 else A k) ∧ bt (g 3) k = decide (A k = -1000000)) ∧ ∀ k, 11 ≤ k → k < 32 → bt (g 3) k = false
abbrev pgM (σ : ax_S) (S : Nat → Bool) (A : Nat → Int32) : Prop := (∀ k, k < 11 → k ≠ 9 → bt (σ.1 82 20) k = S k) ∧ pmA (σ.1 90) A
abbrev Sad (S : Nat → Bool) (k : Nat) : Nat → Bool := fun j => S j || decide (j = k)
theorem pmA_lay {g A : Nat → Int32} {k : Nat} {v w : Int32} (h : pmA g A) (hk : k < 11) (h0 : A k = 0) (hv : (v < 0 ∧ w = -1000000) ∨ (¬ v < 0 ∧ w = v)) : pmA (upd (upd g (4 + k) (if v < 0 then 0 else v)) 3 (g 3 ||| (if v < 0 then b1 k else 0))) (upd A k w) := by
  obtain ⟨h1, h2⟩ := h
  have nn : ¬ v < 0 → ¬ v = -1000000 := fun q z => q (by rw [z]; decide)
  have e3 : ∀ j, j < 32 → bt (g 3 ||| (if v < 0 then b1 k else 0)) j = (bt (g 3) j || (decide (v < 0) && decide (j = k))) := fun j hj => by
    rw [bt_or]
    by_cases q : v < 0
    · rw [if_pos q, bt_1 (by omega) hj, decide_eq_true q, Bool.true_and]
    · rw [if_neg q, bt_0, decide_eq_false q, Bool.false_and]
  refine ⟨fun j hj => ?_, fun j hj hj2 => ?_⟩
  · rw [upd_1, upd_n (k := 3) (j := 4 + j) _ _ (by omega), e3 j (by omega)]
    by_cases q : j = k
    · subst q
      rw [upd_1, upd_1, (h1 j hj).2, h0, decide_eq_true rfl, Bool.and_true, decide_eq_false (show ¬ (0 : Int32) = -1000000 by decide), Bool.false_or]
      obtain ⟨v0, rfl⟩ | ⟨v0, rfl⟩ := hv
      · rw [if_pos v0, if_pos rfl, decide_eq_true v0, decide_eq_true rfl]
        exact ⟨rfl, rfl⟩
      · rw [if_neg v0, if_neg (nn v0), decide_eq_false v0, decide_eq_false (nn v0)]
        exact ⟨rfl, rfl⟩
    · rw [upd_n _ _ (by omega), upd_n _ _ q, decide_eq_false q, Bool.and_false, Bool.or_false]
      exact h1 j hj
  · rw [upd_1, e3 j hj2, h2 j hj hj2, decide_eq_false (show ¬ j = k by omega), Bool.and_false, Bool.or_false]
theorem lay_u (σ : ax_S) (k : Nat) (v : Int32) : (sI (sI σ 90 (4 + k) (if v < 0 then 0 else v)) 90 3 (σ.1 90 3 ||| (if v < 0 then b1 k else 0))).1 90 = upd (upd (σ.1 90) (4 + k) (if v < 0 then 0 else v)) 3 (σ.1 90 3 ||| (if v < 0 then b1 k else 0)) := by rw [sI_u, sI_u]
theorem Sad_1 (S : Nat → Bool) (k : Nat) : Sad S k k = true := by
  show (S k || decide (k = k)) = true
  rw [decide_eq_true rfl, Bool.or_true]
theorem Sad_n (S : Nat → Bool) {k j : Nat} (h : j ≠ k) : Sad S k j = S j := by
  show (S j || decide (j = k)) = S j
  rw [decide_eq_false h, Bool.or_false]
/-- a mark of the class's reading and of the reference's -/
theorem mk_two {b : Nat → Int32} {T : TK} {lo hi : Int32} (hlo : 0 ≤ lo.toInt) (h : T.2.2.1 = 5 ∨ (T.2.2.1 = 3 ∧ rgP lo.toInt hi.toInt (vT b T))) : (((if T.2.2.1 = 5 then -1 else vT b T) < 0 ∧ mkv b T = -1000000) ∨ (¬ (if T.2.2.1 = 5 then -1 else vT b T) < 0 ∧ mkv b T = (if T.2.2.1 = 5 then -1 else vT b T))) ∧ (mkv b T = -1000000 ∨ (0 ≤ (mkv b T).toInt ∧ (mkv b T).toInt ≤ hi.toInt)) := by
  unfold mkv
  by_cases q : T.2.2.1 = 5
  · rw [if_pos q, if_pos q]
    exact ⟨Or.inl ⟨by decide, rfl⟩, Or.inl rfl⟩
  · rw [if_neg q, if_neg q]
    obtain z | ⟨-, z1, z2⟩ := h
    · exact absurd z q
    · exact ⟨Or.inr ⟨by rw [i_lt, i_0]; omega, rfl⟩, Or.inr ⟨by omega, z2⟩⟩
theorem s_pn_1004 (d : Nat) {σ : ax_S} {b : Nat → Int32} {n : Nat} {L : Int32} {T : TK} (h : CSt σ b n L T) : ∃ τ, cV sO (d + 5) 48 [.ref 5, .ref 1004] σ = some τ ∧ sm [5] σ τ ∧ CSt τ b n L (pM b n (nmT b W1004 T) T) := by
  obtain ⟨τ, e1, e2, e3⟩ := s_pass (d + 2) (nmT b W1004 T) h
  refine ⟨τ, cV_ev mi_48 ((u_48_5_1004 d σ).trans ?_) rfl, e2, e3⟩
  rw [s_atName_1004 d h.1 h.2.1 h.2.2.1 h.2.2.2.1 h.2.2.2.2.1, Option.bind_some]
  (try simp only)
  rw [e1, Option.bind_some]
theorem s_pn_1005 (d : Nat) {σ : ax_S} {b : Nat → Int32} {n : Nat} {L : Int32} {T : TK} (h : CSt σ b n L T) : ∃ τ, cV sO (d + 5) 48 [.ref 5, .ref 1005] σ = some τ ∧ sm [5] σ τ ∧ CSt τ b n L (pM b n (nmT b W1005 T) T) := by
  obtain ⟨τ, e1, e2, e3⟩ := s_pass (d + 2) (nmT b W1005 T) h
  refine ⟨τ, cV_ev mi_48 ((u_48_5_1005 d σ).trans ?_) rfl, e2, e3⟩
  rw [s_atName_1005 d h.1 h.2.1 h.2.2.1 h.2.2.2.1 h.2.2.2.2.1, Option.bind_some]
  (try simp only)
  rw [e1, Option.bind_some]
theorem s_pn_1006 (d : Nat) {σ : ax_S} {b : Nat → Int32} {n : Nat} {L : Int32} {T : TK} (h : CSt σ b n L T) : ∃ τ, cV sO (d + 5) 48 [.ref 5, .ref 1006] σ = some τ ∧ sm [5] σ τ ∧ CSt τ b n L (pM b n (nmT b W1006 T) T) := by
  obtain ⟨τ, e1, e2, e3⟩ := s_pass (d + 2) (nmT b W1006 T) h
  refine ⟨τ, cV_ev mi_48 ((u_48_5_1006 d σ).trans ?_) rfl, e2, e3⟩
  rw [s_atName_1006 d h.1 h.2.1 h.2.2.1 h.2.2.2.1 h.2.2.2.2.1, Option.bind_some]
  (try simp only)
  rw [e1, Option.bind_some]
theorem s_pn_1007 (d : Nat) {σ : ax_S} {b : Nat → Int32} {n : Nat} {L : Int32} {T : TK} (h : CSt σ b n L T) : ∃ τ, cV sO (d + 5) 48 [.ref 5, .ref 1007] σ = some τ ∧ sm [5] σ τ ∧ CSt τ b n L (pM b n (nmT b W1007 T) T) := by
  obtain ⟨τ, e1, e2, e3⟩ := s_pass (d + 2) (nmT b W1007 T) h
  refine ⟨τ, cV_ev mi_48 ((u_48_5_1007 d σ).trans ?_) rfl, e2, e3⟩
  rw [s_atName_1007 d h.1 h.2.1 h.2.2.1 h.2.2.2.1 h.2.2.2.2.1, Option.bind_some]
  (try simp only)
  rw [e1, Option.bind_some]
/-- fault 4 where it was said before -/
def pF (s : Bool) (T : TK) : TK := if s = true then pB 4 T else T
theorem pF_n {s : Bool} {T : TK} (h : ¬ T.1 = 0) : pF s T = T := by
  unfold pF
  split
  · exact pB_n h
  · rfl
theorem pF_ok {s : Bool} {T : TK} (h : (pF s T).1 = 0) : T.1 = 0 ∧ s = false ∧ pF s T = T := by
  by_cases t : T.1 = 0
  · unfold pF at h ⊢
    by_cases q : s = true
    · rw [if_pos q, pB_0 t] at h
      exact absurd h (by simp only; omega)
    · rw [if_neg q]
      exact ⟨t, by simpa using q, rfl⟩
  · rw [pF_n t] at h
    exact absurd h t
theorem pF_E (n : Nat) (s : Bool) (T : TK) : eOK n T (pF s T) := by
  unfold pF
  split
  · exact pB_E n 4 T
  · exact fun h => ⟨Nat.le_refl _, h⟩
