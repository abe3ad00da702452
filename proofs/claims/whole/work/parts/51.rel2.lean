/-! THE TWO HALVES: what the pieces hang on, and what they give -/
theorem rd_of {σ : ax_S} {n : Nat} (h : RD (σ.1 17 0) (σ.1 18) (σ.1 19) (σ.1 20) (σ.1 21) (σ.1 88) n) : n ≤ 12 ∧ σ.1 17 0 = nI n ∧ σ.1 88 0 = nI n ∧ mI σ n ∧ moP (σ.1 20) n ∧ moP (mm σ) n ∧ eqD (σ.1 19) (my σ) (cr σ) (mr σ) n ∧ (∀ j, j < n → σ.1 20 j = mm σ j) ∧ (∀ j, j < n → σ.1 18 j = ml σ j) := by
  obtain ⟨h1, h2, h3, h4⟩ := h
  refine ⟨h1, h2, h3, fun j hj => ?_, fun j hj => ?_, fun j hj => ?_, fun j hj => ⟨?_, fun k hk => ?_⟩, fun j hj => ?_, fun j hj => ?_⟩
  · obtain ⟨-, -, -, -, q, q2, -⟩ := h4 j hj
    exact ⟨fun k hk => ⟨(q k hk).2.1, (q k hk).2.2.2⟩, q2⟩
  · obtain ⟨-, -, -, q, -⟩ := h4 j hj
    exact q
  · obtain ⟨-, -, q0, q, -⟩ := h4 j hj
    have e : σ.1 20 j = mm σ j := q0
    rw [e] at q
    exact q
  · exact (h4 j hj).2.1
  · obtain ⟨-, -, -, -, q, -⟩ := h4 j hj
    exact (q k hk).1
  · exact (h4 j hj).2.2.1
  · exact (h4 j hj).1
theorem Rd_c {σ ρ : ax_S} (h : ∀ a, a ∈ [17, 18, 19, 20, 21, 88] → ρ.1 a = σ.1 a) (r : Rd σ) : Rd ρ := by
  unfold Rd at r ⊢
  rw [h 17 (by decide), h 18 (by decide), h 19 (by decide), h 20 (by decide), h 21 (by decide), h 88 (by decide)]
  exact r
theorem kcb_c {σ ρ : ax_S} {a : Nat} (h : ∀ b, a ≤ b → b ≤ a + 8 → ρ.1 b = σ.1 b) : kcb ρ a = kcb σ a := by
  funext i
  unfold kcb
  rw [h a (by omega) (by omega), h (a + 8) (by omega) (by omega), h (a + 1 + (i - 2) % 4) (by omega) (by omega), h (a + 5 + (i - 66) % 3) (by omega) (by omega)]
theorem Rk_c {σ ρ : ax_S} (h : ∀ a, a ∈ [8, 9, 10, 11, 12, 13, 14, 15, 16, 86] → ρ.1 a = σ.1 a) (h2 : ρ.1 82 7 = σ.1 82 7) (r : Rk σ) : Rk ρ := by
  unfold Rk at r ⊢
  rw [h 8 (by decide), h2, h 86 (by decide), kcb_c (σ := σ) (ρ := ρ) (a := 8) (fun b h1 h2 => h b (by
    have : b = 8 ∨ b = 9 ∨ b = 10 ∨ b = 11 ∨ b = 12 ∨ b = 13 ∨ b = 14 ∨ b = 15 ∨ b = 16 := by omega
    simp only [List.mem_cons]
    omega))]
  exact r
theorem Rs_c {σ ρ : ax_S} (h : ∀ a, a ∈ [2, 3, 4, 83, 84, 85] → ρ.1 a = σ.1 a) (r : Rs σ) : Rs ρ := by
  unfold Rs at r ⊢
  rw [h 2 (by decide), h 3 (by decide), h 4 (by decide), h 83 (by decide), h 84 (by decide), h 85 (by decide)]
  exact r
theorem Rt_c {σ ρ : ax_S} (h : ∀ a, a ∈ [6, 89] → ρ.1 a = σ.1 a) (h1 : ρ.1 5 1 = σ.1 5 1) (h2 : ρ.1 5 2 = σ.1 5 2) (h3 : ρ.1 82 10 = σ.1 82 10) (h4 : ρ.1 82 11 = σ.1 82 11) (r : Rt σ) : Rt ρ := by
  unfold Rt at r ⊢
  rw [h 6 (by decide), h 89 (by decide), h1, h2, h3, h4]
  exact r
theorem Ri_c {σ ρ : ax_S} {k a b : Nat} (h : ∀ x, x ∈ [8, 101, 102, 103] ∨ (a ≤ x ∧ x ≤ a + 8) ∨ (b ≤ x ∧ x ≤ b + 4) → ρ.1 x = σ.1 x) (r : Ri σ k a b) : Ri ρ k a b := by
  unfold Ri at r ⊢
  rw [h a (Or.inr (Or.inl (by omega))), h 8 (Or.inl (by decide)), h 101 (Or.inl (by decide)), h 102 (Or.inl (by decide)), h 103 (Or.inl (by decide)), kcb_c (σ := σ) (ρ := ρ) (a := a) (fun x h1 h2 => h x (Or.inr (Or.inl ⟨h1, h2⟩))), h b (Or.inr (Or.inr (by omega))), h (b + 1) (Or.inr (Or.inr (by omega))), h (b + 2) (Or.inr (Or.inr (by omega))), h (b + 3) (Or.inr (Or.inr (by omega))), h (b + 4) (Or.inr (Or.inr (by omega)))]
  exact r
theorem Rtr_c {σ ρ : ax_S} (h : ∀ a, a ∈ [81, 104] → ρ.1 a = σ.1 a) (h1 : ρ.1 80 1 = σ.1 80 1) (h2 : ρ.1 82 43 = σ.1 82 43) (r : Rtr σ) : Rtr ρ := by
  unfold Rtr at r ⊢
  rw [h 81 (by decide), h 104 (by decide), h1, h2]
  exact r
/-- all but what the class keeps of its trees -/
def RA (σ : ax_S) : Prop := Rd σ ∧ Rk σ ∧ Rs σ ∧ Rt σ ∧ Ri σ 0 23 32 ∧ Ri σ 1 38 47 ∧ Rtr σ ∧ Rf σ
/-- places of the reference that no one asks for later -/
abbrev q82 (k : Nat) : Prop := k ≠ 1 ∧ k ≠ 7 ∧ k ≠ 10 ∧ k ≠ 11 ∧ k ≠ 43
/-- what an ask may leave changed of the reference: its scratch -/
abbrev Sc (σ ρ : ax_S) : Prop := sm [82, 87, 90, 91, 92, 93, 94, 95, 96, 97, 98, 99, 100] σ ρ ∧ (ρ.1 82 1 = σ.1 82 1 ∧ ρ.1 82 7 = σ.1 82 7 ∧ ρ.1 82 10 = σ.1 82 10 ∧ ρ.1 82 11 = σ.1 82 11 ∧ ρ.1 82 43 = σ.1 82 43)
theorem RA_Sc {σ ρ : ax_S} (h : Sc σ ρ) (r : RA σ) : RA ρ := by
  obtain ⟨⟨h1, -⟩, f1, f7, f10, f11, f43⟩ := h
  obtain ⟨r1, r2, r3, r4, r5, r6, r7, r8⟩ := r
  refine ⟨Rd_c (fun a ha => h1 a ?_) r1, Rk_c (fun a ha => h1 a ?_) f7 r2, Rs_c (fun a ha => h1 a ?_) r3, Rt_c (fun a ha => h1 a ?_) (by rw [h1 5 (by decide)]) (by rw [h1 5 (by decide)]) f10 f11 r4, Ri_c (fun a ha => h1 a ?_) r5, Ri_c (fun a ha => h1 a ?_) r6, Rtr_c (fun a ha => h1 a ?_) (by rw [h1 80 (by decide)]) f43 r7, ?_⟩
  all_goals first | (simp only [List.mem_cons, List.not_mem_nil, or_false] at ha ⊢; omega) | skip
  unfold Rf
  rw [f1, h1 0 (by decide)]
  exact r8
theorem Sc_0 (σ : ax_S) : Sc σ (sI σ 82 0 0) := ⟨(sm.rf _ _).set _ _ (by decide), sI_k _ (by decide), sI_k _ (by decide), sI_k _ (by decide), sI_k _ (by decide), sI_k _ (by decide)⟩
