/-! THE PUBLIC METHODS, 25: an ask, the class's whole -/
theorem as_c {σ τ : ax_S} (h : sm [80] σ τ) : cr τ = cr σ ∧ kc τ = kc σ ∧ τ.1 17 = σ.1 17 ∧ τ.1 19 = σ.1 19 ∧ τ.1 20 = σ.1 20 := by
  refine ⟨?_, kcb_c (σ := σ) (ρ := τ) (a := 8) (fun b h1 h2 => h.1 b (fun q => by simp only [List.mem_cons, List.not_mem_nil, or_false] at q; omega)), h.1 17 (by decide), h.1 19 (by decide), h.1 20 (by decide)⟩
  funext i m
  unfold cr
  rw [h.1 21 (by decide)]
theorem knd_15 (K mo : Nat → Int32) (row : Nat → Nat → Int32) (c : Nat) : knd K mo row c = 1 ∨ knd K mo row c = 2 ∨ knd K mo row c = 3 ∨ knd K mo row c = 4 ∨ knd K mo row c = 5 := by
  unfold knd
  split
  · split
    · exact Or.inr (Or.inr (Or.inl rfl))
    · split
      · exact Or.inr (Or.inr (Or.inr (Or.inl rfl)))
      · exact Or.inl rfl
  · split
    · exact Or.inr (Or.inl rfl)
    · split
      · exact Or.inr (Or.inl rfl)
      · exact Or.inr (Or.inr (Or.inr (Or.inr rfl)))
theorem s_answer (d : Nat) {σ : ax_S} {n c : Nat} (w : Int32) (hs : σ.1 17 0 = nI n) (hn : n ≤ 12) (hm : moP (σ.1 20) n) (hc : c < n) : ∃ τ, cI sO (d + 7) 183 [.ref 80, .ref 7, .int (nI c), .int w] σ = some (askV (nI c) (knd (kc σ) (σ.1 20) (cr σ) c) (σ.1 19 c) (ths (cr σ c)) (sts (cr σ c)) (rse (kc σ) (cr σ c)) w, τ) ∧ sm [80, 81] σ τ ∧ τ.1 80 1 = nI (askL (knd (kc σ) (σ.1 20) (cr σ) c) w).length ∧ ∀ i, i < (askL (knd (kc σ) (σ.1 20) (cr σ) c) w).length → τ.1 81 i = ((askL (knd (kc σ) (σ.1 20) (cr σ) c) w)[i]?).getD 0 := by
  have K : ∀ τ, sm [80] σ τ → cI sO (d + 6) 179 [.ref 7, .int (nI c)] τ = some (knd (kc σ) (σ.1 20) (cr σ) c, τ) := fun τ h => by
    obtain ⟨e1, e2, e3, e4, e5⟩ := as_c h
    rw [s_kindOf (d + 2) (by rw [e3]; exact hs) hn (by rw [e5]; exact hm) hc, e1, e2, e5]
  have Y : ∀ τ, sm [80] σ τ → cI sO (d + 6) 91 [.ref 17, .int (nI c)] τ = some (σ.1 19 c, τ) := fun τ h => by
    obtain ⟨e1, e2, e3, e4, e5⟩ := as_c h
    rw [s_yearOf (d + 5) (by rw [e3]; exact hs) hn hc, e4]
  have T : ∀ τ, sm [80] σ τ → cI sO (d + 6) 184 [.ref 17, .int (nI c)] τ = some (ths (cr σ c), τ) := fun τ h => by
    obtain ⟨e1, e2, e3, e4, e5⟩ := as_c h
    rw [s_thingsOf (d + 4) (by rw [e3]; exact hs) hn hc, e1]
    rfl
  have S : ∀ τ, sm [80] σ τ → cI sO (d + 6) 103 [.ref 17, .int (nI c)] τ = some (sts (cr σ c), τ) := fun τ h => by
    obtain ⟨e1, e2, e3, e4, e5⟩ := as_c h
    rw [s_stainsOf (d + 4) (by rw [e3]; exact hs) hn hc, e1]
    rfl
  have R : ∀ τ, sm [80] σ τ → cI sO (d + 6) 111 [.ref 7, .int (nI c)] τ = some (rse (kc σ) (cr σ c), τ) := fun τ h => by
    obtain ⟨e1, e2, e3, e4, e5⟩ := as_c h
    rw [s_riseOf (d + 4) (by rw [e3]; exact hs) hn hc, e1, e2]
  have kk := knd_15 (kc σ) (σ.1 20) (cr σ) c
  generalize knd (kc σ) (σ.1 20) (cr σ) c = ki at K kk ⊢
  have m1 : sm [80] σ (sI (sI σ 80 1 0) 80 2 (nI c)) := ((sm.rf _ _).set _ _ (by decide)).set _ _ (by decide)
  have m2 : sm [80] σ (sI (sI (sI σ 80 1 0) 80 2 (nI c)) 80 3 ki) := m1.set _ _ (by decide)
  have m3 : sm [80] σ (sI (sI (sI (sI σ 80 1 0) 80 2 (nI c)) 80 3 ki) 80 4 (σ.1 19 c)) := m2.set _ _ (by decide)
  have m4 : sm [80] σ (sI (sI (sI (sI (sI σ 80 1 0) 80 2 (nI c)) 80 3 ki) 80 4 (σ.1 19 c)) 80 5 (ths (cr σ c))) := m3.set _ _ (by decide)
  have m5 : sm [80] σ (sI (sI (sI (sI (sI (sI σ 80 1 0) 80 2 (nI c)) 80 3 ki) 80 4 (σ.1 19 c)) 80 5 (ths (cr σ c))) 80 6 (sts (cr σ c))) := m4.set _ _ (by decide)
  have m6 : sm [80] σ (sI (sI (sI (sI (sI (sI (sI σ 80 1 0) 80 2 (nI c)) 80 3 ki) 80 4 (σ.1 19 c)) 80 5 (ths (cr σ c))) 80 6 (sts (cr σ c))) 80 7 (rse (kc σ) (cr σ c))) := m5.set _ _ (by decide)
  have fs : askF (sI (sI (sI (sI (sI (sI (sI σ 80 1 0) 80 2 (nI c)) 80 3 ki) 80 4 (σ.1 19 c)) 80 5 (ths (cr σ c))) 80 6 (sts (cr σ c))) 80 7 (rse (kc σ) (cr σ c))) (nI c) ki (σ.1 19 c) (ths (cr σ c)) (sts (cr σ c)) (rse (kc σ) (cr σ c)) := by
    refine ⟨?_, ?_, ?_, ?_, ?_, sI_1 _ _ _ _⟩
    · rw [sI_k _ (by decide), sI_k _ (by decide), sI_k _ (by decide), sI_k _ (by decide), sI_k _ (by decide), sI_1]
    · rw [sI_k _ (by decide), sI_k _ (by decide), sI_k _ (by decide), sI_k _ (by decide), sI_1]
    · rw [sI_k _ (by decide), sI_k _ (by decide), sI_k _ (by decide), sI_1]
    · rw [sI_k _ (by decide), sI_k _ (by decide), sI_1]
    · rw [sI_k _ (by decide), sI_1]
  have f1 : (sI (sI (sI (sI (sI (sI (sI σ 80 1 0) 80 2 (nI c)) 80 3 ki) 80 4 (σ.1 19 c)) 80 5 (ths (cr σ c))) 80 6 (sts (cr σ c))) 80 7 (rse (kc σ) (cr σ c))).1 80 1 = nI 0 := by
    rw [sI_k _ (by decide), sI_k _ (by decide), sI_k _ (by decide), sI_k _ (by decide), sI_k _ (by decide), sI_k _ (by decide), sI_1]
    rfl
  have e0 : ∀ τ v, cI sO (d + 6) 186 [.ref 80, .int (bdy ki w), .int (nI 0)] (sI (sI (sI (sI (sI (sI (sI σ 80 1 0) 80 2 (nI c)) 80 3 ki) 80 4 (σ.1 19 c)) 80 5 (ths (cr σ c))) 80 6 (sts (cr σ c))) 80 7 (rse (kc σ) (cr σ c))) = some (v, τ) → cI sO (d + 7) 183 [.ref 80, .ref 7, .int (nI c), .int w] σ = some (v, τ) := fun τ v h => by
    refine cI_ev mi_183 ((u_183_80_7 (d + 2) σ _ _).trans ?_) rfl
    rw [K _ m1, Option.bind_some]
    (try simp only)
    rw [Y _ m2, Option.bind_some]
    (try simp only)
    rw [T _ m3, Option.bind_some]
    (try simp only)
    rw [S _ m4, Option.bind_some]
    (try simp only)
    rw [R _ m5, Option.bind_some]
    (try simp only)
    rw [s_bodyOf _ _ fs.2.1, Option.bind_some]
    (try simp only)
    rw [show (0 : Int32) = nI 0 from rfl] at h ⊢
    rw [h, Option.bind_some]
  generalize sI (sI (sI (sI (sI (sI (sI σ 80 1 0) 80 2 (nI c)) 80 3 ki) 80 4 (σ.1 19 c)) 80 5 (ths (cr σ c))) 80 6 (sts (cr σ c))) 80 7 (rse (kc σ) (cr σ c)) = σ6 at m6 fs f1 e0
  have l16 : (askL ki w).length ≤ 16 := by
    unfold askL
    repeat' split
    all_goals decide
  obtain ⟨τ, e, h1, h2, h3, h4, h5⟩ := run_all (D := d) (w := w) kk σ6 0 f1 (by omega) fs
  refine ⟨τ, e0 _ _ e, (m6.up (by decide)).tr h1, by rw [h3, Nat.zero_add], fun i hi => ?_⟩
  have := h5 i hi
  rw [Nat.zero_add] at this
  exact this
