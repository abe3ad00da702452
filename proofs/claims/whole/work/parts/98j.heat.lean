/-! A CARD'S TEXT: a line of beats, a line of heat -/
def rBP (b : Nat → Int32) (n : Nat) (s : Bool) (T T1 T2 T3 T4 : TK) : Prop := T1 = pF s T ∧ T2 = pM b n (nmT b W1007 T1) T1 ∧ T3 = pK b n 1 99 T2 ∧ T4 = pM b n (T3.2.2.1 = 4) T3
theorem rBP_ex (b : Nat → Int32) (n : Nat) (s : Bool) (T : TK) : ∃ T1 T2 T3 T4, rBP b n s T T1 T2 T3 T4 := ⟨_, _, _, _, rfl, rfl, rfl, rfl⟩
def rHP (b : Nat → Int32) (n : Nat) (s : Bool) (T T1 T2 T3 T4 T5 : TK) : Prop := T1 = pF s T ∧ T2 = pM b n (nmT b W1006 T1) T1 ∧ T3 = pK b n 0 9 T2 ∧ T4 = pK b n 1 99 T3 ∧ T5 = pM b n (T4.2.2.1 = 4) T4
theorem rHP_ex (b : Nat → Int32) (n : Nat) (s : Bool) (T : TK) : ∃ T1 T2 T3 T4 T5, rHP b n s T T1 T2 T3 T4 T5 := ⟨_, _, _, _, _, rfl, rfl, rfl, rfl, rfl⟩
theorem rB_ok {b : Nat → Int32} {n : Nat} {s : Bool} {T T1 T2 T3 T4 : TK} (q : rBP b n s T T1 T2 T3 T4) (h : T4.1 = 0) : T3.1 = 0 ∧ (T2.2.2.1 = 5 ∨ (T2.2.2.1 = 3 ∧ rgP 1 99 (vT b T2))) ∧ s = false := by
  obtain ⟨q1, q2, q3, q4⟩ := q
  rw [q4] at h
  have h3 := (pM_ok h).1
  have h3' := h3
  rw [q3] at h3'
  obtain ⟨h2, hv⟩ := pK_ok h3'
  rw [q2] at h2
  have h1 := (pM_ok h2).1
  rw [q1] at h1
  exact ⟨h3, hv, (pF_ok h1).2.1⟩
theorem rH_ok {b : Nat → Int32} {n : Nat} {s : Bool} {T T1 T2 T3 T4 T5 : TK} (q : rHP b n s T T1 T2 T3 T4 T5) (h : T5.1 = 0) : T4.1 = 0 ∧ T3.1 = 0 ∧ (T3.2.2.1 = 5 ∨ (T3.2.2.1 = 3 ∧ rgP 1 99 (vT b T3))) ∧ (T2.2.2.1 = 5 ∨ (T2.2.2.1 = 3 ∧ rgP 0 9 (vT b T2))) ∧ s = false := by
  obtain ⟨q1, q2, q3, q4, q5⟩ := q
  rw [q5] at h
  have h4 := (pM_ok h).1
  have h4' := h4
  rw [q4] at h4'
  obtain ⟨h3, hv⟩ := pK_ok h4'
  have h3' := h3
  rw [q3] at h3'
  obtain ⟨h2, hv2⟩ := pK_ok h3'
  rw [q2] at h2
  have h1 := (pM_ok h2).1
  rw [q1] at h1
  exact ⟨h4, h3, hv, hv2, (pF_ok h1).2.1⟩
theorem rB_go {b : Nat → Int32} {n : Nat} {s : Bool} {T T1 T2 T3 T4 : TK} (q : rBP b n s T T1 T2 T3 T4) (he : tE T ≤ n) (h : T4.1 = 0) (s1 : T4.2.2.1 ≠ 1) : tE T < tE T4 := by
  obtain ⟨q1, q2, q3, q4⟩ := q
  have e1 : eOK n T T1 := by rw [q1]; exact pF_E n s T
  have e2 : eOK n T1 T2 := by rw [q2]; exact pM_E b n _ T1
  have e3 : eOK n T2 T3 := by rw [q3]; exact pK_E b n _ _ T2
  rw [q4] at h s1 ⊢
  exact pM_go ((e1.tr e2).tr e3) he h s1
theorem rH_go {b : Nat → Int32} {n : Nat} {s : Bool} {T T1 T2 T3 T4 T5 : TK} (q : rHP b n s T T1 T2 T3 T4 T5) (he : tE T ≤ n) (h : T5.1 = 0) (s1 : T5.2.2.1 ≠ 1) : tE T < tE T5 := by
  obtain ⟨q1, q2, q3, q4, q5⟩ := q
  have e1 : eOK n T T1 := by rw [q1]; exact pF_E n s T
  have e2 : eOK n T1 T2 := by rw [q2]; exact pM_E b n _ T1
  have e3 : eOK n T2 T3 := by rw [q3]; exact pK_E b n _ _ T2
  have e4 : eOK n T3 T4 := by rw [q4]; exact pK_E b n _ _ T3
  rw [q5] at h s1 ⊢
  exact pM_go (((e1.tr e2).tr e3).tr e4) he h s1
/-! the class's -/
noncomputable def rbX (d : Nat) (σ : ax_S) : Option (Option Value × ax_S) := (cV sO (d + 5) 48 [.ref 5, .ref 1007] (sI σ 61 5 1)).bind fun u0 => (cI sO (d + 5) 73 [.ref 5, .int 1, .int 99] u0).bind fun u1 => (cV sO (d + 5) 53 [.ref 5] (sI u1.2 62 10 u1.1)).bind fun u2 => some (none, u2)
noncomputable def rhX (d : Nat) (σ : ax_S) : Option (Option Value × ax_S) := (cV sO (d + 5) 48 [.ref 5, .ref 1006] (sI σ 61 4 1)).bind fun u0 => (cI sO (d + 5) 73 [.ref 5, .int 0, .int 9] u0).bind fun u1 => (cI sO (d + 5) 73 [.ref 5, .int 1, .int 99] (sI u1.2 62 8 u1.1)).bind fun u2 => (cV sO (d + 5) 53 [.ref 5] (sI u2.2 62 9 u2.1)).bind fun u3 => some (none, u3)
theorem s_seen (d : Nat) {σ : ax_S} {b : Nat → Int32} {n : Nat} {L : Int32} {T : TK} {s : Bool} (h : CSt σ b n L T) {x : Int32} (hx : x = if s then 1 else 0) (X : ax_S → Option (Option Value × ax_S)) : ∃ θ, (if x = 0 then X σ else ((cV sO d 47 [.ref 5, .int 4] σ).bind X)) = X θ ∧ sm [5] σ θ ∧ CSt θ b n L (pF s T) := by
  unfold pF
  by_cases q : s = true
  · rw [if_pos q] at hx ⊢
    obtain ⟨θ, e1, e2, e3⟩ := s_blame d h (j := 4) (by omega) (by omega)
    refine ⟨θ, ?_, e2, e3⟩
    rw [hx, if_neg (by decide), show (4 : Int32) = nI 4 from rfl, e1, Option.bind_some]
  · rw [if_neg q] at hx ⊢
    exact ⟨σ, by rw [if_pos hx], sm.rf _ _, h⟩
theorem s_readBeat (d : Nat) {σ : ax_S} {b : Nat → Int32} {n : Nat} {L : Int32} {T T1 T2 T3 T4 : TK} {S : Nat → Bool} {A : Nat → Int32} (q : rBP b n (S 10) T T1 T2 T3 T4) (h : CSt σ b n L T) (hp : pgC σ S A) : ∃ τ, cV sO (d + 6) 77 [.ref 61, .ref 5] σ = some τ ∧ sm [5, 61, 62] σ τ ∧ CSt τ b n L T4 ∧ τ.1 61 0 = σ.1 61 0 ∧ τ.1 61 1 = σ.1 61 1 ∧ (T4.1 = 0 → pgC τ (Sad S 10) (upd A 10 (mkv b T2))) := by
  obtain ⟨p1, p2, p3, p4⟩ := hp
  have qq := q
  obtain ⟨q1, q2, q3, q4⟩ := q
  obtain ⟨θ, a1, a2, a3⟩ := s_seen (d + 5) (s := S 10) h p3 (rbX d)
  rw [← q1] at a3
  obtain ⟨t1, b1', b2, b3⟩ := s_pn_1007 d (σ := sI θ 61 5 1) (CSt_c (sI_n _ _ (by decide)) (sI_n _ _ (by decide)) a3)
  rw [← q2] at b3
  obtain ⟨v, t2, c1', c2, c3, c4⟩ := s_passMark (d + 1) 1 99 b3
  rw [← q3] at c3 c4
  obtain ⟨t3, d1, d2, d3⟩ := s_passStop (d + 2) (σ := sI t2 62 10 v) (CSt_c (sI_n _ _ (by decide)) (sI_n _ _ (by decide)) c3)
  rw [← q4] at d3
  have l61 : ∀ f, f ≠ 5 → t3.1 61 f = σ.1 61 f := fun f hf => by
    rw [d2.1 61 (by decide), sI_n _ _ (by decide), c2.1 61 (by decide), b2.1 61 (by decide), sI_k _ hf, a2.1 61 (by decide)]
  have l615 : t3.1 61 5 = 1 := by
    rw [d2.1 61 (by decide), sI_n _ _ (by decide), c2.1 61 (by decide), b2.1 61 (by decide), sI_1]
  have l62 : ∀ k, t3.1 62 k = if k = 10 then v else σ.1 62 k := fun k => by
    rw [d2.1 62 (by decide)]
    by_cases z : k = 10
    · rw [if_pos z, z, sI_1]
    · rw [if_neg z, sI_k _ z, c2.1 62 (by decide), b2.1 62 (by decide), sI_n _ _ (by decide), a2.1 62 (by decide)]
  refine ⟨t3, cV_ev mi_77 ((show ev sO (d + 6) 77 0 [.ref 61, .ref 5] [] σ = if σ.1 61 5 = 0 then rbX d σ else ((cV sO (d + 5) 47 [.ref 5, .int 4] σ).bind (rbX d)) from u_77_61_5 d σ).trans (a1.trans ?_)) rfl, ((((a2.up (by decide)).set _ _ (by decide)).tr (b2.up (by decide))).tr (c2.up (by decide))).set _ _ (by decide) |>.tr (d2.up (by decide)), d3, l61 0 (by decide), l61 1 (by decide), fun z => ⟨fun k hk => ?_, ?_, ?_, fun k hk => ?_⟩⟩
  · unfold rbX
    rw [b1', Option.bind_some, c1', Option.bind_some]
    (try simp only)
    rw [d1, Option.bind_some]
  · rw [l61 3 (by decide), p1 k hk, Sad_n _ (by omega)]
  · rw [l61 4 (by decide), p2, Sad_n _ (by decide)]
  · rw [l615, Sad_1, if_pos rfl]
  · rw [l62]
    by_cases y : k = 10
    · rw [if_pos y, y, upd_1]
      exact c4 (rB_ok qq z).1
    · rw [if_neg y, upd_n _ _ y]
      exact p4 k hk
theorem s_readHeat (d : Nat) {σ : ax_S} {b : Nat → Int32} {n : Nat} {L : Int32} {T T1 T2 T3 T4 T5 : TK} {S : Nat → Bool} {A : Nat → Int32} (q : rHP b n (S 8) T T1 T2 T3 T4 T5) (h : CSt σ b n L T) (hp : pgC σ S A) : ∃ τ, cV sO (d + 6) 76 [.ref 61, .ref 5] σ = some τ ∧ sm [5, 61, 62] σ τ ∧ CSt τ b n L T5 ∧ τ.1 61 0 = σ.1 61 0 ∧ τ.1 61 1 = σ.1 61 1 ∧ (T5.1 = 0 → pgC τ (Sad S 8) (upd (upd A 8 (mkv b T2)) 9 (mkv b T3))) := by
  obtain ⟨p1, p2, p3, p4⟩ := hp
  have qq := q
  obtain ⟨q1, q2, q3, q4, q5⟩ := q
  obtain ⟨θ, a1, a2, a3⟩ := s_seen (d + 5) (s := S 8) h p2 (rhX d)
  rw [← q1] at a3
  obtain ⟨t1, b1', b2, b3⟩ := s_pn_1006 d (σ := sI θ 61 4 1) (CSt_c (sI_n _ _ (by decide)) (sI_n _ _ (by decide)) a3)
  rw [← q2] at b3
  obtain ⟨v, t2, c1', c2, c3, c4⟩ := s_passMark (d + 1) 0 9 b3
  rw [← q3] at c3 c4
  obtain ⟨v2, t3, f1, f2, f3, f4⟩ := s_passMark (d + 1) (σ := sI t2 62 8 v) 1 99 (CSt_c (sI_n _ _ (by decide)) (sI_n _ _ (by decide)) c3)
  rw [← q4] at f3 f4
  obtain ⟨t4, d1, d2, d3⟩ := s_passStop (d + 2) (σ := sI t3 62 9 v2) (CSt_c (sI_n _ _ (by decide)) (sI_n _ _ (by decide)) f3)
  rw [← q5] at d3
  have l61 : ∀ f, f ≠ 4 → t4.1 61 f = σ.1 61 f := fun f hf => by
    rw [d2.1 61 (by decide), sI_n _ _ (by decide), f2.1 61 (by decide), sI_n _ _ (by decide), c2.1 61 (by decide), b2.1 61 (by decide), sI_k _ hf, a2.1 61 (by decide)]
  have l614 : t4.1 61 4 = 1 := by
    rw [d2.1 61 (by decide), sI_n _ _ (by decide), f2.1 61 (by decide), sI_n _ _ (by decide), c2.1 61 (by decide), b2.1 61 (by decide), sI_1]
  have l62 : ∀ k, t4.1 62 k = if k = 9 then v2 else if k = 8 then v else σ.1 62 k := fun k => by
    rw [d2.1 62 (by decide)]
    by_cases z : k = 9
    · rw [if_pos z, z, sI_1]
    · rw [if_neg z, sI_k _ z, f2.1 62 (by decide)]
      by_cases z : k = 8
      · rw [if_pos z, z, sI_1]
      · rw [if_neg z, sI_k _ z, c2.1 62 (by decide), b2.1 62 (by decide), sI_n _ _ (by decide), a2.1 62 (by decide)]
  refine ⟨t4, cV_ev mi_76 ((show ev sO (d + 6) 76 0 [.ref 61, .ref 5] [] σ = if σ.1 61 4 = 0 then rhX d σ else ((cV sO (d + 5) 47 [.ref 5, .int 4] σ).bind (rhX d)) from u_76_61_5 d σ).trans (a1.trans ?_)) rfl, ((((a2.up (by decide)).set _ _ (by decide)).tr (b2.up (by decide))).tr (c2.up (by decide))).set _ _ (by decide) |>.tr (f2.up (by decide)) |>.set _ _ (by decide) |>.tr (d2.up (by decide)), d3, l61 0 (by decide), l61 1 (by decide), fun z => ⟨fun k hk => ?_, ?_, ?_, fun k hk => ?_⟩⟩
  · unfold rhX
    rw [b1', Option.bind_some, c1', Option.bind_some]
    (try simp only)
    rw [f1, Option.bind_some]
    (try simp only)
    rw [d1, Option.bind_some]
  · rw [l61 3 (by decide), p1 k hk, Sad_n _ (by omega)]
  · rw [l614, Sad_1, if_pos rfl]
  · rw [l61 5 (by decide), p3, Sad_n _ (by decide)]
  · obtain ⟨z4, z3, -⟩ := rH_ok qq z
    rw [l62]
    by_cases y : k = 9
    · rw [if_pos y, y, upd_1]
      exact f4 z4
    · rw [if_neg y, upd_n _ _ y]
      by_cases y : k = 8
      · rw [if_pos y, y, upd_1]
        exact c4 z3
      · rw [if_neg y, upd_n _ _ y]
        exact p4 k hk
