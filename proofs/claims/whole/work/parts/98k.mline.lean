/-! A CARD'S TEXT: a line of beats, a line of heat, the reference's -/
theorem u180L (d : Nat) (σ : ax_S) (Ls : List Value) : ev sO (d + 6) 221 180 Ls [] σ = some (none, σ) := E_rV c_221_180 mi_221
abbrev mlf (σ ρ : ax_S) : Prop := sm [82, 90] σ ρ ∧ (∀ f, nq f → f ≠ 20 → ρ.1 82 f = σ.1 82 f) ∧ ∀ k, k < 3 → ρ.1 90 k = σ.1 90 k
theorem m_said (d : Nat) {σ : ax_S} {b : Nat → Int32} {n : Nat} {T : TK} {s : Bool} (h : MSt σ b n T) {x : Int32} (hx : x = if s then 1 else 0) (X : ax_S → Option (Option Value × ax_S)) : ∃ θ, (if x = 1 then ((cV sO d 212 [.ref 82, .int 4] σ).bind X) else X σ) = X θ ∧ mfr σ θ ∧ MSt θ b n (pF s T) := by
  unfold pF
  by_cases q : s = true
  · rw [if_pos q] at hx ⊢
    obtain ⟨θ, e1, e2, e3⟩ := m_bad d h (j := 4) (by omega) (by omega)
    refine ⟨θ, ?_, e2, e3⟩
    rw [if_pos hx, show (4 : Int32) = nI 4 from rfl, e1, Option.bind_some]
  · rw [if_neg q] at hx ⊢
    exact ⟨σ, by rw [hx, if_neg (by decide)], mfr.rf _, h⟩
theorem nmT_F (s : Bool) (b : Nat → Int32) (W : List Int32) (T : TK) : nmT b W (pF s T) ↔ nmT b W T := by
  have e : (pF s T).2.2 = T.2.2 := by
    unfold pF
    split
    · exact pB_e 4 T
    · rfl
  unfold nmT
  rw [e]
theorem pgM_c {σ ρ : ax_S} {S : Nat → Bool} {A : Nat → Int32} (h20 : ρ.1 82 20 = σ.1 82 20) (h90 : ρ.1 90 = σ.1 90) (h : pgM σ S A) : pgM ρ S A := by
  unfold pgM at h ⊢
  rw [h20, h90]
  exact h
theorem had_1 {x : Int32} {S : Nat → Bool} {k : Nat} (hk : k < 32) (h : ∀ j, j < 11 → j ≠ 9 → bt x j = S j) : ∀ j, j < 11 → j ≠ 9 → bt (x ||| (1 <<< (nI k &&& 31))) j = Sad S k j := fun j hj h9 => by
  rw [bt_or, h j hj h9]
  show (S j || bt (b1 k) j) = (S j || decide (j = k))
  rw [bt_1 hk (by omega)]
/-- one mark more is laid -/
theorem m_lay2 (d : Nat) {σ : ax_S} {b : Nat → Int32} {n k : Nat} {T : TK} {A : Nat → Int32} {v w : Int32} (h : MSt σ b n T) (hp : pmA (σ.1 90) A) (hk : k < 11) (h0 : A k = 0) (hv : (v < 0 ∧ w = -1000000) ∨ (¬ v < 0 ∧ w = v)) : ∃ ρ, cV sO d 225 [.ref 82, .int (nI k), .int v] σ = some ρ ∧ sm [90] σ ρ ∧ MSt ρ b n T ∧ (∀ k, k < 3 → ρ.1 90 k = σ.1 90 k) ∧ pmA (ρ.1 90) (upd A k w) := by
  refine ⟨_, m_lay d σ v hk, ((sm.rf _ _).set _ _ (by decide)).set _ _ (by decide), MSt_c ?_ ?_ h, fun j hj => ?_, ?_⟩
  · rw [sI_n _ _ (by decide), sI_n _ _ (by decide)]
  · rw [sI_n _ _ (by decide), sI_n _ _ (by decide)]
  · rw [sI_k _ (by omega), sI_k _ (by omega)]
  · rw [lay_u]
    exact pmA_lay hp hk h0 hv
theorem m_lineB (d : Nat) {σ : ax_S} {b : Nat → Int32} {n : Nat} {T T1 T2 T3 T4 : TK} {S : Nat → Bool} {A : Nat → Int32} (x1 x2 : Int32) (q : rBP b n (S 10) T T1 T2 T3 T4) (h : MSt σ b n T) (t : T.1 = 0) (w5 : ¬ nmT b W1005 T) (w6 : ¬ nmT b W1006 T) (w7 : nmT b W1007 T) (hp : pgM σ S A) (hd : DRp S A) : ∃ ρ, cV sO (d + 6) 221 [.ref 82, .int x1, .int x2] σ = some ρ ∧ mlf σ ρ ∧ MSt ρ b n T4 ∧ (T4.1 = 0 → pgM ρ (Sad S 10) (upd A 10 (mkv b T2))) := by
  obtain ⟨p1, p2⟩ := hp
  have qq := q
  obtain ⟨q1, q2, q3, q4⟩ := q
  have ho := h.2.1
  have v5 : ¬ wordV b T = 6382692 := fun z => w5 ((ww_1005 ho).mp z).2
  have v6 : ¬ wordV b T = 1751474548 := fun z => w6 ((ww_1006 ho).mp z).2
  have v7 : wordV b T = 1650811252 := (ww_1007 ho).mpr ⟨t, w7⟩
  obtain ⟨θ, a1, a2, a3⟩ := m_said (d + 5) (s := S 10) h (x := ((σ.1 82 20) >>> ((10 : Int32) &&& 31)) &&& 1) ((bt_at (σ.1 82 20) (k := 10) (by omega)).trans (by rw [p1 10 (by omega) (by omega)])) (fun u => ev sO (d + 6) 221 77 [.ref 82, .int x1, .int x2, .long (1650811252 : Int64), .null, .int 10, .null, .null] [] u)
  rw [← q1] at a3
  have w7' : nmT b W1007 T1 := by rw [q1]; exact (nmT_F _ b _ T).mpr w7
  obtain ⟨t1, b1', b2, b3⟩ := m_must (d + 3) True a3
  rw [← pM_t (b := b) (n := n) (T := T1) w7', ← q2] at b3
  obtain ⟨v, t2, c1', c2, c3, c4⟩ := m_nos (d + 1) (σ := sI t1 82 20 (t1.1 82 20 ||| (1 <<< ((10 : Int32) &&& 31)))) 1 99 (by
    obtain ⟨⟨z1, z2, z3⟩, z4, z5, z6, z7, z8, z9, z10, z11⟩ := b3
    refine ⟨⟨z1, by rw [sI_k _ (by decide)]; exact z2, fun i hi => by rw [sI_n _ _ (by decide)]; exact z3 i hi⟩, z4, by rw [sI_k _ (by decide)]; exact z5, by rw [sI_k _ (by decide)]; exact z6, by rw [sI_k _ (by decide)]; exact z7, by rw [sI_k _ (by decide)]; exact z8, by rw [sI_k _ (by decide)]; exact z9, z10, fun y => by rw [sI_k _ (by decide)]; exact z11 y⟩)
  rw [← q3] at c3 c4
  obtain ⟨t3, d1, d2, d3⟩ := m_mustEnd (d + 2) c3
  rw [← q4] at d3
  have s3 : sm [82] σ t3 := (((a2.1.tr b2.1).set _ _ (by decide)).tr c2.1).tr d2.1
  have f3 : ∀ f, nq f → f ≠ 20 → t3.1 82 f = σ.1 82 f := fun f hf h20 => by rw [d2.2 f hf, c2.2 f hf, sI_k _ h20, b2.2 f hf, a2.2 f hf]
  have f20 : t3.1 82 20 = σ.1 82 20 ||| (1 <<< ((10 : Int32) &&& 31)) := by rw [d2.2 20 (by decide), c2.2 20 (by decide), sI_1, b2.2 20 (by decide), a2.2 20 (by decide)]
  have e90 : t3.1 90 = σ.1 90 := s3.1 90 (by decide)
  have head : ev sO (d + 6) 221 0 [.ref 82, .int x1, .int x2, .null, .null, .null, .null, .null] [] σ = (if t3.1 82 17 = 0 then ((cV sO (d + 5) 225 [.ref 82, .int 10, .int v] t3).bind fun u1 => some (none, u1)) else some (none, t3)) := by
    refine (u_221_82 d σ _ _).trans ?_
    rw [m_word (d + 5) h, Option.bind_some]
    simp only [lg_cmp_eq]
    rw [if_neg v5, if_neg v6, if_pos v7, v7, u_221_82p42 d σ _ rfl _ rfl _ _ rfl _ rfl _ rfl]
    simp only [lg_cmp_eq]
    rw [if_neg (by decide)]
    refine a1.trans ?_
    (try simp only)
    rw [u_221_82p77 d θ _ rfl _ rfl _ _ _ rfl _ rfl]
    simp only [lg_cmp_eq]
    rw [show (1 : Int32) = bi True from rfl, b1', Option.bind_some, if_neg (by decide)]
    have c1'' := c1'
    rw [show (bi True : Int32) = 1 from rfl, c1'', Option.bind_some]
    (try simp only)
    rw [d1, Option.bind_some, u_221_82p152 d t3 _ rfl _ rfl _ _ rfl _ rfl]
    simp only [lg_cmp_eq]
    rw [if_neg (show ¬ (1650811252 : Int64) = 1751474548 by decide)]
    simp only [u180L]
    split <;> rfl
  by_cases z : T4.1 = 0
  · obtain ⟨z3, hv, hs⟩ := rB_ok qq z
    have c4' := c4 z3
    obtain ⟨hw, -⟩ := mk_two (lo := 1) (hi := 99) (by decide) hv
    rw [← c4'] at hw
    obtain ⟨ρ, g1, g2, g3, g4, g5⟩ := m_lay2 (d + 5) (k := 10) (v := v) (w := mkv b T2) d3 (by rw [e90]; exact p2) (by omega) (hd.2.2.2 hs) hw
    refine ⟨ρ, cV_ev mi_221 (head.trans ?_) rfl, ⟨(s3.up (by decide)).tr (g2.up (by decide)), fun f hf h20 => by rw [g2.1 82 (by decide)]; exact f3 f hf h20, fun k hk => by rw [g4 k hk, e90]⟩, g3, fun _ => ⟨fun j hj h9 => ?_, g5⟩⟩
    · rw [if_pos ((c17 d3).mpr z), show (10 : Int32) = nI 10 from rfl, g1, Option.bind_some]
    · rw [g2.1 82 (by decide), f20]
      exact had_1 (k := 10) (by omega) p1 j hj h9
  · refine ⟨t3, cV_ev mi_221 (head.trans ?_) rfl, ⟨s3.up (by decide), f3, fun k hk => by rw [e90]⟩, d3, fun y => absurd y z⟩
    rw [if_neg (fun y => z ((c17 d3).mp y))]
theorem m_lineH (d : Nat) {σ : ax_S} {b : Nat → Int32} {n : Nat} {T T1 T2 T3 T4 T5 : TK} {S : Nat → Bool} {A : Nat → Int32} (x1 x2 : Int32) (q : rHP b n (S 8) T T1 T2 T3 T4 T5) (h : MSt σ b n T) (t : T.1 = 0) (w5 : ¬ nmT b W1005 T) (w6 : nmT b W1006 T) (hp : pgM σ S A) (hd : DRp S A) : ∃ ρ, cV sO (d + 6) 221 [.ref 82, .int x1, .int x2] σ = some ρ ∧ mlf σ ρ ∧ MSt ρ b n T5 ∧ (T5.1 = 0 → pgM ρ (Sad S 8) (upd (upd A 8 (mkv b T2)) 9 (mkv b T3))) := by
  obtain ⟨p1, p2⟩ := hp
  have qq := q
  obtain ⟨q1, q2, q3, q4, q5⟩ := q
  have ho := h.2.1
  have v5 : ¬ wordV b T = 6382692 := fun z => w5 ((ww_1005 ho).mp z).2
  have v6 : wordV b T = 1751474548 := (ww_1006 ho).mpr ⟨t, w6⟩
  obtain ⟨θ, a1, a2, a3⟩ := m_said (d + 5) (s := S 8) h (x := ((σ.1 82 20) >>> ((8 : Int32) &&& 31)) &&& 1) ((bt_at (σ.1 82 20) (k := 8) (by omega)).trans (by rw [p1 8 (by omega) (by omega)])) (fun u => ev sO (d + 6) 221 77 [.ref 82, .int x1, .int x2, .long (1751474548 : Int64), .null, .int 8, .null, .null] [] u)
  rw [← q1] at a3
  have w6' : nmT b W1006 T1 := by rw [q1]; exact (nmT_F _ b _ T).mpr w6
  obtain ⟨t1, b1', b2, b3⟩ := m_must (d + 3) True a3
  rw [← pM_t (b := b) (n := n) (T := T1) w6', ← q2] at b3
  obtain ⟨v, t2, c1', c2, c3, c4⟩ := m_nos (d + 1) (σ := sI t1 82 20 (t1.1 82 20 ||| (1 <<< ((8 : Int32) &&& 31)))) 0 9 (by
    obtain ⟨⟨z1, z2, z3⟩, z4, z5, z6, z7, z8, z9, z10, z11⟩ := b3
    refine ⟨⟨z1, by rw [sI_k _ (by decide)]; exact z2, fun i hi => by rw [sI_n _ _ (by decide)]; exact z3 i hi⟩, z4, by rw [sI_k _ (by decide)]; exact z5, by rw [sI_k _ (by decide)]; exact z6, by rw [sI_k _ (by decide)]; exact z7, by rw [sI_k _ (by decide)]; exact z8, by rw [sI_k _ (by decide)]; exact z9, z10, fun y => by rw [sI_k _ (by decide)]; exact z11 y⟩)
  rw [← q3] at c3 c4
  obtain ⟨v2, t2b, k1, k2, k3, k4⟩ := m_nos (d + 1) 1 99 c3
  rw [← q4] at k3 k4
  obtain ⟨t3, d1, d2, d3⟩ := m_mustEnd (d + 2) k3
  rw [← q5] at d3
  have s3 : sm [82] σ t3 := ((((a2.1.tr b2.1).set _ _ (by decide)).tr c2.1).tr k2.1).tr d2.1
  have f3 : ∀ f, nq f → f ≠ 20 → t3.1 82 f = σ.1 82 f := fun f hf h20 => by rw [d2.2 f hf, k2.2 f hf, c2.2 f hf, sI_k _ h20, b2.2 f hf, a2.2 f hf]
  have f20 : t3.1 82 20 = σ.1 82 20 ||| (1 <<< ((8 : Int32) &&& 31)) := by rw [d2.2 20 (by decide), k2.2 20 (by decide), c2.2 20 (by decide), sI_1, b2.2 20 (by decide), a2.2 20 (by decide)]
  have e90 : t3.1 90 = σ.1 90 := s3.1 90 (by decide)
  have p152 : ∀ u : ax_S, ev sO (d + 6) 221 152 [.ref 82, .int x1, .int x2, .long (1751474548 : Int64), .null, .int 8, .int v, .int v2] [] u = if u.1 82 17 = 0 then ((cV sO (d + 5) 225 [.ref 82, .int 9, .int v2] u).bind fun u1 => some (none, u1)) else some (none, u) := fun u => by
    rw [u_221_82p152 d u _ rfl _ rfl _ _ rfl _ rfl]
    simp only [lg_cmp_eq]
    rw [if_pos trivial]
    simp only [u180L]
  have head : ev sO (d + 6) 221 0 [.ref 82, .int x1, .int x2, .null, .null, .null, .null, .null] [] σ = (if t3.1 82 17 = 0 then ((cV sO (d + 5) 225 [.ref 82, .int 8, .int v] t3).bind fun u => if u.1 82 17 = 0 then ((cV sO (d + 5) 225 [.ref 82, .int 9, .int v2] u).bind fun u1 => some (none, u1)) else some (none, u)) else some (none, t3)) := by
    refine (u_221_82 d σ _ _).trans ?_
    rw [m_word (d + 5) h, Option.bind_some]
    simp only [lg_cmp_eq]
    rw [if_neg v5, if_pos v6, v6, u_221_82p42 d σ _ rfl _ rfl _ _ rfl _ rfl _ rfl]
    simp only [lg_cmp_eq]
    rw [if_pos trivial]
    refine a1.trans ?_
    (try simp only)
    rw [u_221_82p77 d θ _ rfl _ rfl _ _ _ rfl _ rfl]
    simp only [lg_cmp_eq]
    rw [show (1 : Int32) = bi True from rfl, b1', Option.bind_some, if_pos trivial]
    rw [show (bi True : Int32) = 1 from rfl, c1', Option.bind_some]
    (try simp only)
    rw [k1, Option.bind_some]
    (try simp only)
    rw [d1, Option.bind_some]
    simp only [p152]
    by_cases y : t3.1 82 17 = 0
    · rw [if_pos y, if_pos trivial, if_pos y]
    · rw [if_neg y, if_neg y, if_neg y]
  by_cases z : T5.1 = 0
  · obtain ⟨z4, z3, hv2, hv, hs⟩ := rH_ok qq z
    have c4' := c4 z3
    have k4' := k4 z4
    obtain ⟨hw, -⟩ := mk_two (lo := 0) (hi := 9) (by decide) hv
    obtain ⟨hw2, -⟩ := mk_two (lo := 1) (hi := 99) (by decide) hv2
    rw [← c4'] at hw
    rw [← k4'] at hw2
    obtain ⟨ρ, g1, g2, g3, g4, g5⟩ := m_lay2 (d + 5) (k := 8) (v := v) (w := mkv b T2) d3 (by rw [e90]; exact p2) (by omega) (hd.2.2.1 hs).1 hw
    obtain ⟨ρ2, i1, i2, i3, i4, i5⟩ := m_lay2 (d + 5) (k := 9) (v := v2) (w := mkv b T3) g3 g5 (by omega) (by rw [upd_n _ _ (by decide)]; exact (hd.2.2.1 hs).2) hw2
    refine ⟨ρ2, cV_ev mi_221 (head.trans ?_) rfl, ⟨((s3.up (by decide)).tr (g2.up (by decide))).tr (i2.up (by decide)), fun f hf h20 => by rw [i2.1 82 (by decide), g2.1 82 (by decide)]; exact f3 f hf h20, fun k hk => by rw [i4 k hk, g4 k hk, e90]⟩, i3, fun _ => ⟨fun j hj h9 => ?_, i5⟩⟩
    · rw [if_pos ((c17 d3).mpr z), show (8 : Int32) = nI 8 from rfl, g1, Option.bind_some, if_pos ((c17 g3).mpr z), show (9 : Int32) = nI 9 from rfl, i1, Option.bind_some]
    · rw [i2.1 82 (by decide), g2.1 82 (by decide), f20]
      exact had_1 (k := 8) (by omega) p1 j hj h9
  · refine ⟨t3, cV_ev mi_221 (head.trans ?_) rfl, ⟨s3.up (by decide), f3, fun k hk => by rw [e90]⟩, d3, fun y => absurd y z⟩
    rw [if_neg (fun y => z ((c17 d3).mp y))]
