/-! A CARD'S TEXT: a line that adds -/
def rAP (b : Nat → Int32) (n : Nat) (S : Nat → Bool) (T T1 T2 T3 T4 T5 T6 T7 : TK) : Prop := T1 = pM b n (nmT b W1005 T) T ∧ T2 = pH b 0 7 T1 ∧ T3 = pF (S (vT b T1).toNatClampNeg) T2 ∧ T4 = pU b n 0 7 T3 ∧ T5 = pK b n 1 99 T4 ∧ T6 = pU b n 0 3 T5 ∧ T7 = pM b n (T6.2.2.1 = 4) T6
theorem rAP_ex (b : Nat → Int32) (n : Nat) (S : Nat → Bool) (T : TK) : ∃ T1 T2 T3 T4 T5 T6 T7, rAP b n S T T1 T2 T3 T4 T5 T6 T7 := ⟨_, _, _, _, _, _, _, rfl, rfl, rfl, rfl, rfl, rfl, rfl⟩
theorem pH_ok {b : Nat → Int32} {lo hi : Int32} {T : TK} (h : (pH b lo hi T).1 = 0) : T.1 = 0 ∧ T.2.2.1 = 3 ∧ rgP lo.toInt hi.toInt (vT b T) ∧ pH b lo hi T = T := by
  refine pU_ok (n := 0) (b := b) (lo := lo) (hi := hi) (T := T) ?_
  unfold pU
  rw [pN_0 h]
theorem rA_ok {b : Nat → Int32} {n : Nat} {S : Nat → Bool} {T T1 T2 T3 T4 T5 T6 T7 : TK} (q : rAP b n S T T1 T2 T3 T4 T5 T6 T7) (h : T7.1 = 0) : T6.1 = 0 ∧ T5.1 = 0 ∧ T4.1 = 0 ∧ T2.1 = 0 ∧ T1.1 = 0 ∧ T2 = T1 ∧ T3 = T1 ∧ S (vT b T1).toNatClampNeg = false ∧ rgP 0 7 (vT b T1) ∧ rgP 0 3 (vT b T5) ∧ (T4.2.2.1 = 5 ∨ (T4.2.2.1 = 3 ∧ rgP 1 99 (vT b T4))) := by
  obtain ⟨q1, q2, q3, q4, q5, q6, q7⟩ := q
  rw [q7] at h
  have h6 := (pM_ok h).1
  have h6' := h6
  rw [q6] at h6'
  obtain ⟨h5, -, hs, -⟩ := pU_ok h6'
  have h5' := h5
  rw [q5] at h5'
  obtain ⟨h4, hv⟩ := pK_ok h5'
  have h4' := h4
  rw [q4] at h4'
  have h3 := (pU_ok h4').1
  rw [q3] at h3
  obtain ⟨h2, hS, e3⟩ := pF_ok h3
  have h2' := h2
  rw [q2] at h2'
  obtain ⟨h1, -, hr, e2⟩ := pH_ok h2'
  rw [← q2] at e2
  exact ⟨h6, h5, h4, h2, h1, e2, by rw [q3, e3, e2], hS, hr, hs, hv⟩
theorem rA_go {b : Nat → Int32} {n : Nat} {S : Nat → Bool} {T T1 T2 T3 T4 T5 T6 T7 : TK} (q : rAP b n S T T1 T2 T3 T4 T5 T6 T7) (he : tE T ≤ n) (h : T7.1 = 0) (s1 : T7.2.2.1 ≠ 1) : tE T < tE T7 := by
  obtain ⟨q1, q2, q3, q4, q5, q6, q7⟩ := q
  have e1 : eOK n T T1 := by rw [q1]; exact pM_E b n _ T
  have e2 : eOK n T1 T2 := by rw [q2]; exact pH_E b n _ _ T1
  have e3 : eOK n T2 T3 := by rw [q3]; exact pF_E n _ T2
  have e4 : eOK n T3 T4 := by rw [q4]; exact pU_E b n _ _ T3
  have e5 : eOK n T4 T5 := by rw [q5]; exact pK_E b n _ _ T4
  have e6 : eOK n T5 T6 := by rw [q6]; exact pU_E b n _ _ T5
  rw [q7] at h s1 ⊢
  exact pM_go (((((e1.tr e2).tr e3).tr e4).tr e5).tr e6) he h s1
/-- what is added -/
def avl (b : Nat → Int32) (G : Int32 → Int32) (T4 T5 : TK) : Int32 := if T4.2.2.1 = 5 then -1000000 else vT b T4 * G (vT b T5)
theorem grn_r {K : Nat → Int32} {m : Nat} (x y z : Int32) (h : ∀ k, k < m → 1 ≤ (K (2 + 4 * k + 3)).toInt ∧ (K (2 + 4 * k + 3)).toInt ≤ 99) : 1 ≤ (grn K x y z m).toInt ∧ (grn K x y z m).toInt ≤ 99 := by
  unfold grn
  refine it_inv (P := fun _ (s : Int32 × Int32) => 1 ≤ s.2.toInt ∧ s.2.toInt ≤ 99) (N := m) ⟨by decide, by decide⟩ (fun k t hk hp => ?_) m (Nat.le_refl _)
  unfold grF
  split
  · exact h k hk
  · exact hp
theorem mul_99 {x y : Int32} (hx : 1 ≤ x.toInt ∧ x.toInt ≤ 99) (hy : 1 ≤ y.toInt ∧ y.toInt ≤ 99) : 0 ≤ (x * y).toInt ∧ (x * y).toInt ≤ 9999 := by
  have h1 : x.toInt * y.toInt ≤ 99 * 99 := Int.mul_le_mul hx.2 hy.2 (by omega) (by omega)
  have h0 : 0 ≤ x.toInt * y.toInt := Int.mul_nonneg (by omega) (by omega)
  rw [i_mul (by omega) (by omega)]
  omega
noncomputable def aaX (d : Nat) (k : Int32) (σ : ax_S) : Option (Option Value × ax_S) := (cI sO (d + 5) 50 [.ref 5, .int 0, .int 7] σ).bind fun u2 => (cI sO (d + 5) 73 [.ref 5, .int 1, .int 99] u2.2).bind fun u3 => (cI sO (d + 5) 50 [.ref 5, .int 0, .int 3] u3.2).bind fun u4 => (cV sO (d + 5) 53 [.ref 5] u4.2).bind fun u5 => (cI sO (d + 5) 74 [.int k] (sI u5 61 3 ((u5.1 61 3) ||| (1 <<< (k &&& 31))))).bind fun u6 => if u6.1 = 0 then (some (none, u6.2)) else (if u3.1 = -1000000 then (gd (0 ≤ k.toInt ∧ k.toInt < (11 : Nat)) (some (none, (sI u6.2 62 k.toNatClampNeg (-1000000))))) else ((cI sO (d + 5) 75 [.ref 8, .int u4.1, .int (u6.2.1 61 0), .int (u6.2.1 61 1)] u6.2).bind fun u7 => gd (0 ≤ k.toInt ∧ k.toInt < (11 : Nat)) (some (none, (sI u7.2 62 k.toNatClampNeg (u3.1 * u7.1))))))
theorem s_readAdd (d : Nat) {σ : ax_S} {b : Nat → Int32} {n m : Nat} {L : Int32} {T T1 T2 T3 T4 T5 T6 T7 : TK} {S : Nat → Bool} {A : Nat → Int32} (q : rAP b n S T T1 T2 T3 T4 T5 T6 T7) (h : CSt σ b n L T) (hp : pgC σ S A) (hm : σ.1 8 1 = nI m) (hm16 : m ≤ 16) : ∃ τ, cV sO (d + 6) 72 [.ref 61, .ref 5, .ref 8] σ = some τ ∧ sm [5, 61, 62] σ τ ∧ CSt τ b n L T7 ∧ τ.1 61 0 = σ.1 61 0 ∧ τ.1 61 1 = σ.1 61 1 ∧ (T7.1 = 0 → pgC τ (Sad S (vT b T1).toNatClampNeg) (upd A (vT b T1).toNatClampNeg (avl b (fun s => grn (kc σ) s (σ.1 61 0) (σ.1 61 1) m) T4 T5))) := by
  obtain ⟨p1, p2, p3, p4⟩ := hp
  have qq := q
  obtain ⟨q1, q2, q3, q4, q5, q6, q7⟩ := q
  obtain ⟨t1, b1', b2, b3⟩ := s_pn_1005 d h
  rw [← q1] at b3
  obtain ⟨v1, t2, c1', c2, c3, c4, c5⟩ := s_numberHere (d + 3) 0 7 b3
  rw [← q2] at c3 c4 c5
  have hk : ∃ k, k < 8 ∧ v1 = nI k ∧ (T2.1 = 0 → (vT b T1).toNatClampNeg = k) := by
    by_cases z : T2.1 = 0
    · have z' := z
      rw [q2] at z'
      obtain ⟨-, -, hr, -⟩ := pH_ok z'
      obtain ⟨k, hk, ek⟩ := rgP_of (b := 7) (by omega) hr
      exact ⟨k, by omega, (c4 z).trans ek, fun _ => by rw [ek, nI_c (by omega)]⟩
    · exact ⟨0, by omega, c5 z, fun y => absurd y z⟩
  obtain ⟨k, hk8, ev1, ek⟩ := hk
  have l2 : ∀ f, t2.1 61 f = σ.1 61 f := fun f => by rw [c2.1 61 (by decide), b2.1 61 (by decide)]
  obtain ⟨θ, a1, a2, a3⟩ := s_seen (d + 5) (s := S k) c3 (x := ((t2.1 61 3) >>> (nI k &&& 31)) &&& 1) ((bt_at (t2.1 61 3) (k := k) (by omega)).trans (by rw [l2, p1 k hk8])) (aaX d (nI k))
  have e3 : pF (S k) T2 = T3 := by
    by_cases z : T2.1 = 0
    · rw [q3, ek z]
    · rw [q3, pF_n z, pF_n z]
  rw [e3] at a3
  obtain ⟨v2, t3, d1, d2, d3, d4, -⟩ := s_passNumber (d + 2) 0 7 a3
  rw [← q4] at d3 d4
  obtain ⟨v3, t4, f1, f2, f3, f4⟩ := s_passMark (d + 1) 1 99 d3
  rw [← q5] at f3 f4
  obtain ⟨v4, t5, g1, g2, g3, g4, -⟩ := s_passNumber (d + 2) 0 3 f3
  rw [← q6] at g3 g4
  obtain ⟨t6, i1, i2, i3⟩ := s_passStop (d + 2) g3
  rw [← q7] at i3
  have s6 : sm [5] σ t6 := (((((b2.tr c2).tr a2).tr d2).tr f2).tr g2).tr i2
  have hk11 := nI_g (show k < 11 by omega) (by omega)
  have e61 : ∀ f, t6.1 61 f = σ.1 61 f := fun f => by rw [s6.1 61 (by decide)]
  have hW : ∀ w : Int32, CSt (sI (sI t6 61 3 (σ.1 61 3 ||| (1 <<< (nI k &&& 31)))) 62 k w) b n L T7 := fun w => CSt_c (by rw [sI_n _ _ (by decide), sI_n _ _ (by decide)]) (by rw [sI_n _ _ (by decide), sI_n _ _ (by decide)]) i3
  have hS : ∀ w : Int32, sm [5, 61, 62] σ (sI (sI t6 61 3 (σ.1 61 3 ||| (1 <<< (nI k &&& 31)))) 62 k w) := fun w => ((s6.up (by decide)).set _ _ (by decide)).set _ _ (by decide)
  have h01 : ∀ (w : Int32) f, f ≠ 3 → (sI (sI t6 61 3 (σ.1 61 3 ||| (1 <<< (nI k &&& 31)))) 62 k w).1 61 f = σ.1 61 f := fun w f hf => by rw [sI_n _ _ (by decide), sI_k _ hf, e61]
  have hP : ∀ w : Int32, pgC (sI (sI t6 61 3 (σ.1 61 3 ||| (1 <<< (nI k &&& 31)))) 62 k w) (Sad S k) (upd A k w) := fun w => by
    refine ⟨fun j hj => ?_, ?_, ?_, fun j hj => ?_⟩
    · rw [sI_n _ _ (by decide), sI_1, bt_or, p1 j hj]
      show (S j || bt (b1 k) j) = (S j || decide (j = k))
      rw [bt_1 (by omega) (by omega)]
    · rw [h01 w 4 (by decide), p2, Sad_n _ (by omega)]
    · rw [h01 w 5 (by decide), p3, Sad_n _ (by omega)]
    · by_cases y : j = k
      · rw [y, sI_1, upd_1]
      · rw [sI_k _ y, upd_n _ _ y, sI_n _ _ (by decide), s6.1 62 (by decide)]
        exact p4 j hj
  have ekc : kc (sI t6 61 3 (σ.1 61 3 ||| (1 <<< (nI k &&& 31)))) = kc σ := by
    rw [← kcb_8, ← kcb_8]
    exact kcb_c (fun x h1 h2 => by rw [sI_n _ _ (by omega), s6.1 x (fun z => by simp only [List.mem_cons, List.not_mem_nil, or_false] at z; omega)])
  have hm' : (sI t6 61 3 (σ.1 61 3 ||| (1 <<< (nI k &&& 31)))).1 8 1 = nI m := by rw [sI_n _ _ (by decide), s6.1 8 (by decide)]; exact hm
  have hX : aaX d (nI k) θ = some (none, sI (sI t6 61 3 (σ.1 61 3 ||| (1 <<< (nI k &&& 31)))) 62 k (if v3 = -1000000 then -1000000 else v3 * grn (kc σ) v4 (σ.1 61 0) (σ.1 61 1) m)) := by
    unfold aaX
    rw [d1, Option.bind_some]
    (try simp only)
    rw [f1, Option.bind_some]
    (try simp only)
    rw [g1, Option.bind_some]
    (try simp only)
    rw [i1, Option.bind_some, s_isThing, Option.bind_some]
    simp only [bi_0]
    rw [if_neg (fun z => z ⟨by rw [nI_i (by omega)]; omega, by rw [nI_i (by omega)]; omega⟩), gd_t hk11, nI_c (by omega), e61 3]
    by_cases y : v3 = -1000000
    · rw [if_pos y, if_pos y]
    · rw [if_neg y, if_neg y, s_grainsOf _ _ _ _ hm' hm16, Option.bind_some, gd_t hk11, ekc, sI_k (k := 3) _ (by decide), sI_k (k := 3) _ (by decide), e61, e61]
  generalize hw : (if v3 = -1000000 then -1000000 else v3 * grn (kc σ) v4 (σ.1 61 0) (σ.1 61 1) m) = w at hX
  refine ⟨sI (sI t6 61 3 (σ.1 61 3 ||| (1 <<< (nI k &&& 31)))) 62 k w, cV_ev mi_72 ((show ev sO (d + 6) 72 0 [.ref 61, .ref 5, .ref 8, .null, .null, .null] [] σ = ((cV sO (d + 5) 48 [.ref 5, .ref 1005] σ).bind fun u0 => (cI sO (d + 5) 51 [.ref 5, .int 0, .int 7] u0).bind fun u1 => if (((u1.2.1 61 3) >>> (u1.1 &&& 31)) &&& 1) = 0 then aaX d u1.1 u1.2 else ((cV sO (d + 5) 47 [.ref 5, .int 4] u1.2).bind (aaX d u1.1))) from u_72_61_5_8 d σ).trans ?_) rfl, hS _, hW _, h01 _ 0 (by decide), h01 _ 1 (by decide), fun z => ?_⟩
  · rw [b1', Option.bind_some, c1', Option.bind_some]
    (try simp only)
    rw [ev1]
    exact a1.trans hX
  · obtain ⟨z6, z5, z4, z2, z1, -, -, -, -, -, hv⟩ := rA_ok qq z
    rw [ek z2]
    have ea : w = avl b (fun s => grn (kc σ) s (σ.1 61 0) (σ.1 61 1) m) T4 T5 := by
      rw [← hw]
      unfold avl
      rw [f4 z5, g4 z6]
      by_cases y : T4.2.2.1 = 5
      · rw [if_pos y, if_pos rfl, if_pos y]
      · obtain y2 | ⟨-, y2, y3⟩ := hv
        · exact absurd y2 y
        · rw [if_neg y, if_neg y, if_neg]
          intro y4
          have y5 : (vT b T4).toInt = -1000000 := by
            have : vT b T4 = -1000000 := y4
            rw [this]
            rfl
          omega
    rw [← ea]
    exact hP _
/-! the reference's -/
noncomputable def aaM (d : Nat) (x1 x2 : Int32) (σ : ax_S) : Option (Option Value × ax_S) := (cI sO (d + 4) 214 [.ref 82, .int 0, .int 7] σ).bind fun u3 => (cI sO (d + 4) 223 [.ref 82, .int 1, .int 99] u3.2).bind fun u4 => (cI sO (d + 4) 214 [.ref 82, .int 0, .int 3] u4.2).bind fun u5 => (cV sO (d + 4) 216 [.ref 82] u5.2).bind fun u6 => if (u6.1 82 17) = 0 then (if u4.1 < 0 then ((cV sO (d + 4) 225 [.ref 82, .int u3.1, .int (-1)] (sI u6 82 20 ((u6.1 82 20) ||| (1 <<< (u3.1 &&& 31))))).bind fun u7 => some (none, u7)) else ((cI sO (d + 4) 224 [.ref 82, .int u5.1, .int x1, .int x2] (sI u6 82 20 ((u6.1 82 20) ||| (1 <<< (u3.1 &&& 31))))).bind fun u8 => (cV sO (d + 4) 225 [.ref 82, .int u3.1, .int (u4.1 * u8.1)] u8.2).bind fun u9 => some (none, u9))) else (some (none, u6))
theorem m_readAdd (d : Nat) {σ : ax_S} {b : Nat → Int32} {n m : Nat} {T T1 T2 T3 T4 T5 T6 T7 : TK} {S : Nat → Bool} {A : Nat → Int32} (x1 x2 : Int32) (q : rAP b n S T T1 T2 T3 T4 T5 T6 T7) (h : MSt σ b n T) (w : nmT b W1005 T) (hp : pgM σ S A) (hd : DRp S A) (hm : σ.1 86 0 = nI m) (hm16 : m ≤ 16) (hg : ∀ k, k < m → 1 ≤ (σ.1 86 (2 + 4 * k + 3)).toInt ∧ (σ.1 86 (2 + 4 * k + 3)).toInt ≤ 99) : ∃ ρ, cV sO (d + 5) 222 [.ref 82, .int x1, .int x2] σ = some ρ ∧ mlf σ ρ ∧ MSt ρ b n T7 ∧ (T7.1 = 0 → pgM ρ (Sad S (vT b T1).toNatClampNeg) (upd A (vT b T1).toNatClampNeg (avl b (fun s => grn (σ.1 86) s x1 x2 m) T4 T5))) := by
  obtain ⟨p1, p2⟩ := hp
  have qq := q
  obtain ⟨q1, q2, q3, q4, q5, q6, q7⟩ := q
  obtain ⟨t1, b1', b2, b3⟩ := m_must (d + 2) True h
  rw [← pM_t (b := b) (n := n) (T := T) w, ← q1] at b3
  have l20 : t1.1 82 20 = σ.1 82 20 := b2.2 20 (by decide)
  have eu : ev sO (d + 5) 222 0 [.ref 82, .int x1, .int x2, .null, .null, .null] [] σ = ((cV sO (d + 4) 213 [.ref 82, .int 1] σ).bind fun u0 => if (u0.1 82 17) = 0 then (if (u0.1 82 14) = 3 then ((cI sO (d + 4) 215 [.ref 82] u0).bind fun u1 => (cI sO (d + 4) 198 [.long u1.1.toInt64, .long 0, .long 7] u1.2).bind fun u2 => if u2.1 = 0 then aaM d x1 x2 u2.2 else ((cI sO (d + 4) 215 [.ref 82] u2.2).bind fun u10 => if (((u2.2.1 82 20) >>> (u10.1 &&& 31)) &&& 1) = 1 then ((cV sO (d + 4) 212 [.ref 82, .int 4] u10.2).bind fun u11 => aaM d x1 x2 u11) else aaM d x1 x2 u10.2)) else aaM d x1 x2 u0) else aaM d x1 x2 u0) := u_222_82 d σ x1 x2
  have hd0 : ∃ θ U, ev sO (d + 5) 222 0 [.ref 82, .int x1, .int x2, .null, .null, .null] [] σ = aaM d x1 x2 θ ∧ mfr σ θ ∧ MSt θ b n U ∧ pU b n 0 7 U = T4 ∧ (T2.1 = 0 → U = T3) := by
    rw [eu, show (1 : Int32) = bi True from rfl, b1', Option.bind_some]
    -- where the number here is none
    have other : ¬ T2.1 = 0 → pU b n 0 7 T1 = T4 := fun z => by
      rw [q4, q3, pF_n z, pU_n z]
      unfold pU
      rw [← q2, pN_n z]
    by_cases t : T1.1 = 0
    · rw [if_pos ((c17 b3).mpr t)]
      have kb := b3.2.1.1
      by_cases k3 : T1.2.2.1 = 3
      · rw [if_pos (by rw [b3.2.2.1, k3]; rfl)]
        obtain ⟨v, hv, hv2⟩ := m_here (d + 4) b3
        have hv2 := hv2 k3
        rw [hv, Option.bind_some]
        simp only [m_in, l_i, l_0, show (7 : Int64).toInt = 7 by decide, Option.bind_some, bi_0]
        by_cases r : rgP 0 7 (vT b T1)
        · rw [if_neg (fun z => z (by rw [hv2]; exact r)), hv, Option.bind_some]
          obtain ⟨k, hk, ek⟩ := rgP_of (b := 7) (by omega) r
          have e2 : T2 = T1 := by
            rw [q2]
            unfold pH
            rw [if_pos t, if_pos k3, if_pos (show rgP ((0 : Int32).toInt) ((7 : Int32).toInt) (vl b T1.2.2.2.1 T1.2.2.2.2) from r)]
          have ev : v = nI k := hv2.trans ek
          obtain ⟨θ, a1, a2, a3⟩ := m_said (d + 4) (s := S k) b3 (x := ((t1.1 82 20) >>> (nI k &&& 31)) &&& 1) ((bt_at (t1.1 82 20) (k := k) (by omega)).trans (by rw [l20, p1 k (by omega) (by omega)])) (aaM d x1 x2)
          have e3 : pF (S k) T1 = T3 := by rw [q3, e2, ek, nI_c (by omega)]
          rw [e3] at a3
          refine ⟨θ, T3, ?_, b2.tr a2, a3, q4.symm, fun _ => rfl⟩
          simp only [ev]
          exact a1
        · rw [if_pos (fun z => r (by show rgP 0 7 (vl b T1.2.2.2.1 T1.2.2.2.2); rw [← hv2]; exact z))]
          have z2 : ¬ T2.1 = 0 := fun z => by
            rw [q2] at z
            exact r (pH_ok z).2.2.1
          exact ⟨t1, T1, rfl, b2, b3, other z2, fun z => absurd z z2⟩
      · rw [if_neg (show ¬ t1.1 82 14 = 3 by rw [b3.2.2.1]; exact fun z => k3 (nI_inj (b := 3) (by omega) (by omega) z))]
        have z2 : ¬ T2.1 = 0 := fun z => by
          rw [q2] at z
          exact k3 (pH_ok z).2.1
        exact ⟨t1, T1, rfl, b2, b3, other z2, fun z => absurd z z2⟩
    · rw [if_neg (fun z => t ((c17 b3).mp z))]
      have z2 : ¬ T2.1 = 0 := fun z => by
        rw [q2] at z
        exact t (pH_ok z).1
      exact ⟨t1, T1, rfl, b2, b3, other z2, fun z => absurd z z2⟩
  obtain ⟨θ, U, a1, a2, a3, a4, a5⟩ := hd0
  obtain ⟨v2, t3, d1, d2, d3, d4⟩ := m_number (d + 1) 0 7 a3
  rw [a4] at d3 d4
  obtain ⟨v3, t4, f1, f2, f3, f4⟩ := m_nos d 1 99 d3
  rw [← q5] at f3 f4
  obtain ⟨v4, t5, g1, g2, g3, g4⟩ := m_number (d + 1) 0 3 f3
  rw [← q6] at g3 g4
  obtain ⟨t6, i1, i2, i3⟩ := m_mustEnd (d + 1) g3
  rw [← q7] at i3
  have m6 : mfr σ t6 := (((a2.tr d2).tr f2).tr g2).tr i2
  have hX : ev sO (d + 5) 222 0 [.ref 82, .int x1, .int x2, .null, .null, .null] [] σ = (if (t6.1 82 17) = 0 then (if v3 < 0 then ((cV sO (d + 4) 225 [.ref 82, .int v2, .int (-1)] (sI t6 82 20 ((t6.1 82 20) ||| (1 <<< (v2 &&& 31))))).bind fun u7 => some (none, u7)) else ((cI sO (d + 4) 224 [.ref 82, .int v4, .int x1, .int x2] (sI t6 82 20 ((t6.1 82 20) ||| (1 <<< (v2 &&& 31))))).bind fun u8 => (cV sO (d + 4) 225 [.ref 82, .int v2, .int (v3 * u8.1)] u8.2).bind fun u9 => some (none, u9))) else (some (none, t6))) := by
    rw [a1]
    unfold aaM
    rw [d1, Option.bind_some]
    (try simp only)
    rw [f1, Option.bind_some]
    (try simp only)
    rw [g1, Option.bind_some]
    (try simp only)
    rw [i1, Option.bind_some]
  by_cases z : T7.1 = 0
  · obtain ⟨z6, z5, z4, z2, z1, e2, e3, hS, hr, hs, hv⟩ := rA_ok qq z
    obtain ⟨k, hk, ek⟩ := rgP_of (b := 7) (by omega) hr
    have ekc : (vT b T1).toNatClampNeg = k := by rw [ek, nI_c (by omega)]
    have ev2 : v2 = nI k := by rw [d4 z4, a5 z2, e3]; exact ek
    rw [ekc] at hS ⊢
    rw [if_pos ((c17 i3).mpr z), ev2, m6.2 20 (by decide)] at hX
    generalize hθ : sI t6 82 20 (σ.1 82 20 ||| (1 <<< (nI k &&& 31))) = t7 at hX
    have m7 : MSt t7 b n T7 := by
      rw [← hθ]
      obtain ⟨⟨z1, z2, z3⟩, z4, z5, z6, z7, z8, z9, z10, z11⟩ := i3
      exact ⟨⟨z1, by rw [sI_k _ (by decide)]; exact z2, fun i hi => by rw [sI_n _ _ (by decide)]; exact z3 i hi⟩, z4, by rw [sI_k _ (by decide)]; exact z5, by rw [sI_k _ (by decide)]; exact z6, by rw [sI_k _ (by decide)]; exact z7, by rw [sI_k _ (by decide)]; exact z8, by rw [sI_k _ (by decide)]; exact z9, z10, fun y => by rw [sI_k _ (by decide)]; exact z11 y⟩
    have s7 : sm [82] σ t7 := by rw [← hθ]; exact m6.1.set _ _ (by decide)
    have f7 : ∀ f, nq f → f ≠ 20 → t7.1 82 f = σ.1 82 f := fun f hf h20 => by rw [← hθ, sI_k _ h20]; exact m6.2 f hf
    have f20 : t7.1 82 20 = σ.1 82 20 ||| (1 <<< (nI k &&& 31)) := by rw [← hθ, sI_1]
    have e90 : t7.1 90 = σ.1 90 := s7.1 90 (by decide)
    have e86 : t7.1 86 = σ.1 86 := s7.1 86 (by decide)
    have key : ∃ v ρ, ev sO (d + 5) 222 0 [.ref 82, .int x1, .int x2, .null, .null, .null] [] σ = ((cV sO (d + 4) 225 [.ref 82, .int (nI k), .int v] t7).bind fun u => some (none, u)) ∧ ((v < 0 ∧ avl b (fun s => grn (σ.1 86) s x1 x2 m) T4 T5 = -1000000) ∨ (¬ v < 0 ∧ avl b (fun s => grn (σ.1 86) s x1 x2 m) T4 T5 = v)) ∧ ρ = t7 := by
      have f4' := f4 z5
      have g4' : v4 = vT b T5 := g4 z6
      by_cases y : T4.2.2.1 = 5
      · rw [if_pos y] at f4'
        refine ⟨-1, t7, ?_, Or.inl ⟨by decide, ?_⟩, rfl⟩
        · rw [hX, if_pos (by rw [f4']; decide)]
        · unfold avl
          rw [if_pos y]
      · obtain y2 | ⟨-, y2, y3⟩ := hv
        · exact absurd y2 y
        · rw [if_neg y] at f4'
          have f4'' : v3 = vT b T4 := f4'
          have hG := grn_r (K := σ.1 86) (m := m) v4 x1 x2 hg
          have hM := mul_99 (x := v3) ⟨by rw [f4'']; exact y2, by rw [f4'']; exact y3⟩ hG
          refine ⟨v3 * grn (σ.1 86) v4 x1 x2 m, t7, ?_, Or.inr ⟨?_, ?_⟩, rfl⟩
          · rw [hX, if_neg (by rw [i_lt, i_0, f4'']; omega), m_grainsOf _ _ _ _ (by rw [e86]; exact hm) hm16, Option.bind_some, e86]
          · rw [i_lt, i_0]
            omega
          · unfold avl
            rw [if_neg y, f4'', g4']
    obtain ⟨v, ρ0, k1, k2, -⟩ := key
    obtain ⟨ρ, j1, j2, j3, j4, j5⟩ := m_lay2 (d + 4) (k := k) m7 (by rw [e90]; exact p2) (by omega) (hd.2.1 k (by omega) hS) k2
    refine ⟨ρ, cV_ev mi_222 (k1.trans (by rw [j1, Option.bind_some])) rfl, ⟨(s7.up (by decide)).tr (j2.up (by decide)), fun f hf h20 => by rw [j2.1 82 (by decide)]; exact f7 f hf h20, fun i hi => by rw [j4 i hi, e90]⟩, j3, fun _ => ⟨fun j hj h9 => ?_, j5⟩⟩
    rw [j2.1 82 (by decide), f20]
    exact had_1 (by omega) p1 j hj h9
  · rw [if_neg (fun y => z ((c17 i3).mp y))] at hX
    exact ⟨t6, cV_ev mi_222 hX rfl, ⟨m6.1.up (by decide), fun f hf _ => m6.2 f hf, fun k hk => by rw [m6.1.1 90 (by decide)]⟩, i3, fun y => absurd y z⟩
