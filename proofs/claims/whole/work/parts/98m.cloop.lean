/-! A CARD'S TEXT: a line of both, all lines of both -/
theorem DRp_ad {S : Nat → Bool} {A : Nat → Int32} {k : Nat} {w : Int32} (h : DRp S A) (hk : k < 8) (hw : w = -1000000 ∨ (0 ≤ w.toInt ∧ w.toInt ≤ 9999)) : DRp (Sad S k) (upd A k w) := by
  obtain ⟨h1, h2, h3, h4⟩ := h
  refine ⟨fun j hj => ?_, fun j hj hs => ?_, fun hs => ?_, fun hs => ?_⟩
  · by_cases q : j = k
    · subst q
      rw [upd_1, show cap0 j = 9999 from if_pos hk]
      exact hw
    · rw [upd_n _ _ q]
      exact h1 j hj
  · by_cases q : j = k
    · subst q
      rw [Sad_1] at hs
      exact absurd hs (by decide)
    · rw [Sad_n _ q] at hs
      rw [upd_n _ _ q]
      exact h2 j hj hs
  · rw [Sad_n _ (by omega)] at hs
    rw [upd_n _ _ (by omega), upd_n _ _ (by omega)]
    exact h3 hs
  · rw [Sad_n _ (by omega)] at hs
    rw [upd_n _ _ (by omega)]
    exact h4 hs
theorem DRp_heat {S : Nat → Bool} {A : Nat → Int32} {w w2 : Int32} (h : DRp S A) (hw : w = -1000000 ∨ (0 ≤ w.toInt ∧ w.toInt ≤ 9)) (hw2 : w2 = -1000000 ∨ (0 ≤ w2.toInt ∧ w2.toInt ≤ 99)) : DRp (Sad S 8) (upd (upd A 8 w) 9 w2) := by
  obtain ⟨h1, h2, h3, h4⟩ := h
  refine ⟨fun j hj => ?_, fun j hj hs => ?_, fun hs => ?_, fun hs => ?_⟩
  · by_cases q : j = 9
    · subst q
      rw [upd_1, show cap0 9 = 99 from rfl]
      exact hw2
    · rw [upd_n _ _ q]
      by_cases q : j = 8
      · subst q
        rw [upd_1, show cap0 8 = 9 from rfl]
        exact hw
      · rw [upd_n _ _ q]
        exact h1 j hj
  · rw [Sad_n _ (by omega)] at hs
    rw [upd_n _ _ (by omega), upd_n _ _ (by omega)]
    exact h2 j hj hs
  · rw [Sad_1] at hs
    exact absurd hs (by decide)
  · rw [Sad_n _ (by omega)] at hs
    rw [upd_n _ _ (by omega), upd_n _ _ (by omega)]
    exact h4 hs
theorem DRp_beat {S : Nat → Bool} {A : Nat → Int32} {w : Int32} (h : DRp S A) (hw : w = -1000000 ∨ (0 ≤ w.toInt ∧ w.toInt ≤ 99)) : DRp (Sad S 10) (upd A 10 w) := by
  obtain ⟨h1, h2, h3, h4⟩ := h
  refine ⟨fun j hj => ?_, fun j hj hs => ?_, fun hs => ?_, fun hs => ?_⟩
  · by_cases q : j = 10
    · subst q
      rw [upd_1, show cap0 10 = 99 from rfl]
      exact hw
    · rw [upd_n _ _ q]
      exact h1 j hj
  · rw [Sad_n _ (by omega)] at hs
    rw [upd_n _ _ (by omega)]
    exact h2 j hj hs
  · rw [Sad_n _ (by omega)] at hs
    rw [upd_n _ _ (by omega), upd_n _ _ (by omega)]
    exact h3 hs
  · rw [Sad_1] at hs
    exact absurd hs (by decide)
theorem s_nm (d : Nat) {σ : ax_S} {b : Nat → Int32} {n : Nat} {L : Int32} {T : TK} (h : CSt σ b n L T) : cI sO (d + 4) 38 [.ref 5, .ref 1005] σ = some (bi (nmT b W1005 T), σ) ∧ cI sO (d + 4) 38 [.ref 5, .ref 1006] σ = some (bi (nmT b W1006 T), σ) ∧ cI sO (d + 4) 38 [.ref 5, .ref 1007] σ = some (bi (nmT b W1007 T), σ) :=
  ⟨s_atName_1005 d h.1 h.2.1 h.2.2.1 h.2.2.2.1 h.2.2.2.2.1, s_atName_1006 d h.1 h.2.1 h.2.2.1 h.2.2.2.1 h.2.2.2.2.1, s_atName_1007 d h.1 h.2.1 h.2.2.1 h.2.2.2.1 h.2.2.2.2.1⟩
/-- a line of both -/
theorem line_two (b : Nat → Int32) (n : Nat) {T : TK} (t : T.1 = 0) (he : tE T ≤ n) (S : Nat → Bool) (A : Nat → Int32) (hd : DRp S A) (KC KM : Nat → Int32) (m : Nat) (la ye : Int32) (hG : (fun s => grn KC s la ye m) = fun s => grn KM s la ye m) (hm16 : m ≤ 16) (hgr : ∀ k, k < m → 1 ≤ (KM (2 + 4 * k + 3)).toInt ∧ (KM (2 + 4 * k + 3)).toInt ≤ 99) : ∃ T' S' A', (T'.1 = 0 → DRp S' A' ∧ (T'.2.2.1 ≠ 1 → tE T < tE T')) ∧ (∀ d L (σ : ax_S), CSt σ b n L T → pgC σ S A → σ.1 8 1 = nI m → kc σ = KC → σ.1 61 0 = la → σ.1 61 1 = ye → ∃ τ, cV sO (d + 7) 71 [.ref 61, .ref 5, .ref 8] σ = some τ ∧ sm [5, 61, 62] σ τ ∧ CSt τ b n L T' ∧ τ.1 61 0 = la ∧ τ.1 61 1 = ye ∧ (T'.1 = 0 → pgC τ S' A')) ∧ ∀ d (σ : ax_S), MSt σ b n T → pgM σ S A → σ.1 86 = KM → KM 0 = nI m → ∃ ρ, cV sO (d + 6) 221 [.ref 82, .int la, .int ye] σ = some ρ ∧ mlf σ ρ ∧ MSt ρ b n T' ∧ (T'.1 = 0 → pgM ρ S' A') := by
  by_cases w5 : nmT b W1005 T
  · obtain ⟨T1, T2, T3, T4, T5, T6, T7, q⟩ := rAP_ex b n S T
    refine ⟨T7, Sad S (vT b T1).toNatClampNeg, upd A (vT b T1).toNatClampNeg (avl b (fun s => grn KM s la ye m) T4 T5), fun z => ⟨?_, rA_go q he z⟩, fun d L σ h hp hm hk h0 h1 => ?_, fun d σ h hp h86 h0 => ?_⟩
    · obtain ⟨-, -, -, -, -, -, -, -, hr, -, hv⟩ := rA_ok q z
      obtain ⟨k, hk, ek⟩ := rgP_of (b := 7) (by omega) hr
      rw [show (vT b T1).toNatClampNeg = k by rw [ek, nI_c (by omega)]]
      refine DRp_ad hd (by omega) ?_
      unfold avl
      by_cases y : T4.2.2.1 = 5
      · rw [if_pos y]
        exact Or.inl rfl
      · obtain y2 | ⟨-, y2⟩ := hv
        · exact absurd y2 y
        · rw [if_neg y]
          exact Or.inr (mul_99 y2 (grn_r _ _ _ hgr))
    · obtain ⟨τ, e1, e2, e3, e4, e5, e6⟩ := s_readAdd d q h hp hm hm16
      rw [hk, h0, h1, hG] at e6
      refine ⟨τ, cV_ev mi_71 ((u_71_61_5_8 d σ).trans ?_) rfl, e2, e3, e4.trans h0, e5.trans h1, e6⟩
      rw [(s_nm (d + 2) h).1, Option.bind_some]
      simp only [bi_0]
      rw [if_neg (fun z => z w5), e1, Option.bind_some]
    · obtain ⟨ρ, e1, e2, e3, e4⟩ := m_readAdd d la ye q h w5 hp hd (by rw [h86]; exact h0) hm16 (by rw [h86]; exact hgr)
      rw [h86] at e4
      refine ⟨ρ, cV_ev mi_221 ((u_221_82 d σ _ _).trans ?_) rfl, e2, e3, e4⟩
      rw [m_word (d + 5) h, Option.bind_some]
      simp only [lg_cmp_eq]
      rw [if_pos ((ww_1005 h.2.1).mpr ⟨t, w5⟩), e1, Option.bind_some]
  · by_cases w6 : nmT b W1006 T
    · obtain ⟨T1, T2, T3, T4, T5, q⟩ := rHP_ex b n (S 8) T
      refine ⟨T5, Sad S 8, upd (upd A 8 (mkv b T2)) 9 (mkv b T3), fun z => ⟨?_, rH_go q he z⟩, fun d L σ h hp hm hk h0 h1 => ?_, fun d σ h hp h86 h0 => ?_⟩
      · obtain ⟨-, -, hv2, hv, -⟩ := rH_ok q z
        exact DRp_heat hd (mk_two (lo := 0) (hi := 9) (by decide) hv).2 (mk_two (lo := 1) (hi := 99) (by decide) hv2).2
      · obtain ⟨τ, e1, e2, e3, e4, e5, e6⟩ := s_readHeat d q h hp
        refine ⟨τ, cV_ev mi_71 ((u_71_61_5_8 d σ).trans ?_) rfl, e2, e3, e4.trans h0, e5.trans h1, e6⟩
        rw [(s_nm (d + 2) h).1, Option.bind_some]
        simp only [bi_0]
        rw [if_pos w5, (s_nm (d + 2) h).2.1, Option.bind_some]
        simp only [bi_0]
        rw [if_neg (fun z => z w6), e1, Option.bind_some]
      · exact m_lineH d la ye q h t w5 w6 hp hd
    · by_cases w7 : nmT b W1007 T
      · obtain ⟨T1, T2, T3, T4, q⟩ := rBP_ex b n (S 10) T
        refine ⟨T4, Sad S 10, upd A 10 (mkv b T2), fun z => ⟨?_, rB_go q he z⟩, fun d L σ h hp hm hk h0 h1 => ?_, fun d σ h hp h86 h0 => ?_⟩
        · obtain ⟨-, hv, -⟩ := rB_ok q z
          exact DRp_beat hd (mk_two (lo := 1) (hi := 99) (by decide) hv).2
        · obtain ⟨τ, e1, e2, e3, e4, e5, e6⟩ := s_readBeat d q h hp
          refine ⟨τ, cV_ev mi_71 ((u_71_61_5_8 d σ).trans ?_) rfl, e2, e3, e4.trans h0, e5.trans h1, e6⟩
          rw [(s_nm (d + 2) h).1, Option.bind_some]
          simp only [bi_0]
          rw [if_pos w5, (s_nm (d + 2) h).2.1, Option.bind_some]
          simp only [bi_0]
          rw [if_pos w6, (s_nm (d + 2) h).2.2, Option.bind_some]
          simp only [bi_0]
          rw [if_neg (fun z => z w7), e1, Option.bind_some]
        · exact m_lineB d la ye q h t w5 w6 w7 hp hd
      · have ok : ¬ (pB 1 T).1 = 0 := by rw [pB_0 t]; simp only; omega
        refine ⟨pB 1 T, S, A, fun z => absurd z ok, fun d L σ h hp hm hk h0 h1 => ?_, fun d σ h hp h86 h0 => ?_⟩
        · obtain ⟨τ, e1, e2, e3⟩ := s_blame (d + 6) h (j := 1) (by omega) (by omega)
          refine ⟨τ, cV_ev mi_71 ((u_71_61_5_8 d σ).trans ?_) rfl, e2.up (by decide), e3, by rw [e2.1 61 (by decide)]; exact h0, by rw [e2.1 61 (by decide)]; exact h1, fun z => absurd z ok⟩
          rw [(s_nm (d + 2) h).1, Option.bind_some]
          simp only [bi_0]
          rw [if_pos w5, (s_nm (d + 2) h).2.1, Option.bind_some]
          simp only [bi_0]
          rw [if_pos w6, (s_nm (d + 2) h).2.2, Option.bind_some]
          simp only [bi_0]
          rw [if_pos w7, show (1 : Int32) = nI 1 from rfl, e1, Option.bind_some]
        · obtain ⟨ρ, e1, e2, e3⟩ := m_bad (d + 5) h (j := 1) (by omega) (by omega)
          refine ⟨ρ, cV_ev mi_221 ((u_221_82 d σ _ _).trans ?_) rfl, ⟨e2.1.up (by decide), fun f hf _ => e2.2 f hf, fun k hk => by rw [e2.1.1 90 (by decide)]⟩, e3, fun z => absurd z ok⟩
          rw [m_word (d + 5) h, Option.bind_some]
          simp only [lg_cmp_eq]
          rw [if_neg (fun z => w5 ((ww_1005 h.2.1).mp z).2), if_neg (fun z => w6 ((ww_1006 h.2.1).mp z).2), if_neg (fun z => w7 ((ww_1007 h.2.1).mp z).2), show (1 : Int32) = nI 1 from rfl, e1, Option.bind_some]
/-! all lines -/
noncomputable def pTl (d : Nat) (σ : ax_S) : Option (Option Value × ax_S) := (cV sO (d + 7) 57 [.ref 5] σ).bind fun u3 => (cI sO (d + 7) 59 [.ref 5] u3).bind fun u4 => if u4.1 = 0 then (some (some (.int 1), u4.2)) else (some (some (.int 0), u4.2))
noncomputable def mcT (d : Nat) (σ : ax_S) : Option (Option Value × ax_S) := (cL sO (d + 6) 218 [.ref 82] σ).bind fun u0 => if (lg_cmp u0.1 (0 : Int64)) < 0 then (some (some (.long u0.1), u0.2)) else ((cI sO (d + 6) 226 [.ref 82] u0.2).bind fun u1 => some (some (.long u1.1.toInt64), u1.2))
theorem s_failed (d : Nat) {σ : ax_S} {b : Nat → Int32} {n : Nat} {L : Int32} {T : TK} (h : CSt σ b n L T) : cI sO d 59 [.ref 5] σ = some (if T.1 = 0 then 0 else 1, σ) := by
  refine cI_ev mi_59 ((u_59_5 _ σ).trans ?_) rfl
  rw [h.2.2.2.2.2.1]
  split <;> rfl
theorem s_atEnd (d : Nat) {σ : ax_S} {b : Nat → Int32} {n : Nat} {L : Int32} {T : TK} (h : CSt σ b n L T) : cI sO d 58 [.ref 5] σ = some (bi (T.2.2.1 = 1), σ) := by
  refine cI_ev mi_58 ((u_58_5 d σ).trans ?_) rfl
  rw [h.2.2.1]
  have k5 := h.2.1.1
  by_cases q : T.2.2.1 = 1
  · rw [if_pos ((cso_4 k5).mpr q), bi_t q]
  · rw [if_neg (fun z => q ((cso_4 k5).mp z)), bi_f q]
theorem s_px (d : Nat) {σ : ax_S} {b : Nat → Int32} {n i : Nat} {L : Int32} {T : TK} (h : CSt σ b n L T) (w : ¬ T.1 = 0 ∨ T.2.2.1 = 1) : ev sO (d + 8) 69 48 [.ref 61, .ref 5, .ref 8, .int (nI i)] [] σ = pTl d σ := by
  rw [u_69_61_5_8p48, s_failed (d + 7) h, Option.bind_some]
  by_cases q : nI i < 500
  · rw [if_pos q]
    by_cases t : T.1 = 0
    · obtain z | z := w
      · exact absurd t z
      · simp only [if_pos t]
        rw [if_pos trivial, s_atEnd (d + 7) h, Option.bind_some]
        simp only [bi_0]
        rw [if_neg (fun y => y z)]
        rfl
    · simp only [if_neg t]
      rw [if_neg (by decide)]
      rfl
  · rw [if_neg q]
    rfl
theorem s_pg (d : Nat) {σ τ : ax_S} {b : Nat → Int32} {n i : Nat} {L : Int32} {T : TK} (h : CSt σ b n L T) (t : T.1 = 0) (s1 : T.2.2.1 ≠ 1) (hi : i < 500) (e : cV sO (d + 7) 71 [.ref 61, .ref 5, .ref 8] σ = some τ) : ev sO (d + 8) 69 48 [.ref 61, .ref 5, .ref 8, .int (nI i)] [] σ = ev sO (d + 8) 69 48 [.ref 61, .ref 5, .ref 8, .int (nI (i + 1))] [] τ := by
  rw [u_69_61_5_8p48, s_failed (d + 7) h, Option.bind_some, if_pos (show nI i < (500 : Int32) from nlt (N := 500) hi)]
  simp only [if_pos t]
  rw [if_pos trivial, s_atEnd (d + 7) h, Option.bind_some]
  simp only [bi_0]
  rw [if_pos s1, e, Option.bind_some, nI_add1]
theorem m_c14 {σ : ax_S} {b : Nat → Int32} {n : Nat} {T : TK} (h : MSt σ b n T) : σ.1 82 14 = 1 ↔ T.2.2.1 = 1 := by
  have kb := h.2.1.1
  rw [h.2.2.1]
  exact ⟨fun q => nI_inj (b := 1) (by omega) (by omega) q, fun q => by rw [q]; rfl⟩
theorem m_cx (d : Nat) {σ : ax_S} {b : Nat → Int32} {n : Nat} {T : TK} (x1 x2 : Int32) (h : MSt σ b n T) (w : ¬ T.1 = 0 ∨ T.2.2.1 = 1) : ev sO (d + 7) 219 89 [.ref 82, .int x1, .int x2, .null, .null] [] σ = mcT d σ := by
  rw [u_219_82p89 _ _ _ _ _ rfl _ rfl]
  by_cases t : T.1 = 0
  · obtain z | z := w
    · exact absurd t z
    · rw [if_pos ((c17 h).mpr t), if_pos ((m_c14 h).mpr z)]
      rfl
  · rw [if_neg (fun z => t ((c17 h).mp z))]
    rfl
theorem loop_card (b : Nat → Int32) (n : Nat) (hn : n ≤ 500) (KC KM : Nat → Int32) (m : Nat) (la ye : Int32) (hG : (fun s => grn KC s la ye m) = fun s => grn KM s la ye m) (hm16 : m ≤ 16) (hgr : ∀ k, k < m → 1 ≤ (KM (2 + 4 * k + 3)).toInt ∧ (KM (2 + 4 * k + 3)).toInt ≤ 99) (h0m : KM 0 = nI m) : ∀ k i (T : TK) (S : Nat → Bool) (A : Nat → Int32), i + k = 500 → T.1 = 0 → tE T ≤ n → (T.2.2.1 ≠ 1 → i < tE T) → DRp S A → ∃ T' S' A', (T'.1 = 0 → DRp S' A') ∧ (∀ d L (σ : ax_S), CSt σ b n L T → pgC σ S A → σ.1 8 1 = nI m → kc σ = KC → σ.1 61 0 = la → σ.1 61 1 = ye → ∃ τ, ev sO (d + 8) 69 48 [.ref 61, .ref 5, .ref 8, .int (nI i)] [] σ = pTl d τ ∧ sm [5, 61, 62] σ τ ∧ CSt τ b n L T' ∧ τ.1 61 0 = la ∧ τ.1 61 1 = ye ∧ (T'.1 = 0 → pgC τ S' A')) ∧ ∀ d (σ : ax_S), MSt σ b n T → pgM σ S A → σ.1 86 = KM → ∃ ρ, ev sO (d + 7) 219 89 [.ref 82, .int la, .int ye, .null, .null] [] σ = mcT d ρ ∧ mlf σ ρ ∧ MSt ρ b n T' ∧ (T'.1 = 0 → pgM ρ S' A') := by
  intro k
  induction k with
  | zero =>
    intro i T S A hk t he hi hd
    have s1 : T.2.2.1 = 1 := by
      apply Classical.byContradiction
      intro z
      have := hi z
      omega
    exact ⟨T, S, A, fun _ => hd, fun d L σ h hp _ _ h0 h1 => ⟨σ, s_px d h (Or.inr s1), sm.rf _ _, h, h0, h1, fun _ => hp⟩, fun d σ h hp _ => ⟨σ, m_cx d la ye h (Or.inr s1), ⟨sm.rf _ _, fun _ _ _ => rfl, fun _ _ => rfl⟩, h, fun _ => hp⟩⟩
  | succ k ih =>
    intro i T S A hk t he hi hd
    by_cases s1 : T.2.2.1 = 1
    · exact ⟨T, S, A, fun _ => hd, fun d L σ h hp _ _ h0 h1 => ⟨σ, s_px d h (Or.inr s1), sm.rf _ _, h, h0, h1, fun _ => hp⟩, fun d σ h hp _ => ⟨σ, m_cx d la ye h (Or.inr s1), ⟨sm.rf _ _, fun _ _ _ => rfl, fun _ _ => rfl⟩, h, fun _ => hp⟩⟩
    · obtain ⟨T1, S1, A1, a1, a2, a3⟩ := line_two b n t he S A hd KC KM m la ye hG hm16 hgr
      have stepM : ∀ d (σ ρ : ax_S), MSt σ b n T → cV sO (d + 6) 221 [.ref 82, .int la, .int ye] σ = some ρ → ev sO (d + 7) 219 89 [.ref 82, .int la, .int ye, .null, .null] [] σ = ev sO (d + 7) 219 89 [.ref 82, .int la, .int ye, .null, .null] [] ρ := fun d σ ρ h e => by
        rw [u_219_82p89 _ _ _ _ _ rfl _ rfl, if_pos ((c17 h).mpr t), if_neg (fun z => s1 ((m_c14 h).mp z)), e, Option.bind_some]
      have keep : ∀ σ τ : ax_S, sm [5, 61, 62] σ τ → σ.1 8 1 = nI m → kc σ = KC → τ.1 8 1 = nI m ∧ kc τ = KC := fun σ τ hs hm hk => ⟨by rw [hs.1 8 (by decide)]; exact hm, by
        rw [← hk, ← kcb_8, ← kcb_8]
        exact kcb_c (fun x h1 h2 => hs.1 x (fun z => by simp only [List.mem_cons, List.not_mem_nil, or_false] at z; omega))⟩
      by_cases t1 : T1.1 = 0
      · obtain ⟨d1, d2⟩ := a1 t1
        have he1 : T1.2.2.1 ≠ 1 → i + 1 < tE T1 := fun z => by
          have := d2 z
          have := hi s1
          omega
        by_cases en : tE T1 ≤ n
        · obtain ⟨T', S', A', b1', b2, b3⟩ := ih (i + 1) T1 S1 A1 (by omega) t1 en he1 d1
          refine ⟨T', S', A', b1', fun d L σ h hp hm hk h0 h1 => ?_, fun d σ h hp h86 => ?_⟩
          · obtain ⟨τ, e1, e2, e3, e4, e5, e6⟩ := a2 d L σ h hp hm hk h0 h1
            obtain ⟨k1, k2⟩ := keep σ τ e2 hm hk
            obtain ⟨ρ, f1, f2, f3, f4, f5, f6⟩ := b2 d L τ e3 (e6 t1) k1 k2 e4 e5
            exact ⟨ρ, (s_pg d h t s1 (by omega) e1).trans f1, e2.tr f2, f3, f4, f5, f6⟩
          · obtain ⟨τ, e1, e2, e3, e4⟩ := a3 d σ h hp h86 h0m
            obtain ⟨ρ, f1, f2, f3, f4⟩ := b3 d τ e3 (e4 t1) (by rw [e2.1.1 86 (by decide)]; exact h86)
            exact ⟨ρ, (stepM d σ τ h e1).trans f1, ⟨e2.1.tr f2.1, fun f hf h20 => (f2.2.1 f hf h20).trans (e2.2.1 f hf h20), fun k hk => (f2.2.2 k hk).trans (e2.2.2 k hk)⟩, f3, f4⟩
        · refine ⟨T1, S1, A1, fun _ => d1, fun d L σ h hp hm hk h0 h1 => ?_, fun d σ h hp h86 => ?_⟩
          · obtain ⟨τ, e1, e2, e3, -⟩ := a2 d L σ h hp hm hk h0 h1
            exact absurd e3.2.1.2.2.1 en
          · obtain ⟨τ, e1, e2, e3, -⟩ := a3 d σ h hp h86 h0m
            exact absurd e3.2.1.2.2.1 en
      · refine ⟨T1, S1, A1, fun z => absurd z t1, fun d L σ h hp hm hk h0 h1 => ?_, fun d σ h hp h86 => ?_⟩
        · obtain ⟨τ, e1, e2, e3, e4, e5, -⟩ := a2 d L σ h hp hm hk h0 h1
          have hi5 : i < 500 := by omega
          exact ⟨τ, (s_pg d h t s1 hi5 e1).trans (s_px d e3 (Or.inl t1)), e2, e3, e4, e5, fun z => absurd z t1⟩
        · obtain ⟨τ, e1, e2, e3, -⟩ := a3 d σ h hp h86 h0m
          exact ⟨τ, (stepM d σ τ h e1).trans (m_cx d la ye e3 (Or.inl t1)), e2, e3, fun z => absurd z t1⟩
