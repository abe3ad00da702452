/-! THE PUBLIC METHODS, 12: stain, mend: cards' marks anew -/
/-- what holds of one mark of both -/
abbrev mkC (mk N : Nat → Int32) (j k : Nat) : Prop := mk (j * 11 + k) = (if bt (N (15 * j + 4)) k then -1000000 else N (15 * j + 5 + k)) ∧ 0 ≤ (N (15 * j + 5 + k)).toInt ∧ (N (15 * j + 5 + k)).toInt ≤ (if k < 8 then 9999 else if k = 8 then 9 else 99) ∧ (bt (N (15 * j + 4)) k = true → N (15 * j + 5 + k) = 0)
theorem RD_mk {sz : Int32} {la ye mt mk N mk' N' : Nat → Int32} {n : Nat} (h : RD sz la ye mt mk N n) (h0 : N' 0 = N 0) (hN : ∀ j, j < n → N' (15 * j + 1) = N (15 * j + 1) ∧ N' (15 * j + 2) = N (15 * j + 2) ∧ N' (15 * j + 3) = N (15 * j + 3)) (hm : ∀ j, j < n → (∀ k, k < 11 → mkC mk' N' j k) ∧ (∀ k, 11 ≤ k → k < 32 → bt (N' (15 * j + 4)) k = false)) : RD sz la ye mt mk' N' n := by
  obtain ⟨h1, h2, h3, h4⟩ := h
  refine ⟨h1, h2, h0.trans h3, fun j hj => ?_⟩
  obtain ⟨a1, a2, a3, a4, a5, a6, a7⟩ := h4 j hj
  obtain ⟨n1, n2, n3⟩ := hN j hj
  rw [n1, n2, n3]
  exact ⟨a1, a2, a3, a4, (hm j hj).1, (hm j hj).2, a7⟩
/-- one mark stained in both -/
theorem RD_stain {sz : Int32} {la ye mt mk N : Nat → Int32} {n a k : Nat} (h : RD sz la ye mt mk N n) (ha : a < n) (hk : k < 11) {mk' N' : Nat → Int32} (hm : ∀ j m, m < 11 → mk' (j * 11 + m) = if j = a ∧ m = k then -1000000 else mk (j * 11 + m)) (hN : ∀ i, N' i = if i = 15 * a + 5 + k then 0 else if i = 15 * a + 4 then N i ||| b1 k else N i) : RD sz la ye mt mk' N' n := by
  refine RD_mk h (by rw [hN 0, if_neg (by omega), if_neg (by omega)]) (fun j hj => ⟨by rw [hN, if_neg (by omega), if_neg (by omega)], by rw [hN, if_neg (by omega), if_neg (by omega)], by rw [hN, if_neg (by omega), if_neg (by omega)]⟩) (fun j hj => ?_)
  obtain ⟨-, -, -, h4⟩ := h
  obtain ⟨-, -, -, -, a5, a6, -⟩ := h4 j hj
  have e4 : N' (15 * j + 4) = if j = a then N (15 * j + 4) ||| b1 k else N (15 * j + 4) := by
    rw [hN, if_neg (by omega)]
    by_cases q : j = a
    · rw [if_pos (by omega), if_pos q]
    · rw [if_neg (by omega), if_neg q]
  refine ⟨fun m hm2 => ?_, fun m h1 h2 => ?_⟩
  · have e5 : N' (15 * j + 5 + m) = if j = a ∧ m = k then 0 else N (15 * j + 5 + m) := by
      rw [hN]
      by_cases q : j = a ∧ m = k
      · rw [if_pos (by omega), if_pos q]
      · rw [if_neg (by omega), if_neg (by omega), if_neg q]
    have eb : bt (N' (15 * j + 4)) m = (bt (N (15 * j + 4)) m || decide (j = a ∧ m = k)) := by
      rw [e4]
      by_cases q : j = a
      · rw [if_pos q, bt_or, bt_1 (by omega) (by omega)]
        congr 1
        simp [q]
      · rw [if_neg q]
        simp [q]
    unfold mkC
    rw [hm j m hm2, e5, eb]
    obtain ⟨c1, c2, c3, c4⟩ := a5 m hm2
    by_cases q : j = a ∧ m = k
    · rw [if_pos q, if_pos q, decide_eq_true q, Bool.or_true, if_pos rfl]
      refine ⟨rfl, by rw [i_0]; omega, ?_, fun _ => rfl⟩
      rw [i_0]
      split
      · omega
      · split <;> omega
    · rw [if_neg q, if_neg q, decide_eq_false q, Bool.or_false]
      exact ⟨c1, c2, c3, c4⟩
  · rw [e4]
    split
    · rw [bt_or, bt_1 (by omega) h2, a6 m h1 h2, decide_eq_false (by omega)]
      rfl
    · exact a6 m h1 h2
/-- cards may be new, the rest is as it was -/
abbrev Sd (σ ρ : ax_S) : Prop := sm [17, 18, 19, 20, 21, 61, 62, 82, 87, 88, 90, 91, 92, 93, 94, 95, 96, 97, 98, 99, 100] σ ρ ∧ (ρ.1 82 1 = σ.1 82 1 ∧ ρ.1 82 7 = σ.1 82 7 ∧ ρ.1 82 10 = σ.1 82 10 ∧ ρ.1 82 11 = σ.1 82 11 ∧ ρ.1 82 43 = σ.1 82 43)
theorem RA_Sd {σ ρ : ax_S} (h : Sd σ ρ) (hd : Rd ρ) (r : RA σ) : RA ρ := by
  obtain ⟨⟨h1, -⟩, f1, f7, f10, f11, f43⟩ := h
  obtain ⟨r1, r2, r3, r4, r5, r6, r7, r8⟩ := r
  refine ⟨hd, Rk_c (fun a ha => h1 a ?_) f7 r2, Rs_c (fun a ha => h1 a ?_) r3, Rt_c (fun a ha => h1 a ?_) (by rw [h1 5 (by decide)]) (by rw [h1 5 (by decide)]) f10 f11 r4, Ri_c (fun a ha => h1 a ?_) r5, Ri_c (fun a ha => h1 a ?_) r6, Rtr_c (fun a ha => h1 a ?_) (by rw [h1 80 (by decide)]) f43 r7, ?_⟩
  all_goals first | (simp only [List.mem_cons, List.not_mem_nil, or_false] at ha ⊢; omega) | skip
  unfold Rf
  rw [f1, h1 0 (by decide)]
  exact r8
theorem Fo_Sd {σ ρ : ax_S} (h : Sd σ ρ) : Fo σ ρ := Fo_sm h.1 (fun a h1 h2 => by
  simp only [List.mem_cons, List.not_mem_nil, or_false]
  omega)
theorem nI_15 {j r : Nat} (hj : j < 12) (hr : r < 16) : (15 : Int32) * nI j + nI r = nI (15 * j + r) := by
  rw [show (15 : Int32) = nI 15 from rfl, nI_mul (by omega) (by omega) (by omega), nI_pl (by omega)]
theorem m_stain (d : Nat) {σ : ax_S} {n a k : Nat} (hs : (sI σ 82 0 0).1 88 0 = nI n) (hn : n ≤ 12) (ha : a < n) (hk : k < 11) : ev sO (d + 2) 241 0 [.ref 82, .int (nI a), .int (nI k), .null] [] σ = some (some (.long (if bt (ms (sI σ 82 0 0) a) k = false then 1 else 0)), sI (sI (sI σ 82 0 0) 88 (15 * a + 4) ((sI σ 82 0 0).1 88 (15 * a + 4) ||| b1 k)) 88 (15 * a + 5 + k) 0) := by
  have e4 : (15 : Int32) * nI a + 4 = nI (15 * a + 4) := nI_15 (r := 4) (by omega) (by omega)
  have e5 : (15 : Int32) * nI a + 5 = nI (15 * a + 5) := nI_15 (r := 5) (by omega) (by omega)
  have e6 : nI (15 * a + 5) + nI k = nI (15 * a + 5 + k) := nI_pl (by omega)
  have g4 : 0 ≤ (nI (15 * a + 4)).toInt ∧ (nI (15 * a + 4)).toInt < (181 : Nat) := by rw [nI_i (by omega)]; omega
  have g6 : 0 ≤ (nI (15 * a + 5 + k)).toInt ∧ (nI (15 * a + 5 + k)).toInt < (181 : Nat) := by rw [nI_i (by omega)]; omega
  rw [u_241_82]
  simp only [m_isCard _ _ hs hn, m_isMark, m_isKnown _ _ (show a < 12 by omega) hk, Option.bind_some, bi_0, e4, e5, e6, nI_c (show 15 * a + 4 < 2147483648 by omega), nI_c (show 15 * a + 5 + k < 2147483648 by omega)]
  rw [if_neg (fun q => q (hasP_nI hn ha)), if_neg (fun q => q (mkP_nI hk)), gd_t g4, gd_t g4, gd_t g6, gd_t g4, gd_t g4, gd_t g6]
  cases hb : bt (ms (sI σ 82 0 0) a) k
  · rw [if_neg (by decide), if_pos rfl]
    rfl
  · rw [if_pos (by decide), if_neg (by decide)]
    rfl
theorem t_stain (d : Nat) {σ : ax_S} (x y : Int32) (r : RA σ) : PB d σ 105 241 [.int x, .int y] := by
  obtain ⟨n, h⟩ := r.1
  obtain ⟨hn, hs, hs88, hi, -⟩ := rd_of h
  by_cases hb : hasP (nI n) x ∧ mkP y
  · obtain ⟨h1, h2⟩ := hb
    obtain ⟨a, ha, e1⟩ := hasP_of hn h1
    obtain ⟨k, hk, e2⟩ := mkP_of h2
    have he : cr σ a k = mr σ a k := by
      obtain ⟨-, -, -, -, -, -, he, -⟩ := rd_of h
      exact (he a ha).2 k hk
    have go : ∀ (τ : ax_S) (v : Int64), (τ = σ ∨ τ = sI σ 21 (a * 11 + k) (-1000000)) → (∀ j m, m < 11 → τ.1 21 (j * 11 + m) = if j = a ∧ m = k then -1000000 else σ.1 21 (j * 11 + m)) → v = (if bt (ms σ a) k = false then 1 else 0) → cL sO (d + 20) 105 [.ref 0, .int x, .int y] σ = some (v, τ) → PB d σ 105 241 [.int x, .int y] := by
      intro τ v ht hm hv hc
      have sτ : sm [21] σ τ := by
        obtain e | e := ht
        · rw [e]
          exact sm.rf _ _
        · rw [e]
          exact (sm.rf _ _).set _ _ (by decide)
      have e88 : (sI τ 82 0 0).1 88 = σ.1 88 := by rw [sI_n _ _ (by decide), sτ.1 88 (by decide)]
      have hs2 : (sI τ 82 0 0).1 88 0 = nI n := by rw [e88]; exact hs88
      obtain ⟨-, -, -, -, ems, -, -⟩ := m88 e88
      have hSd : Sd σ (sI (sI (sI τ 82 0 0) 88 (15 * a + 4) ((sI τ 82 0 0).1 88 (15 * a + 4) ||| b1 k)) 88 (15 * a + 5 + k) 0) := by
        refine ⟨(((sτ.up (by decide)).set _ _ (by decide)).set _ _ (by decide)).set _ _ (by decide), ?_, ?_, ?_, ?_, ?_⟩
        all_goals rw [sI_n _ _ (by decide), sI_n _ _ (by decide), sI_k _ (by decide), sτ.1 82 (by decide)]
      refine ⟨v, τ, _, hc, cL_ev mi_241 (by rw [e1, e2]; exact m_stain _ hs2 hn ha hk) rfl |>.trans (by rw [ems, hv]), RA_Sd hSd ?_ r, Fo_Sd hSd⟩
      refine ⟨n, ?_⟩
      have f17 := hSd.1.1
      rw [sI_n _ _ (show 17 ≠ 88 by decide), sI_n _ _ (show 17 ≠ 88 by decide), sI_n _ _ (show 17 ≠ 82 by decide), sτ.1 17 (by decide), sI_n _ _ (show 18 ≠ 88 by decide), sI_n _ _ (show 18 ≠ 88 by decide), sI_n _ _ (show 18 ≠ 82 by decide), sτ.1 18 (by decide), sI_n _ _ (show 19 ≠ 88 by decide), sI_n _ _ (show 19 ≠ 88 by decide), sI_n _ _ (show 19 ≠ 82 by decide), sτ.1 19 (by decide), sI_n _ _ (show 20 ≠ 88 by decide), sI_n _ _ (show 20 ≠ 88 by decide), sI_n _ _ (show 20 ≠ 82 by decide), sτ.1 20 (by decide), sI_n _ _ (show 21 ≠ 88 by decide), sI_n _ _ (show 21 ≠ 88 by decide), sI_n _ _ (show 21 ≠ 82 by decide)]
      refine RD_stain h ha hk hm (fun i => ?_)
      by_cases q5 : i = 15 * a + 5 + k
      · rw [if_pos q5, q5, sI_1]
      · rw [if_neg q5, sI_k _ q5]
        by_cases q4 : i = 15 * a + 4
        · rw [if_pos q4, q4, sI_1, e88]
        · rw [if_neg q4, sI_k _ q4, e88]
    by_cases h3 : cr σ a k = -1000000
    · refine go σ 0 (Or.inl rfl) (fun j m hm => ?_) ?_ (cL_ev mi_105 ((u_105_0 _ σ _ _).trans ?_) rfl)
      · by_cases q : j = a ∧ m = k
        · rw [if_pos q, q.1, q.2]
          exact h3
        · rw [if_neg q]
      · rw [if_neg]
        intro q
        exact (mr_kn hi ha hk).mp q (he ▸ h3)
      · simp only [s_has, s_isMark, hs, Option.bind_some, bi_0]
        rw [if_neg (fun q => q h1), if_neg (fun q => q h2), e1, e2, s_mark _ hs hn ha hk, Option.bind_some]
        simp only
        rw [if_pos h3]
    · refine go (sI σ 21 (a * 11 + k) (-1000000)) 1 (Or.inr rfl) (fun j m hm => cr_put (σ := σ) (j := a) (k := k) (-1000000) hk j m hm) ?_ (cL_ev mi_105 ((u_105_0 _ σ _ _).trans ?_) rfl)
      · rw [if_pos]
        exact (mr_kn hi ha hk).mpr (he ▸ h3)
      · simp only [s_has, s_isMark, hs, Option.bind_some, bi_0]
        rw [if_neg (fun q => q h1), if_neg (fun q => q h2), e1, e2, s_mark _ hs hn ha hk, Option.bind_some]
        simp only
        rw [if_neg h3, s_putMark _ _ hs hn ha hk, Option.bind_some]
  · refine AK.pb ⟨BADv, sI σ 82 0 0, cL_ev mi_105 ((u_105_0 _ σ _ _).trans ?_) rfl, cL_ev mi_241 ((u_241_82 _ σ _ _).trans ?_) rfl, Sc_0 σ⟩ r
    · simp only [s_has, s_isMark, hs, Option.bind_some, bi_0]
      by_cases q1 : hasP (nI n) x
      · rw [if_neg (fun q => q q1), if_pos (show ¬ mkP y from fun q => hb ⟨q1, q⟩)]
      · rw [if_pos q1]
    · obtain ⟨ms0, -⟩ := rd_m h (ρ := sI σ 82 0 0) (sI_n _ _ (by decide))
      simp only [m_isCard _ _ ms0 hn, m_isMark, Option.bind_some, bi_0]
      by_cases q1 : hasP (nI n) x
      · rw [if_neg (fun q => q q1), if_pos (show ¬ mkP y from fun q => hb ⟨q1, q⟩)]
      · rw [if_pos q1]
