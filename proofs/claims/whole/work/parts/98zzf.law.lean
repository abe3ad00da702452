/-! THE LAW, all of it -/
theorem lw_turn {xs : Nat → Int32} {L i : Nat} {σ : ax_S} (hL : L ≤ 3584) (hi : i + 7 ≤ L) (r : RA σ) (f : FI σ) : ∃ ρ : ax_S, ev (ax_lO xs L) 60 293 18 (lwL i) [] (ax_mk σ) = ev (ax_lO xs L) 60 293 18 (lwL (i + 7)) [] (ax_mk ρ) ∧ RA ρ ∧ FI ρ := by
  obtain ⟨ρ, h, r2, f2⟩ := lw_case (xs := xs) hL hi r f (xs i &&& 63)
  refine ⟨ρ, ?_, r2, f2⟩
  refine (E_il (x := nI i) c_293_18 rfl).trans ?_
  refine (E_al (x := 1000) c_293_19 rfl (by decide)).trans ?_
  refine (E_alen (x := nI L) c_293_20 rfl).trans ?_
  refine (E_ic (v := 7) c_293_21 rfl).trans ?_
  refine (E_isub c_293_23).trans ?_
  refine (E_br_gt (q := 1461) c_293_24 rfl).trans ?_
  have e7 : nI L - 7 = nI (L - 7) := by
    apply Int32.toInt_inj.mp
    rw [i_sub (by rw [nI_i (by omega), lit_i 7 (by omega)]; omega) (by rw [nI_i (by omega), lit_i 7 (by omega)]; omega), nI_i (by omega), nI_i (by omega), lit_i 7 (by omega)]
    omega
  rw [e7, if_neg (nnl (show i ≤ L - 7 by omega) (by omega))]
  refine (E_al (x := 1000) c_293_27 rfl (by decide)).trans ?_
  refine (E_il (x := nI i) c_293_28 rfl).trans ?_
  refine (E_iall (x := xs i) c_293_29 (lw_ld _ hL (by omega))).trans ?_
  refine (E_ic (v := 63) c_293_30 rfl).trans ?_
  refine (E_iand c_293_32).trans ?_
  refine h.trans ?_
  refine (E_inc (x := nI i) (v := 7) (L' := lwL (i + 7)) c_293_1455 rfl rfl ?_).trans (E_goto (q := 18) c_293_1458 rfl)
  show [Value.ref 1000, Value.ref 0, Value.ref 82, Value.int (nI i + nI 7)] = _
  rw [nI_pl (by omega)]
theorem lw_end {xs : Nat → Int32} {L i : Nat} {σ : ax_S} (hL : L ≤ 3584) (hi : ¬ i + 7 ≤ L) (hi2 : i ≤ L) : ev (ax_lO xs L) 60 293 18 (lwL i) [] (ax_mk σ) = some (some (.int 1), ax_mk σ) := by
  refine (E_il (x := nI i) c_293_18 rfl).trans ?_
  refine (E_al (x := 1000) c_293_19 rfl (by decide)).trans ?_
  refine (E_alen (x := nI L) c_293_20 rfl).trans ?_
  refine (E_ic (v := 7) c_293_21 rfl).trans ?_
  refine (E_isub c_293_23).trans ?_
  refine (E_br_gt (q := 1461) c_293_24 rfl).trans ?_
  have hlt : nI L - 7 < nI i := by
    rw [i_lt, i_sub (by rw [nI_i (by omega), lit_i 7 (by omega)]; omega) (by rw [nI_i (by omega), lit_i 7 (by omega)]; omega), nI_i (by omega), nI_i (by omega), lit_i 7 (by omega)]
    omega
  rw [if_pos hlt]
  refine (E_ic (v := 1) c_293_1461 rfl).trans ?_
  exact E_ret (r := (x, code, maxLocals, ret, 12, true, 1, 0, 0, 0, 0)) c_293_1462 rfl (if_pos rfl) rfl
theorem lw_loop {xs : Nat → Int32} {L : Nat} (hL : L ≤ 3584) : ∀ k i (σ : ax_S), L - i ≤ k → i ≤ L → RA σ → FI σ → ∃ ρ : ax_S, ev (ax_lO xs L) 60 293 18 (lwL i) [] (ax_mk σ) = some (some (.int 1), ax_mk ρ)
  | 0, i, σ, hk, hi, _, _ => ⟨σ, lw_end hL (by omega) hi⟩
  | k + 1, i, σ, hk, hi, r, f => by
    by_cases q : i + 7 ≤ L
    · obtain ⟨ρ, h, r2, f2⟩ := lw_turn (xs := xs) hL q r f
      obtain ⟨ω, h2⟩ := lw_loop (xs := xs) hL k (i + 7) ρ (by omega) q r2 f2
      exact ⟨ω, h.trans h2⟩
    · exact ⟨σ, lw_end hL q hi⟩
theorem E_new {H : Type} {O : ax_O H} {d m pc pc' ci a : Nat} {L st : List Value} {h h' : H} (hc : ax_code m pc = some (.new ci, pc')) (hv : O.2.2.2.2.2.1 h ci = some (a, h')) : ev O d m pc L st h = ev O d m pc' L (.ref a :: st) h' := E_stp hc rfl (by show Option.map _ (O.2.2.2.2.2.1 h ci) = _; rw [hv]; rfl)
theorem E_ini {H : Type} {O : ax_O H} {d m pc pc' M a oc mx : Nat} {L rest : List Value} {h h' : H} (hc : ax_code m pc = some (.invokespecial M, pc')) (hm : ax_mi M = some (0, oc, false, true, none, mx)) (ha : a < 2000) (h8 : (rest.map fun v => v.category).sum ≤ 8) (hl : 1 ≤ mx) (he : cV O d M [.ref a] h = some h') : ev O (d + 1) m pc L (.ref a :: rest) h = ev O (d + 1) m pc' L rest h' := by
  obtain ⟨r, hr, z1, z2, z3, z4, z5, z6⟩ := ax_mi_of hm
  have hcal : ax_cal O (.invokespecial M) (.ref a :: rest) h = some (M, [.ref a], rest) := ax_calI (as := []) hm rfl ha
  rw [E_callV hc rfl hcal h8 hr z5 (by rw [z6]; exact hl)]
  show (cV O d M [.ref a] h).bind _ = _
  rw [he, Option.bind_some]
theorem cs_mk (σ : ax_S) : ax_sz (ax_mk σ) ≤ 7302250 ∧ (ax_mk σ).length ≤ 600000 := by
  have h1 : (ax_mk σ).map ax_cs = ax_Sh.map (fun q => match q with
    | .inl p => p.2
    | .inr p => p.2.length) := by
    apply List.ext_getElem?
    intro i
    unfold ax_mk
    rw [List.getElem?_map, List.getElem?_mapIdx, List.getElem?_map]
    cases ax_Sh[i]? with
    | none => rfl
    | some q =>
      cases q with
      | inl p => rfl
      | inr p =>
        show some ((p.2.mapIdx _).length) = some p.2.length
        rw [List.length_mapIdx]
  refine ⟨?_, ?_⟩
  · unfold ax_sz
    rw [h1]
    decide +kernel
  · unfold ax_mk
    rw [List.length_mapIdx, ax_Sh_len]
    omega
theorem ax_law_ok : ax_OK := by
  intro L xs hL
  obtain ⟨h0, h1, h2, h3, b0, b1', b2, b3, hb⟩ := bo_all
  obtain ⟨r, f⟩ := bo_RA hb
  have hm := boH_mk hb
  have i1 : cV (ax_lO xs L) 59 0 [.ref 0] h0 = some h1 := cV_ev mi_0 (ev_iff.mpr ⟨2000, gs_run (bo_sim xs L) 2000 59 0 0 _ [] h0 _ b1'⟩) rfl
  have i2 : cV (ax_lO xs L) 59 195 [.ref 82] h2 = some h3 := cV_ev mi_195 (ev_iff.mpr ⟨2000, gs_run (bo_sim xs L) 2000 59 195 0 _ [] h2 _ b3⟩) rfl
  obtain ⟨ρ, hρ⟩ := lw_loop (xs := xs) hL L 0 (boI h3, boJ h3) (by omega) (Nat.zero_le _) r f
  have e : ev (ax_lO xs L) 60 ax_law 0 (ax_ent [.ref 1000] 4) [] [] = some (some (.int 1), ax_mk ρ) := by
    refine (E_new c_293_0 (show (ax_lO xs L).2.2.2.2.2.1 [] 10 = some (0, h0) from b0)).trans ?_
    refine (E_dup c_293_3 rfl).trans ?_
    refine (E_ini (d := 59) c_293_4 mi_0 (by omega) (by decide) (by omega) i1).trans ?_
    refine (E_as (L' := [.ref 1000, .ref 0, .null, .null]) c_293_7 (by decide) (by omega) rfl).trans ?_
    refine (E_new c_293_8 (show (ax_lO xs L).2.2.2.2.2.1 h1 11 = some (82, h2) from b2)).trans ?_
    refine (E_dup c_293_11 rfl).trans ?_
    refine (E_ini (d := 59) c_293_12 mi_195 (by omega) (by decide) (by omega) i2).trans ?_
    refine (E_as (L' := [.ref 1000, .ref 0, .ref 82, .null]) c_293_15 (by decide) (by omega) rfl).trans ?_
    refine (E_ic (v := 0) c_293_16 rfl).trans ?_
    refine (E_is (L' := lwL 0) c_293_17 (by decide) rfl).trans ?_
    rw [hm]
    exact hρ
  obtain ⟨n, hn⟩ := ev_iff.mp e
  exact ⟨n, ax_mk ρ, hn, (cs_mk ρ).2, (cs_mk ρ).1⟩
