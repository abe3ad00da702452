/-! THE LAW: what it does with its script and with both -/
theorem AI.pi {d : Nat} {σ : ax_S} {c m : Nat} {as : List Value} (h : AI d σ c m as) (r : RA σ) (f : FI σ) : ∃ v τ ρ, cI sO (d + 20) c (.ref 0 :: as) σ = some (v, τ) ∧ cI sO (d + 20) m (.ref 82 :: as) τ = some (v, ρ) ∧ RA ρ ∧ FI ρ := by
  obtain ⟨v, ρ, a, b, s⟩ := h
  exact ⟨v, σ, ρ, a, b, RA_Sc s r, FI_c (Fo_Sc s) f⟩
theorem lO_kl {xs : Nat → Int32} {L : Nat} {σ : ax_S} {a ci : Nat} (h : sO.2.2.2.2.2.2.2.2 σ a = some ci) : (ax_lO xs L).2.2.2.2.2.2.2.2 (ax_mk σ) a = some ci := (ax_sim xs L).2.2.2.2.2.2.2.2 h
abbrev lwL (i : Nat) : List Value := [.ref 1000, .ref 0, .ref 82, .int (nI i)]
theorem lw_ld {xs : Nat → Int32} {L k : Nat} (h : ax_H) (hL : L ≤ 3584) (hk : k < L) : (ax_lO xs L).2.2.1 h 1000 0 (nI k) = some (xs k) := by
  show ax_lld xs L h 1000 0 (nI k) = _
  unfold ax_lld
  rw [if_pos rfl, if_pos ⟨rfl, by rw [nI_i (by omega)]; omega, by rw [nI_i (by omega)]; omega⟩, nI_c (by omega)]
theorem E_iall {H : Type} {O : ax_O H} {d m pc pc' a : Nat} {L st : List Value} {h : H} {i x : Int32} (hc : ax_code m pc = some (.iaload, pc')) (hv : O.2.2.1 h a 0 i = some x) : ev O d m pc L (.int i :: .ref a :: st) h = ev O d m pc' L (.int x :: st) h := E_stp hc rfl (by show Option.map _ (O.2.2.1 h a 0 i) = _; rw [hv]; rfl)
theorem E_alen {H : Type} {O : ax_O H} {d m pc pc' a : Nat} {L st : List Value} {h : H} {x : Int32} (hc : ax_code m pc = some (.arraylength, pc')) (hv : O.2.2.2.2.1 h a = some x) : ev O d m pc L (.ref a :: st) h = ev O d m pc' L (.int x :: st) h := E_stp hc rfl (by show Option.map _ (O.2.2.2.2.1 h a) = _; rw [hv]; rfl)
theorem lw_arg {xs : Nat → Int32} {L i k p0 p1 p2 p3 p4 p5 : Nat} {n : Int} {st : List Value} {h : ax_H} (hL : L ≤ 3584) (hk : i + k < L) (c0 : ax_code 293 p0 = some (.aload 0, p1)) (c1' : ax_code 293 p1 = some (.iload 3, p2)) (c2 : ax_code 293 p2 = some (.iconst n, p3)) (c3 : ax_code 293 p3 = some (.iadd, p4)) (c4 : ax_code 293 p4 = some (.iaload, p5)) (hn : Int32.ofInt n = nI k) : ev (ax_lO xs L) 60 293 p0 (lwL i) st h = ev (ax_lO xs L) 60 293 p5 (lwL i) (.int (xs (i + k)) :: st) h := by
  refine (E_al c0 rfl (by decide)).trans ?_
  refine (E_il c1' rfl).trans ?_
  refine (E_ic c2 hn).trans ?_
  refine (E_iadd c3).trans ?_
  rw [nI_pl (by omega)]
  exact E_iall c4 (lw_ld h hL hk)
