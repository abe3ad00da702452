/-! BODIES AS EQUATIONS: what the symbolic walk says, checked row by row (laid by wip/whole/gen_u.py) -/
def ax_lt {α β : Type} (x : α) (f : α → β) : β := f x
theorem ax_ltE {H : Type} {O : ax_O H} {d m pc : Nat} {L st : List Value} {x : H} {f : H → Option (Option Value × H)} (h : ∀ s, ev O d m pc L st s = f s) : ev O d m pc L st x = ax_lt x f := h x
set_option maxHeartbeats 4000000 in
theorem u_174_0 (d : Nat) (σ : ax_S) (x1 : Int32) : ev sO d 174 0 [.ref 0, .int x1] [] σ = if x1 = 0 then (some (some (.ref 22), σ)) else (some (some (.ref 37), σ)) := by
  refine (E_il c_174_0 rfl).trans ?_
  refine (E_b0_ne (q := 11) c_174_1 rfl).trans (ax_ite ?_ ?_)
  · refine (E_al c_174_4 rfl (by decide)).trans ?_
    refine (E_gfr (k := 3) (r := 22) c_174_5 sh_0 rfl rfl rfl).trans ?_
    refine (E_goto (q := 15) c_174_8 rfl).trans ?_
    exact E_rA c_174_15 mi_174 (by decide)
  · refine (E_al c_174_11 rfl (by decide)).trans ?_
    refine (E_gfr (k := 4) (r := 37) c_174_12 sh_0 rfl rfl rfl).trans ?_
    exact E_rA c_174_15 mi_174 (by decide)
theorem E_img {d m pc pc' : Nat} {L rest : List Value} {σ : ax_S} {k : Int32} {nm : String} (hc : ax_code m pc = some (.invokevirtual 174, pc')) (hm : ax_mi 174 = some (1, 10, false, false, some (.object nm), 2)) (h8 : (rest.map fun v => v.category).sum ≤ 8) : ev sO (d + 1) m pc L (.int k :: .ref 0 :: rest) σ = if k = 0 then ev sO (d + 1) m pc' L (.ref 22 :: rest) σ else ev sO (d + 1) m pc' L (.ref 37 :: rest) σ := by
  have hr : ∃ r, ax_M[174]? = some r ∧ r.2.2.1 = 2 := by
    obtain ⟨r, hr, -, -, -, -, -, h6⟩ := ax_mi_of hm
    exact ⟨r, hr, h6⟩
  obtain ⟨r, hr, h2⟩ := hr
  rw [E_cRV hc hm rfl (sO_kl sh_0) h8 (Nat.le_of_ble_eq_true rfl)]
  by_cases hk : k = 0
  · rw [if_pos hk, cR_of (v := 22) (h' := σ) hr (by rw [h2]; rfl) ((u_174_0 d σ k).trans (if_pos hk))]
    rfl
  · rw [if_neg hk, cR_of (v := 37) (h' := σ) hr (by rw [h2]; rfl) ((u_174_0 d σ k).trans (if_neg hk))]
    rfl
