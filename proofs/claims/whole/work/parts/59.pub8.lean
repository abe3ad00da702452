/-! THE PUBLIC METHODS, 8: chance -/
theorem lo_v (mo : Nat → Int32) (row : Nat → Nat → Int32) {c t n : Nat} (hn : n ≤ 12) (hc : c < n) : lo mo row c t n = -1000000 ∨ ∃ h, h ≤ 12 ∧ lo mo row c t n = nI h := by
  unfold lo
  split
  · unfold lof
    cases hq : itx (fun k s => loF mo row t (c + 1 + k) s) (n - (c + 1)) (0, 1 <<< (nI c &&& 31)) with
    | none => exact Or.inl rfl
    | some s =>
      obtain ⟨X, h, -, -, e3, -, e5⟩ := lo_inv hn hc _ (Nat.le_refl _) s hq
      exact Or.inr ⟨h, by omega, e3⟩
  · exact Or.inl rfl
theorem s_chance (d : Nat) (σ : ax_S) (l : Int32) (h : Nat) (hh : h ≤ 12) (x1 x2 : Int32) : ev sO (d + 3) 166 65 [.ref 0, .int x1, .int x2, .int l, .int (nI h), .long 1, .null, .int 0] [] σ = some (some (.long (it (fun _ u => u * l.toInt64) h 1)), σ) := by
  refine (loop_it (E := fun k (u : Int64) => ev sO (d + 3) 166 65 [.ref 0, .int x1, .int x2, .int l, .int (nI h), .long u, .null, .int (nI k)] [] σ) (f := fun _ u => u * l.toInt64) (N := h) (fun k u hk => ?_) 1).trans ?_
  · rw [u_166_0p65 _ _ _ rfl _ rfl _ rfl, if_pos (nlt hk), nI_add1]
  · rw [u_166_0p65 _ _ _ rfl _ rfl _ rfl, if_neg (nnl (Nat.le_refl h))]
theorem m_chance (d : Nat) (σ : ax_S) (l : Int32) (h : Nat) (hh : h ≤ 12) (x1 x2 : Int32) : ev sO (d + 4) 275 52 [.ref 82, .int x1, .int x2, .int l, .int (nI h), .long 1, .null, .int 0] [] σ = some (some (.long (it (fun _ u => u * l.toInt64) h 1)), σ) := by
  refine (loop_it (E := fun k (u : Int64) => ev sO (d + 4) 275 52 [.ref 82, .int x1, .int x2, .int l, .int (nI h), .long u, .null, .int (nI k)] [] σ) (f := fun _ u => u * l.toInt64) (N := h) (fun k u hk => ?_) 1).trans ?_
  · rw [u_275_82p52 _ _ _ rfl _ rfl _ rfl, if_pos (nlt hk), nI_add1]
  · rw [u_275_82p52 _ _ _ rfl _ rfl _ rfl, if_neg (nnl (Nat.le_refl h)), if_neg (nI_nn (by omega))]
/-- of so many heirs -/
def chv (q l : Int32) : Int64 := if q = -1000000 then -1000000 else it (fun _ u => u * l.toInt64) q.toNatClampNeg 1
theorem t_chance (d : Nat) {σ : ax_S} (x y z : Int32) (r : Rd σ) : AK d σ 166 275 [.int x, .int y, .int z] := by
  obtain ⟨n, h⟩ := r
  obtain ⟨hn, hs, -, -, hm, -⟩ := rd_of h
  obtain ⟨ms0, mi0, hm2, he, hmo, -⟩ := rd_m h (ρ := sI σ 82 0 0) (sI_n _ _ (by decide))
  by_cases h1 : hasP (nI n) x ∧ rgP 0 7 y ∧ rgP 2 9 z
  · obtain ⟨h1, h2, h3⟩ := h1
    obtain ⟨a, ha, e1⟩ := hasP_of hn h1
    obtain ⟨k, hk, e2⟩ := rgP_of (b := 7) (by omega) h2
    have h4 : ¬ z < 2 := by
      rw [i_lt, lit_i 2 (by decide)]
      have := h3.1
      omega
    have h5 : ¬ (9 : Int32) < z := by
      rw [i_lt, lit_i 9 (by decide)]
      have := h3.2
      omega
    refine ⟨chv (lo (σ.1 20) (cr σ) a k n) z, _, cL_ev mi_166 ((u_166_0 _ σ _ _ _).trans ?_) rfl, cL_ev mi_275 ((u_275_82 _ σ _ _ _).trans ?_) rfl, Sc_0 σ⟩
    · simp only [s_has, s_isThing, hs, Option.bind_some, bi_0]
      rw [if_neg (show ¬ ¬ hasP (nI n) x from fun q => q h1), if_neg (show ¬ ¬ rgP 0 7 y from fun q => q h2), if_neg h4, if_neg h5, e1, e2, s_leftOut _ hs hn hm ha (show k < 8 by omega), Option.bind_some]
      simp only
      unfold chv
      obtain e | ⟨q, hq, e⟩ := lo_v (σ.1 20) (cr σ) (t := k) hn ha
      · rw [e, if_pos (show (-1000000 : Int32) < 0 by decide), if_pos (show (-1000000 : Int32) = -1000000 from rfl)]
      · rw [e, if_neg (show ¬ nI q < (0 : Int32) by rw [i_lt, nI_i (by omega), i_0]; omega), if_neg (nI_nn (by omega)), s_chance _ _ _ _ hq, nI_c (by omega)]
    · simp only [m_isCard _ _ ms0 hn, m_isThing, m_in, l_i, show (2 : Int64).toInt = 2 by decide, show (9 : Int64).toInt = 9 by decide, Option.bind_some, bi_0]
      rw [if_neg (show ¬ ¬ hasP (nI n) x from fun q => q h1), if_neg (show ¬ ¬ rgP 0 7 y from fun q => q h2), if_neg (show ¬ ¬ rgP 2 9 z from fun q => q h3), e1, e2, m_leftOut _ ms0 hn mi0 hm2 ha (show k < 8 by omega), Option.bind_some]
      simp only
      rw [← lo_e hn hm (fun j hj => ⟨hmo j hj, (he j hj).2⟩) ha (show k < 8 by omega)]
      unfold chv
      obtain e | ⟨q, hq, e⟩ := lo_v (σ.1 20) (cr σ) (t := k) hn ha
      · rw [e, u_275_82p52 _ _ _ rfl _ rfl _ rfl, if_neg (show ¬ (0 : Int32) < -1000000 by decide), if_pos (show (-1000000 : Int32) = -1000000 from rfl), if_pos (show (-1000000 : Int32) = -1000000 from rfl)]
      · rw [e, if_neg (nI_nn (by omega)), m_chance _ _ _ _ hq, nI_c (by omega)]
  · refine ⟨BADv, _, cL_ev mi_166 ((u_166_0 _ σ _ _ _).trans ?_) rfl, cL_ev mi_275 ((u_275_82 _ σ _ _ _).trans ?_) rfl, Sc_0 σ⟩
    · simp only [s_has, s_isThing, hs, Option.bind_some, bi_0]
      by_cases q1 : hasP (nI n) x
      · rw [if_neg (show ¬ ¬ hasP (nI n) x from fun q => q q1)]
        by_cases q2 : rgP 0 7 y
        · rw [if_neg (show ¬ ¬ rgP 0 7 y from fun q => q q2)]
          by_cases q3 : z < 2
          · rw [if_pos q3]
          · rw [if_neg q3]
            by_cases q4 : (9 : Int32) < z
            · rw [if_pos q4]
            · exfalso
              rw [i_lt, lit_i 2 (by decide)] at q3
              rw [i_lt, lit_i 9 (by decide)] at q4
              exact h1 ⟨q1, q2, by omega, by omega⟩
        · rw [if_pos q2]
      · rw [if_pos q1]
    · simp only [m_isCard _ _ ms0 hn, m_isThing, m_in, l_i, show (2 : Int64).toInt = 2 by decide, show (9 : Int64).toInt = 9 by decide, Option.bind_some, bi_0]
      by_cases q1 : hasP (nI n) x
      · rw [if_neg (show ¬ ¬ hasP (nI n) x from fun q => q q1)]
        by_cases q2 : rgP 0 7 y
        · rw [if_neg (show ¬ ¬ rgP 0 7 y from fun q => q q2), if_pos (show ¬ rgP 2 9 z from fun q => h1 ⟨q1, q2, q⟩)]
        · rw [if_pos q2]
      · rw [if_pos q1]
