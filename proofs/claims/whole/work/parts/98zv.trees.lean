/-! THE PUBLIC METHODS, 39: trees -/
/-- one call of both, what the class keeps of its trees in it -/
abbrev PT (d : Nat) (σ : ax_S) (c m : Nat) (as : List Value) : Prop := ∃ v τ ρ, cL sO (d + 20) c (.ref 0 :: as) σ = some (v, τ) ∧ cL sO (d + 20) m (.ref 82 :: as) τ = some (v, ρ) ∧ RA ρ ∧ FI ρ
theorem PB.pt {d : Nat} {σ : ax_S} {c m : Nat} {as : List Value} (h : PB d σ c m as) (f : FI σ) : PT d σ c m as := by
  obtain ⟨v, τ, ρ, a, b, c, d⟩ := h
  exact ⟨v, τ, ρ, a, b, c, FI_c d f⟩
theorem Fo_Sc {σ ρ : ax_S} (h : Sc σ ρ) : Fo σ ρ := Fo_sm h.1 (fun a h1 h2 => by
  simp only [List.mem_cons, List.not_mem_nil, or_false]
  omega)
theorem Sc_tr {σ τ ρ : ax_S} (h1 : Sc σ τ) (h2 : Sc τ ρ) : Sc σ ρ := ⟨h1.1.tr h2.1, h2.2.1.trans h1.2.1, h2.2.2.1.trans h1.2.2.1, h2.2.2.2.1.trans h1.2.2.2.1, h2.2.2.2.2.1.trans h1.2.2.2.2.1, h2.2.2.2.2.2.trans h1.2.2.2.2.2⟩
theorem Sc_seek {σ ρ : ax_S} (h : sm [82, 92, 93, 94, 95, 96, 97, 98] σ ρ) (f : ∀ f, f ≠ 29 → f ≠ 33 → f ≠ 34 → f ≠ 35 → ρ.1 82 f = σ.1 82 f) : Sc σ ρ := ⟨h.up (by decide), f 1 (by decide) (by decide) (by decide) (by decide), f 7 (by decide) (by decide) (by decide) (by decide), f 10 (by decide) (by decide) (by decide) (by decide), f 11 (by decide) (by decide) (by decide) (by decide), f 43 (by decide) (by decide) (by decide) (by decide)⟩
theorem t_trees (d : Nat) {σ : ax_S} (x y : Int32) (r : RA σ) (hF : FI σ) : PT d σ 134 257 [.int x, .int y] := by
  obtain ⟨n, hRD⟩ := r.1
  obtain ⟨hn, h17, h88, -⟩ := rd_of hRD
  have e88 : (sI σ 82 0 0).1 88 0 = nI n := by rw [sI_n _ _ (by decide)]; exact h88
  have ec := u_134_0 (d + 16) σ x y
  have em := u_257_82 (d + 14)
  obtain ⟨X, rfl, hX, p2, p6, g1⟩ | ⟨hno, g1⟩ := s_isGrove (d + 18) (σ := σ) x hn h17
  · rw [g1, Option.bind_some] at ec
    (try simp only at ec)
    rw [if_neg (show ¬ (1 : Int32) = 0 by decide)] at ec
    by_cases hy : rgP 0 2 y
    · rw [if_neg (show ¬ y < 0 from fun z => by rw [i_lt, i_0] at z; have := hy.1; omega), if_neg (show ¬ (2 : Int32) < y from fun z => by rw [i_lt, show (2 : Int32).toInt = 2 from rfl] at z; have := hy.2; omega)] at ec
      obtain ⟨τ, K, F, cd, k1, fr, k3, k4, k5, -, -, k8⟩ := t_grow (d + 16) hRD hF hX p2 p6
      have hlen := enL_len hn hX
      rw [k1, Option.bind_some] at ec
      have eml := em τ (nI X) y
      obtain ⟨ρ, a1, a2, a3⟩ := m_grove (d + 18) (K := K) (F := F) (cd := cd) hRD fr hX p2 p6 (fun m hm => ⟨(k8 m hm).1, (k8 m hm).2.2.2⟩)
      rw [a1, Option.bind_some] at eml
      (try simp only at eml)
      rw [if_neg (show ¬ (1 : Int32) = 0 by decide), m_in, Option.bind_some] at eml
      simp only [bi_0, l_i, l_0, show (2 : Int64).toInt = 2 by decide] at eml
      rw [if_neg (fun z => z hy)] at eml
      have rA : RA τ := RA_fo fr r
      by_cases y2 : y = 2
      · rw [if_pos y2, m_allTrees _ (by omega) (by omega) a3.2.2.2.2.1, Option.bind_some] at eml
        rw [if_neg (by rw [y2]; decide), if_neg (by rw [y2]; decide)] at ec
        refine ⟨(nI (allN (enL X n).length)).toInt64, τ, ρ, cL_ev mi_134 (ec.trans ?_) rfl, cL_ev mi_257 eml rfl, RA_Sc a2 rA, FI_c (Fo_Sc a2) k3⟩
        rw [show cI sO (d + 16 + 3) 152 [.ref 66] τ = some (τ.1 66 14, τ) from cI_ev mi_152 (u_152_66 _ τ) rfl, Option.bind_some, k4]
      · obtain ⟨ω, s1, s2, s3, s4⟩ := m_seekTrees (d + 14) a3
        have hS : Sc τ ω := Sc_tr a2 (Sc_seek s2 s3)
        obtain ⟨L, w, t1, t2, t3, t4, -⟩ := GA_GR (by omega) (by omega) (fun m hm => (k8 m hm).1) (fun m hm => (k8 m hm).2.2.2) k5 s4
        rw [if_neg y2, s1, Option.bind_some, t3, t4] at eml
        by_cases y0 : y = 0
        · rw [if_pos y0] at eml ec
          refine ⟨(nI L).toInt64, τ, ω, cL_ev mi_134 (ec.trans ?_) rfl, cL_ev mi_257 eml rfl, RA_Sc hS rA, FI_c (Fo_Sc hS) k3⟩
          rw [show cI sO (d + 16 + 3) 150 [.ref 66] τ = some (τ.1 66 12, τ) from cI_ev mi_150 (u_150_66 _ τ) rfl, Option.bind_some, t1]
        · have y1 : y = 1 := by
            have h1 := hy.1
            have h2 := hy.2
            rw [i_eq, i_0] at y0
            rw [i_eq, show (2 : Int32).toInt = 2 from rfl] at y2
            rw [i_eq, i_1]
            omega
          rw [if_neg y0] at eml ec
          rw [if_pos y1] at ec
          refine ⟨(nI w).toInt64, τ, ω, cL_ev mi_134 (ec.trans ?_) rfl, cL_ev mi_257 eml rfl, RA_Sc hS rA, FI_c (Fo_Sc hS) k3⟩
          rw [show cI sO (d + 16 + 3) 151 [.ref 66] τ = some (τ.1 66 13, τ) from cI_ev mi_151 (u_151_66 _ τ) rfl, Option.bind_some, t2]
    · have ec2 : ev sO (d + 20) 134 0 [.ref 0, .int (nI X), .int y] [] σ = some (some (.long (-9000000000000000001)), σ) := by
        rw [ec]
        by_cases z : y < 0
        · rw [if_pos z]
        · rw [if_neg z]
          by_cases z2 : (2 : Int32) < y
          · rw [if_pos z2]
          · rw [i_lt, i_0] at z
            rw [i_lt, show (2 : Int32).toInt = 2 from rfl] at z2
            exact absurd ⟨by omega, by omega⟩ hy
      obtain ⟨ρ, a1, a2, a3, -⟩ := m_areEnds (d + 18) (σ := sI σ 82 0 0) (n := n) (X := X) hn e88 hX p2 p6
      have eml := em σ (nI X) y
      rw [a1, Option.bind_some] at eml
      (try simp only at eml)
      rw [if_neg (show ¬ (1 : Int32) = 0 by decide), m_in, Option.bind_some] at eml
      simp only [bi_0, l_i, l_0, show (2 : Int64).toInt = 2 by decide] at eml
      rw [if_pos hy] at eml
      have f : ∀ f, f ≠ 0 → f ≠ 25 → ρ.1 82 f = σ.1 82 f := fun f f0 f25 => by rw [a3 f f25, sI_k _ f0]
      have hS : Sc σ ρ := ⟨((sm.rf _ _).set _ _ (by decide)).tr (a2.up (by decide)), f 1 (by decide) (by decide), f 7 (by decide) (by decide), f 10 (by decide) (by decide), f 11 (by decide) (by decide), f 43 (by decide) (by decide)⟩
      exact ⟨_, σ, ρ, cL_ev mi_134 ec2 rfl, cL_ev mi_257 eml rfl, RA_Sc hS r, FI_c (Fo_Sc hS) hF⟩
  · rw [g1, Option.bind_some] at ec
    (try simp only at ec)
    rw [if_pos trivial] at ec
    have eml := em σ x y
    rw [m_noEnds (d + 18) x hn e88 hno, Option.bind_some] at eml
    (try simp only at eml)
    rw [if_pos trivial] at eml
    exact ⟨_, σ, _, cL_ev mi_134 ec rfl, cL_ev mi_257 eml rfl, RA_Sc (Sc_0 σ) r, FI_c (Fo_Sc (Sc_0 σ)) hF⟩
