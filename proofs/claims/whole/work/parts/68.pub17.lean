/-! THE PUBLIC METHODS, 17: years of both -/
theorem isE_u {g : Int32 → Int} {F : Nat → Int32} {P : Nat → Prop} {p : Nat} {b b' v v' : Int32} (h : isE g F P p b v) (h' : isE g F P p b' v') (inj : ∀ x y, g x = g y → x = y) : (v = b ∧ v' = b' ∧ ∀ k, k < p → ¬ P k) ∨ (v = v' ∧ ∃ k, k < p ∧ P k ∧ v = F k) := by
  obtain ⟨e, h⟩ | ⟨k, h1, h2, h3, h4⟩ := h
  · obtain ⟨e', h'⟩ | ⟨k', h1', h2', h3', h4'⟩ := h'
    · exact Or.inl ⟨e, e', h⟩
    · exact absurd h2' (h k' h1')
  · obtain ⟨e', h'⟩ | ⟨k', h1', h2', h3', h4'⟩ := h'
    · exact absurd h2 (h' k h1)
    · refine Or.inr ⟨?_, k, h1, h2, h3⟩
      rw [h3, h3']
      apply inj
      have := h4 k' h1' h2'
      have := h4' k h1 h2
      omega
theorem yrP_t {K f : Nat → Int32} {k t : Nat} (ht : t < 8) (e : K (66 + 3 * k) = nI t) : yrP K f 8 k ↔ 0 < f t := by
  constructor
  · rintro ⟨t', a, b, c⟩
    rw [e] at c
    rw [nI_inj (by omega) (by omega) c]
    exact b
  · intro b
    exact ⟨t, ht, b, e⟩
theorem m_yrs (d : Nat) {σ : ax_S} {n c p : Nat} (x : Int32) (hn : n ≤ 12) (hi : mI σ n) (hc : c < n) (hp : σ.1 86 1 = nI p) (hp8 : p ≤ 8) (hK : pkI (σ.1 86) p) : ∃ f t, ev sO (d + 3) 269 37 [.ref 82, .int (nI c), .int x, .int 0, .int 9999, .int 0, .null] [] σ = some (some (.long (if f = 0 then -1000000 else if t < f then -1000000 else if x = 0 then f.toInt64 else t.toInt64)), σ) ∧ isE Int32.toInt (fun k => σ.1 86 (66 + 3 * k + 1)) (yrP (σ.1 86) (mr σ c) 8) p 0 f ∧ isE ng (fun k => σ.1 86 (66 + 3 * k + 2)) (yrP (σ.1 86) (mr σ c) 8) p 9999 t := by
  obtain ⟨⟨f, t, w⟩, ⟨h1, h2, h3⟩, e⟩ := loop_P (E := fun k (s : Int32 × Int32 × Value) => ev sO (d + 3) 269 37 [.ref 82, .int (nI c), .int x, .int s.1, .int s.2.1, .int (nI k), s.2.2] [] σ) (N := p) (P := fun k s => isE Int32.toInt (fun k => σ.1 86 (66 + 3 * k + 1)) (yrP (σ.1 86) (mr σ c) 8) k 0 s.1 ∧ isE ng (fun k => σ.1 86 (66 + 3 * k + 2)) (yrP (σ.1 86) (mr σ c) 8) k 9999 s.2.1 ∧ c1 s.2.2) (fun k s hk hs => by
    obtain ⟨f, t, w⟩ := s
    obtain ⟨h1, h2, h3⟩ := hs
    simp only at h1 h2 h3 ⊢
    obtain ⟨b0, b7, b1, b2, b3, b4⟩ := hK k hk
    obtain ⟨a, ha, ea, ea2⟩ := i_nI b0
    have e0 : (66 : Int32) + 3 * nI k = nI (66 + 3 * k) := nI_lin (a := 66) (b := 3) (by omega) (by omega) (by omega)
    have e1 : nI (66 + 3 * k) + 1 = nI (66 + 3 * k + 1) := nI_add1 _
    have e2 : nI (66 + 3 * k) + 2 = nI (66 + 3 * k + 2) := nI_pl (b := 2) (by omega)
    have g0 : 0 ≤ (nI (66 + 3 * k)).toInt ∧ (nI (66 + 3 * k)).toInt < (102 : Nat) := nI_g (by omega) (by omega)
    have g1 : 0 ≤ (nI (66 + 3 * k + 1)).toInt ∧ (nI (66 + 3 * k + 1)).toInt < (102 : Nat) := nI_g (by omega) (by omega)
    have g2 : 0 ≤ (nI (66 + 3 * k + 2)).toInt ∧ (nI (66 + 3 * k + 2)).toInt < (102 : Nat) := nI_g (by omega) (by omega)
    rw [u_269_82p37 _ _ _ _ _ _ _ _ h3, hp, if_pos (nlt hk)]
    simp only [e0, e1, e2, gd_t g0, gd_t g1, gd_t g2, nI_add1, nI_c (show 66 + 3 * k < 2147483648 by omega), nI_c (show 66 + 3 * k + 1 < 2147483648 by omega), nI_c (show 66 + 3 * k + 2 < 2147483648 by omega), ea, m_has (d) hn hi hc (show a < 11 by omega), Option.bind_some, bi_0]
    have hy := yrP_t (K := σ.1 86) (f := mr σ c) (k := k) (t := a) (by omega) ea
    by_cases q : 0 < mr σ c a
    · rw [if_neg (fun c => c q)]
      refine ⟨(if f < σ.1 86 (66 + 3 * k + 1) then σ.1 86 (66 + 3 * k + 1) else f, if σ.1 86 (66 + 3 * k + 2) < t then σ.1 86 (66 + 3 * k + 2) else t, .int (nI (66 + 3 * k))), ⟨?_, ?_, rfl⟩, ?_⟩
      · simp only
        rw [pk_mx]
        exact isE_s h1 (hy.mpr q) (by rw [i_0]; omega)
      · simp only
        rw [pk_mn]
        exact isE_s h2 (hy.mpr q) (by unfold ng; rw [lit_i 9999 (by decide)]; omega)
      · by_cases c1 : f < σ.1 86 (66 + 3 * k + 1)
        · by_cases c2 : σ.1 86 (66 + 3 * k + 2) < t
          · simp only [if_pos c1, if_pos c2]
          · simp only [if_pos c1, if_neg c2]
        · by_cases c2 : σ.1 86 (66 + 3 * k + 2) < t
          · simp only [if_neg c1, if_pos c2]
          · simp only [if_neg c1, if_neg c2]
    · rw [if_pos q]
      exact ⟨(f, t, .int (nI (66 + 3 * k))), ⟨isE_n h1 (fun z => q (hy.mp z)), isE_n h2 (fun z => q (hy.mp z)), rfl⟩, rfl⟩) (0, 9999, .null) ⟨isE_0 _ _ _ _, isE_0 _ _ _ _, rfl⟩
  refine ⟨f, t, e.trans ?_, h1, h2⟩
  simp only at h3 ⊢
  rw [u_269_82p37 _ _ _ _ _ _ _ _ h3, hp, if_neg (nnl (Nat.le_refl p))]
  split
  · rfl
  · split
    · rfl
    · split <;> rfl
theorem t_years (d : Nat) {σ : ax_S} (x y : Int32) (r : Rd σ) (rk : Rk σ) : AK d σ 159 269 [.int x, .int y] := by
  obtain ⟨n, h⟩ := r
  obtain ⟨hn, hs, -⟩ := rd_of h
  obtain ⟨ms0, mi0, -, he, -⟩ := rd_m h (ρ := sI σ 82 0 0) (sI_n _ _ (by decide))
  obtain ⟨m, p, hm, hp, -, e2, hK⟩ := rk_of rk
  obtain ⟨-, -, -, -, -, n1, -, hK2, -, -, hK5⟩ := hK
  have e86 : (sI σ 82 0 0).1 86 = σ.1 86 := sI_n _ _ (by decide)
  have en : (sI σ 82 0 0).1 86 1 = nI p := by rw [e86]; exact n1
  have t0 : ∀ k, k < p → kc σ (66 + 3 * k) = σ.1 86 (66 + 3 * k) := fun k hk => hK2 _ (by omega)
  have t1 : ∀ k, k < p → kc σ (66 + 3 * k + 1) = σ.1 86 (66 + 3 * k + 1) := fun k hk => by rw [Nat.add_assoc]; exact hK2 _ (by omega)
  have t2 : ∀ k, k < p → kc σ (66 + 3 * k + 2) = σ.1 86 (66 + 3 * k + 2) := fun k hk => by rw [Nat.add_assoc]; exact hK2 _ (by omega)
  have kN : pkI ((sI σ 82 0 0).1 86) p := by rw [e86]; exact hK5
  have kC : pkI (kc σ) p := fun k hk => by rw [t0 k hk, t1 k hk, t2 k hk]; exact hK5 k hk
  by_cases hb : hasP (nI n) x ∧ rgP 0 1 y
  · obtain ⟨h1, h2⟩ := hb
    obtain ⟨c, hc, e1⟩ := hasP_of hn h1
    obtain ⟨f, hf, if1⟩ := s_hFrom (d + 17) hs hn hc e2 hp kC
    obtain ⟨t, ht, it1⟩ := s_hTill (d + 17) hs hn hc e2 hp kC
    obtain ⟨f', t', hm', if2, it2⟩ := m_yrs (d + 17) y hn mi0 hc en hp kN
    have iff : ∀ k, k < p → (yrP ((sI σ 82 0 0).1 86) (mr (sI σ 82 0 0) c) 8 k ↔ yrP (kc σ) (cr σ c) 8 k) := fun k hk => by
      rw [e86]
      constructor
      · rintro ⟨t, a, b, q⟩
        exact ⟨t, a, by rw [(he c hc).2 t (by omega)]; exact b, by rw [t0 k hk]; exact q⟩
      · rintro ⟨t, a, b, q⟩
        exact ⟨t, a, by rw [← (he c hc).2 t (by omega)]; exact b, by rw [← t0 k hk]; exact q⟩
    have if3 := isE_iff if2 iff (F' := fun k => kc σ (66 + 3 * k + 1)) (fun k hk => by simp only [e86]; exact (t1 k hk).symm)
    have it3 := isE_iff it2 iff (F' := fun k => kc σ (66 + 3 * k + 2)) (fun k hk => by simp only [e86]; exact (t2 k hk).symm)
    have key : (if f' = 0 then (-1000000 : Int64) else if t' < f' then -1000000 else if y = 0 then f'.toInt64 else t'.toInt64) = (if f = -1000000 then (-1000000 : Int64) else if t < f then -1000000 else if y = 0 then f.toInt64 else t.toInt64) := by
      obtain ⟨a1, a2, a3⟩ | ⟨a1, k, hk, a2, a3⟩ := isE_u if1 if3 (fun x y => (i_eq x y).mpr)
      · rw [if_pos a2, if_pos a1]
      · obtain ⟨-, -, b3⟩ | ⟨b1, -⟩ := isE_u it1 it3 (fun x y (q : - x.toInt = - y.toInt) => (i_eq x y).mpr (by omega))
        · exact absurd a2 (b3 k hk)
        · rw [← a1, ← b1]
          have := (kC k hk).2.2.1
          have a4 : f = kc σ (66 + 3 * k + 1) := a3
          have nz : ¬ f = 0 := fun q => by
            rw [a4, i_eq, i_0] at q
            omega
          have nn : ¬ f = -1000000 := fun q => by
            rw [a4, i_eq, i_none] at q
            omega
          rw [if_neg nz, if_neg nn]
    refine ⟨if f = -1000000 then (-1000000 : Int64) else if t < f then -1000000 else if y = 0 then f.toInt64 else t.toInt64, _, cL_ev mi_159 ((u_159_0 _ σ _ _).trans ?_) rfl, cL_ev mi_269 ((u_269_82 _ σ _ _).trans ?_) rfl, Sc_0 σ⟩
    · simp only [s_has, hs, Option.bind_some, bi_0]
      rw [if_neg (fun q => q h1), if_neg (rg01 h2), if_neg (show ¬ (1 : Int32) < y by rw [i_lt, i_1]; have := h2.2; omega), e1]
      rw [hf, Option.bind_some]
      simp only
      rw [ht, Option.bind_some]
      simp only
      split
      · rfl
      · split
        · rfl
        · split <;> rfl
    · simp only [m_isCard _ _ ms0 hn, m_in, l_i, l_0, show (1 : Int64).toInt = 1 by decide, Option.bind_some, bi_0]
      rw [if_neg (fun q => q h1), if_neg (fun q => q h2), e1, hm', key]
  · refine ⟨BADv, _, cL_ev mi_159 ((u_159_0 _ σ _ _).trans ?_) rfl, cL_ev mi_269 ((u_269_82 _ σ _ _).trans ?_) rfl, Sc_0 σ⟩
    · simp only [s_has, hs, Option.bind_some, bi_0]
      split
      · rfl
      · split
        · rfl
        · split
          · rfl
          · rename_i a1 a2 a3
            rw [i_lt, i_0] at a2
            rw [i_lt, i_1] at a3
            exact absurd ⟨Decidable.not_not.mp a1, by omega, by omega⟩ hb
    · simp only [m_isCard _ _ ms0 hn, m_in, l_i, l_0, show (1 : Int64).toInt = 1 by decide, Option.bind_some, bi_0]
      split
      · rfl
      · split
        · rfl
        · rename_i a1 a2
          exact absurd ⟨Decidable.not_not.mp a1, Decidable.not_not.mp a2⟩ hb
