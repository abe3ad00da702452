/-! THE PUBLIC METHODS, 20: a book, of both -/
theorem t_book (d : Nat) {σ : ax_S} (x : Int32) (r : RA σ) : PB d σ 170 277 [.int x] := by
  obtain ⟨n, h⟩ := r.1
  obtain ⟨hn, hs, hs88, hi, -, -, hE, -⟩ := rd_of h
  have h11 : rgP 0 11 x → ¬ (11 : Int32) < x := fun q => by
    rw [i_nlt x 11 (by omega)]
    have := q.2
    omega
  by_cases hb : rgP 0 11 x ∧ 0 < n
  · obtain ⟨h1, h2⟩ := hb
    obtain ⟨τ, a1, a2, a3⟩ := s_findBook (d + 14) x hs hn h2
    have e88 : (sI τ 82 0 0).1 88 = σ.1 88 := by rw [sI_n _ _ (by decide), a2.1 88 (by decide)]
    have hs2 : (sI τ 82 0 0).1 88 0 = nI n := by rw [e88]; exact hs88
    obtain ⟨emr, -, -, -, -, -, hmi⟩ := m88 e88
    obtain ⟨ρ, b1', b2, b3⟩ := m_near (d + 16) x hs2 hn (hmi n hi)
    have hs3 : ρ.1 88 0 = nI n := by rw [b1'.1 88 (by decide)]; exact hs2
    have hSb : Sb σ ρ := by
      refine ⟨((a2.up (by decide)).set 0 0 (by decide)).tr (b1'.up (by decide)), ?_, ?_, ?_, ?_, ?_⟩
      all_goals rw [b1'.1 82 (by decide), sI_k _ (by decide), a2.1 82 (by decide)]
    have n0 : nI n ≠ 0 := fun q => by have := nI_inj (b := 0) (by omega) (by omega) q; omega
    have key : (tkB (fun S => cov (nr (cr σ) x n) 12 S = nI (2 ^ n - 1)) (2 ^ n - 1)).1 = nI (bkM (fun S => cov (nr2 (mr σ) x n) n S = nI (2 ^ n - 1)) (2 ^ n - 1) (2 ^ n - 2)) := by
      have pw : 2 ^ n ≤ 4096 := pw_lt hn
      rw [tk_end _ hn h2 ?_]
      · congr 1
        refine it_congr (fun k B hk => ?_)
        simp only [cov_n (F := nr2 (mr σ) x n) (G := nr (cr σ) x n) hn (show k + 1 < 2 ^ n by omega) (fun j hj => nr_e hn hj (fun i hi => (hE i hi).2))]
      · refine bt_eq (fun b hb => ?_)
        rw [cov_bt, nI_bt _ hb, Nat.testBit_two_pow_sub_one]
        constructor
        · rintro ⟨k, -, -, q⟩
          exact decide_eq_true ((nr_bt hn hb).mp q).1
        · intro q
          have q := of_decide_eq_true q
          exact ⟨b, by omega, by rw [Nat.testBit_two_pow_sub_one]; exact decide_eq_true q, (nr_bt hn hb).mpr ⟨q, Or.inl rfl⟩⟩
    refine ⟨(nI (bkM (fun S => cov (nr2 (mr σ) x n) n S = nI (2 ^ n - 1)) (2 ^ n - 1) (2 ^ n - 2))).toInt64, τ, ρ, cL_ev mi_170 ((u_170_0 _ σ _).trans ?_) rfl, cL_ev mi_277 ((u_277_82 _ τ _).trans ?_) rfl, RA_Sb hSb r, Fo_Sb hSb⟩
    · rw [if_neg (rg01 h1), if_neg (h11 h1), s_size, Option.bind_some]
      simp only [hs]
      rw [if_neg n0, a1, Option.bind_some, show cI sO (d + 19) 122 [.ref 63] τ = some (τ.1 63 2, τ) from cI_ev mi_122 (u_122_63 _ τ) rfl, Option.bind_some]
      have := congrArg Prod.fst a3
      simp only at this ⊢
      rw [this, key]
    · simp only [m_in, l_i, l_0, show (11 : Int64).toInt = 11 by decide, Option.bind_some, bi_0]
      rw [if_neg (fun q => q h1), hs2, if_neg n0, b3]
      rw [m_bk (d + 16) (nr2 (mr σ) x n) hs3 hn h2 (fun j hj => by rw [b2 j hj, emr]) _ rfl]
  · refine AK.pb ⟨if rgP 0 11 x then -9000000000000000002 else BADv, sI σ 82 0 0, cL_ev mi_170 ((u_170_0 _ σ _).trans ?_) rfl, cL_ev mi_277 ((u_277_82 _ σ _).trans ?_) rfl, Sc_0 σ⟩ r
    · by_cases q : rgP 0 11 x
      · have n0 : n = 0 := by
          apply Nat.eq_zero_of_not_pos
          exact fun z => hb ⟨q, z⟩
        rw [if_neg (rg01 q), if_neg (h11 q), s_size, Option.bind_some, if_pos q]
        simp only [hs, n0]
        rw [if_pos (show nI 0 = 0 from rfl)]
      · rw [if_neg q]
        split
        · rfl
        · rename_i q3
          rw [if_pos]
          rw [i_lt, i_0] at q3
          rw [i_nlt x 11 (by omega)]
          apply Int.lt_of_not_ge
          exact fun z => q ⟨by omega, z⟩
    · obtain ⟨ms0, -⟩ := rd_m h (ρ := sI σ 82 0 0) (sI_n _ _ (by decide))
      simp only [m_in, l_i, l_0, show (11 : Int64).toInt = 11 by decide, Option.bind_some, bi_0]
      by_cases q : rgP 0 11 x
      · have n0 : n = 0 := by
          apply Nat.eq_zero_of_not_pos
          exact fun z => hb ⟨q, z⟩
        rw [if_neg (fun z => z q), ms0, n0, if_pos (show nI 0 = 0 from rfl), if_pos q]
      · rw [if_pos q, if_neg q]
