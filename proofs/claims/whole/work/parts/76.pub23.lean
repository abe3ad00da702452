/-! THE PUBLIC METHODS, 23: count -/
theorem s_rows (d : Nat) (σ : ax_S) : cI sO d 191 [.ref 1] σ = some (it (fun k (u : Int32) => if σ.1 3 k = -1 then u else u + 1) 8 0, σ) := by
  refine cI_ev mi_191 ((u_191_1 d σ).trans ?_) rfl
  refine loop_dk (E := fun k (u : Int32) (w : Value) => ev sO d 191 13 [.ref 1, .int u, .ref 3, .int 8, .int (nI k), w] [] σ) (D := c1) (f := fun k u => if σ.1 3 k = -1 then u else u + 1) (N := 8) (fun k u w hk hw => ?_) 0 .null rfl (fun w hw => ?_)
  · rw [u_191_1p13 _ _ _ rfl _ _ _ _ hw, if_pos (l8 hk), gd_t (nI_g hk (by omega)), nI_add1, nI_c (by omega)]
    refine ⟨.int (σ.1 3 k), rfl, ?_⟩
    by_cases q : σ.1 3 k = -1
    · rw [if_pos q, if_pos q]
    · rw [if_neg q, if_neg q]
  · rw [u_191_1p13 _ _ _ rfl _ _ _ _ hw, if_neg g8]
theorem m_rows (d : Nat) (σ : ax_S) (w : Value) (hw : c1 w) : ev sO (d + 1) 291 50 [.ref 82, w, .int 0, .int 0] [] σ = some (some (.long (it (fun k (u : Int32) => if σ.1 83 k < 0 then u else u + 1) 8 0).toInt64), σ) := by
  refine (loop_it (E := fun k (u : Int32) => ev sO (d + 1) 291 50 [.ref 82, w, .int u, .int (nI k)] [] σ) (f := fun k u => if σ.1 83 k < 0 then u else u + 1) (N := 8) (fun k u hk => ?_) 0).trans ?_
  · rw [u_291_82p50 _ _ _ hw, if_pos (l8 hk), gd_t (nI_g hk (by omega)), nI_add1, nI_c (by omega)]
    by_cases q : σ.1 83 k < 0
    · rw [if_pos q, if_pos q, Int32.add_zero]
    · rw [if_neg q, if_neg q]
  · rw [u_291_82p50 _ _ _ hw, if_neg g8]
theorem m_stains (d : Nat) {σ : ax_S} {n : Nat} (w : Value) (hw : c1 w) (hs : σ.1 88 0 = nI n) (hn : n ≤ 12) (hi : mI σ n) : ev sO (d + 1) 291 102 [.ref 82, w, .int 0, .int 0] [] σ = some (some (.long (it (fun k (u : Int32) => u + sts (mr σ k)) n 0).toInt64), σ) := by
  refine (loop_it (E := fun k (u : Int32) => ev sO (d + 1) 291 102 [.ref 82, w, .int u, .int (nI k)] [] σ) (f := fun k u => u + sts (mr σ k)) (N := n) (fun k u hk => ?_) 0).trans ?_
  · obtain ⟨X, hX, e1, e2⟩ := ms_few hi hk
    rw [u_291_82p102 _ _ _ hw, hs, if_pos (nlt hk), m_of4 _ _ (show k < 12 by omega), Option.bind_some]
    simp only [e1]
    rw [m_bits _ _ (show X < 4096 by omega), Option.bind_some]
    simp only [nI_add1, e2]
  · rw [u_291_82p102 _ _ _ hw, hs, if_neg (nnl (Nat.le_refl n))]
theorem RS_m {la sz it_ lN mN iN : Nat → Int32} {r : Nat} (h : RS la sz it_ lN mN iN r) : sz r = -1 ↔ lN r < 0 := by
  obtain ⟨a, b⟩ | ⟨n, l, hn, hl, a, b, c, e, -⟩ := h
  · rw [a, b]
    exact ⟨fun _ => by decide, fun _ => rfl⟩
  · rw [a, e]
    constructor
    · intro q
      have := congrArg Int32.toInt q
      rw [nI_i (by omega), show (-1 : Int32).toInt = -1 from rfl] at this
      omega
    · intro q
      rw [i_lt, nI_i (by omega), i_0] at q
      omega
theorem t_count (d : Nat) {σ : ax_S} (x : Int32) (r : RA σ) : AK d σ 190 291 [.int x] := by
  obtain ⟨⟨n, h⟩, r2, r3, r4, -⟩ := r
  obtain ⟨hn, hs, hs88, -⟩ := rd_of h
  obtain ⟨ms0, mi0, -, he, -⟩ := rd_m h (ρ := sI σ 82 0 0) (sI_n _ _ (by decide))
  obtain ⟨m, p, hm, hp, k0, k1, hK⟩ := rk_of r2
  have n0 := hK.2.2.2.1
  have n1 := hK.2.2.2.2.2.1
  obtain ⟨-, t, ht, s1, s2, -⟩ := r4
  have go : ∀ v, ev sO (d + 20) 190 0 [.ref 0, .int x] [] σ = some (some (.long v), σ) → ev sO (d + 20) 291 0 [.ref 82, .int x, .null, .null] [] σ = some (some (.long v), sI σ 82 0 0) → AK d σ 190 291 [.int x] := fun v h1 h2 => ⟨v, _, cL_ev mi_190 h1 rfl, cL_ev mi_291 h2 rfl, Sc_0 σ⟩
  by_cases x0 : x = 0
  · refine go (it (fun k (u : Int32) => if σ.1 3 k = -1 then u else u + 1) 8 0).toInt64 ?_ ?_
    · rw [u_190_0 _ σ, if_pos x0, s_rows, Option.bind_some]
    · rw [u_291_82 _ σ, if_pos x0, m_rows (d + 19) _ _ rfl]
      have : it (fun k (u : Int32) => if (sI σ 82 0 0).1 83 k < 0 then u else u + 1) 8 (0 : Int32) = it (fun k (u : Int32) => if σ.1 3 k = -1 then u else u + 1) 8 0 := it_congr (fun k u hk => by
        rw [sI_n (x := 83) _ _ (by decide)]
        by_cases q : σ.1 3 k = -1
        · rw [if_pos q, if_pos ((RS_m (r3 k hk)).mp q)]
        · rw [if_neg q, if_neg (fun z => q ((RS_m (r3 k hk)).mpr z))])
      rw [this]
  · by_cases x1 : x = 1
    · refine go (nI m).toInt64 ?_ ?_
      · rw [u_190_0 _ σ, if_neg x0, if_pos x1, show cI sO (d + 19) 64 [.ref 8] σ = some (σ.1 8 1, σ) from cI_ev mi_64 (u_64_8 _ σ) rfl, Option.bind_some]
        simp only [k0]
      · rw [u_291_82 _ σ, if_neg x0, if_pos x1, x1, gd_t (by decide), sI_n (x := 86) _ _ (by decide)]
        rw [show ((1 : Int32) - 1).toNatClampNeg = 0 from rfl, n0]
    · by_cases x2 : x = 2
      · refine go (nI p).toInt64 ?_ ?_
        · rw [u_190_0 _ σ, if_neg x0, if_neg x1, if_pos x2, show cI sO (d + 19) 65 [.ref 8] σ = some (σ.1 8 6, σ) from cI_ev mi_65 (u_65_8 _ σ) rfl, Option.bind_some]
          simp only [k1]
        · rw [u_291_82 _ σ, if_neg x0, if_neg x1, if_pos x2, x2, gd_t (by decide), sI_n (x := 86) _ _ (by decide)]
          rw [show ((2 : Int32) - 1).toNatClampNeg = 1 from rfl, n1]
      · by_cases x3 : x = 3
        · refine go (nI n).toInt64 ?_ ?_
          · rw [u_190_0 _ σ, if_neg x0, if_neg x1, if_neg x2, if_pos x3, s_size, Option.bind_some]
            simp only [hs]
          · rw [u_291_82 _ σ, if_neg x0, if_neg x1, if_neg x2, if_pos x3, ms0]
        · by_cases x4 : x = 4
          · refine go (it (fun k (u : Int32) => u + sts (cr σ k)) n 0).toInt64 ?_ ?_
            · rw [u_190_0 _ σ, if_neg x0, if_neg x1, if_neg x2, if_neg x3, if_pos x4, s_allStains _ hs hn, Option.bind_some]
            · rw [u_291_82 _ σ, if_neg x0, if_neg x1, if_neg x2, if_neg x3, if_pos x4, m_stains (d + 19) _ rfl ms0 hn mi0]
              have : it (fun k (u : Int32) => u + sts (mr (sI σ 82 0 0) k)) n (0 : Int32) = it (fun k (u : Int32) => u + sts (cr σ k)) n 0 := it_congr (fun k u hk => by rw [sts_c (he k hk).2])
              rw [this]
          · by_cases x5 : x = 5
            · refine go (nI t).toInt64 ?_ ?_
              · rw [u_190_0 _ σ, if_neg x0, if_neg x1, if_neg x2, if_neg x3, if_neg x4, if_pos x5, show cI sO (d + 19) 193 [.ref 5] σ = some (σ.1 5 1, σ) from cI_ev mi_193 (u_193_5 _ σ) rfl, Option.bind_some]
                simp only [s1]
              · rw [u_291_82 _ σ, if_neg x0, if_neg x1, if_neg x2, if_neg x3, if_neg x4, if_pos x5, sI_k _ (by decide), s2]
            · refine go BADv ?_ ?_
              · rw [u_190_0 _ σ, if_neg x0, if_neg x1, if_neg x2, if_neg x3, if_neg x4, if_neg x5]
              · rw [u_291_82 _ σ, if_neg x0, if_neg x1, if_neg x2, if_neg x3, if_neg x4, if_neg x5]
