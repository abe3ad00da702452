/-! THE PUBLIC METHODS, 15: grains -/
theorem i_ltn (x : Int32) (n : Nat) (h : n < 2147483648) : x < (OfNat.ofNat n : Int32) ↔ x.toInt < (n : Int) := by rw [i_lt, lit_i n h]
theorem i_nlt (x : Int32) (n : Nat) (h : n < 2147483648) : (OfNat.ofNat n : Int32) < x ↔ (n : Int) < x.toInt := by rw [i_lt, lit_i n h]
theorem nI_lin {a b k : Nat} (h : a + b * k < 2147483648) (hb : b < 2147483648) (hk : k < 2147483648) : nI a + nI b * nI k = nI (a + b * k) := by
  rw [nI_mul (by omega) hb hk, nI_pl h]
theorem nI_g {k N : Nat} (h : k < N) (hN : N < 2147483648) : 0 ≤ (nI k).toInt ∧ (nI k).toInt < (N : Nat) := by rw [nI_i (by omega)]; omega
def grF (K : Nat → Int32) (x y z : Int32) (k : Nat) (s : Int32 × Int32) : Int32 × Int32 := if K (2 + 4 * k) = x ∧ K (2 + 4 * k + 1) = y ∧ ¬ z < K (2 + 4 * k + 2) ∧ ¬ K (2 + 4 * k + 2) < s.1 then (K (2 + 4 * k + 2), K (2 + 4 * k + 3)) else s
/-- GRAINS -/
def grn (K : Nat → Int32) (x y z : Int32) (m : Nat) : Int32 := (it (grF K x y z) m (0, 1)).2
theorem s_grainsOf (d : Nat) {σ : ax_S} {m : Nat} (x y z : Int32) (hm : σ.1 8 1 = nI m) (hm16 : m ≤ 16) : cI sO d 75 [.ref 8, .int x, .int y, .int z] σ = some (grn (kc σ) x y z m, σ) := by
  refine cI_ev mi_75 ((u_75_8 d σ _ _ _).trans ?_) rfl
  refine loop_dk (E := fun k (s : Int32 × Int32) (w : Value) => ev sO d 75 9 [.ref 8, .int x, .int y, .int z, .int s.1, .int s.2, .int (nI k), w] [] σ) (D := c1) (f := grF (kc σ) x y z) (N := m) (fun k s w hk hw => ?_) (0, 1) .null rfl (fun w hw => ?_)
  · have k0 : σ.1 9 k = kc σ (2 + 4 * k) := (kc_m σ (r := 0) (by omega) (by omega)).symm
    have k1 : σ.1 10 k = kc σ (2 + 4 * k + 1) := (kc_m σ (r := 1) (by omega) (by omega)).symm
    have k2 : σ.1 11 k = kc σ (2 + 4 * k + 2) := (kc_m σ (r := 2) (by omega) (by omega)).symm
    have k3 : σ.1 12 k = kc σ (2 + 4 * k + 3) := (kc_m σ (r := 3) (by omega) (by omega)).symm
    have gk : 0 ≤ (nI k).toInt ∧ (nI k).toInt < (16 : Nat) := nI_g (by omega) (by omega)
    rw [u_75_8p9 _ _ _ _ _ _ _ _ _ hw, hm, if_pos (nlt hk), if_pos (show nI k < (16 : Int32) from nlt (N := 16) (by omega))]
    simp only [gd_t gk, nI_add1, nI_c (show k < 2147483648 by omega), k0, k1, k2, k3]
    by_cases p : kc σ (2 + 4 * k) = x ∧ kc σ (2 + 4 * k + 1) = y ∧ ¬ z < kc σ (2 + 4 * k + 2) ∧ ¬ kc σ (2 + 4 * k + 2) < s.1
    · rw [show grF (kc σ) x y z k s = (kc σ (2 + 4 * k + 2), kc σ (2 + 4 * k + 3)) from if_pos p]
      obtain ⟨a1, a2, a3, a4⟩ := p
      exact ⟨.int 1, rfl, by rw [if_pos a1, if_pos a2, if_neg a3, if_neg a4]⟩
    · rw [show grF (kc σ) x y z k s = s from if_neg p]
      by_cases a1 : kc σ (2 + 4 * k) = x
      · by_cases a2 : kc σ (2 + 4 * k + 1) = y
        · by_cases a3 : z < kc σ (2 + 4 * k + 2)
          · exact ⟨.int 0, rfl, by rw [if_pos a1, if_pos a2, if_pos a3]⟩
          · by_cases a4 : kc σ (2 + 4 * k + 2) < s.1
            · exact ⟨.int 1, rfl, by rw [if_pos a1, if_pos a2, if_neg a3, if_pos a4]⟩
            · exact absurd ⟨a1, a2, a3, a4⟩ p
        · exact ⟨.int 0, rfl, by rw [if_pos a1, if_neg a2]⟩
      · exact ⟨.int 0, rfl, by rw [if_neg a1]⟩
  · rw [u_75_8p9 _ _ _ _ _ _ _ _ _ hw, hm, if_neg (nnl (Nat.le_refl m))]
    rfl
theorem m_grainsOf (d : Nat) {σ : ax_S} {m : Nat} (x y z : Int32) (hm : σ.1 86 0 = nI m) (hm16 : m ≤ 16) : cI sO d 224 [.ref 82, .int x, .int y, .int z] σ = some (grn (σ.1 86) x y z m, σ) := by
  refine cI_ev mi_224 ((u_224_82 d σ _ _ _).trans ?_) rfl
  refine loop_dk (E := fun k (s : Int32 × Int32) (w : Value) => ev sO d 224 9 [.ref 82, .int x, .int y, .int z, .int s.1, .int s.2, .int (nI k), w] [] σ) (D := c1) (f := grF (σ.1 86) x y z) (N := m) (fun k s w hk hw => ?_) (0, 1) .null rfl (fun w hw => ?_)
  · have e0 : (2 : Int32) + 4 * nI k = nI (2 + 4 * k) := nI_lin (a := 2) (b := 4) (by omega) (by omega) (by omega)
    have e1 : nI (2 + 4 * k) + 1 = nI (2 + 4 * k + 1) := nI_add1 _
    have e2 : nI (2 + 4 * k) + 2 = nI (2 + 4 * k + 2) := nI_pl (b := 2) (by omega)
    have e3 : nI (2 + 4 * k) + 3 = nI (2 + 4 * k + 3) := nI_pl (b := 3) (by omega)
    have g0 : 0 ≤ (nI (2 + 4 * k)).toInt ∧ (nI (2 + 4 * k)).toInt < (102 : Nat) := nI_g (by omega) (by omega)
    have g1 : 0 ≤ (nI (2 + 4 * k + 1)).toInt ∧ (nI (2 + 4 * k + 1)).toInt < (102 : Nat) := nI_g (by omega) (by omega)
    have g2 : 0 ≤ (nI (2 + 4 * k + 2)).toInt ∧ (nI (2 + 4 * k + 2)).toInt < (102 : Nat) := nI_g (by omega) (by omega)
    have g3 : 0 ≤ (nI (2 + 4 * k + 3)).toInt ∧ (nI (2 + 4 * k + 3)).toInt < (102 : Nat) := nI_g (by omega) (by omega)
    rw [u_224_82p9 _ _ _ _ _ _ _ _ _ hw, hm, if_pos (nlt hk)]
    simp only [e0, e1, e2, e3, gd_t g0, gd_t g1, gd_t g2, gd_t g3, nI_add1, nI_c (show 2 + 4 * k < 2147483648 by omega), nI_c (show 2 + 4 * k + 1 < 2147483648 by omega), nI_c (show 2 + 4 * k + 2 < 2147483648 by omega), nI_c (show 2 + 4 * k + 3 < 2147483648 by omega)]
    by_cases p : σ.1 86 (2 + 4 * k) = x ∧ σ.1 86 (2 + 4 * k + 1) = y ∧ ¬ z < σ.1 86 (2 + 4 * k + 2) ∧ ¬ σ.1 86 (2 + 4 * k + 2) < s.1
    · rw [show grF (σ.1 86) x y z k s = (σ.1 86 (2 + 4 * k + 2), σ.1 86 (2 + 4 * k + 3)) from if_pos p]
      obtain ⟨a1, a2, a3, a4⟩ := p
      exact ⟨.int (nI (2 + 4 * k)), rfl, by rw [if_pos a1, if_pos a2, if_neg a3, if_neg a4]⟩
    · rw [show grF (σ.1 86) x y z k s = s from if_neg p]
      refine ⟨.int (nI (2 + 4 * k)), rfl, ?_⟩
      by_cases a1 : σ.1 86 (2 + 4 * k) = x
      · by_cases a2 : σ.1 86 (2 + 4 * k + 1) = y
        · by_cases a3 : z < σ.1 86 (2 + 4 * k + 2)
          · rw [if_pos a1, if_pos a2, if_pos a3]
          · by_cases a4 : σ.1 86 (2 + 4 * k + 2) < s.1
            · rw [if_pos a1, if_pos a2, if_neg a3, if_pos a4]
            · exact absurd ⟨a1, a2, a3, a4⟩ p
        · rw [if_pos a1, if_neg a2]
      · rw [if_neg a1]
  · rw [u_224_82p9 _ _ _ _ _ _ _ _ _ hw, hm, if_neg (nnl (Nat.le_refl m))]
    rfl
theorem grn_c {K N : Nat → Int32} {m : Nat} (x y z : Int32) (h : ∀ i, i < 4 * m → K (2 + i) = N (2 + i)) : grn K x y z m = grn N x y z m := by
  unfold grn
  rw [it_congr (fun k s hk => ?_)]
  unfold grF
  rw [show K (2 + 4 * k) = N (2 + 4 * k) from h _ (by omega), show K (2 + 4 * k + 1) = N (2 + 4 * k + 1) by rw [Nat.add_assoc]; exact h _ (by omega), show K (2 + 4 * k + 2) = N (2 + 4 * k + 2) by rw [Nat.add_assoc]; exact h _ (by omega), show K (2 + 4 * k + 3) = N (2 + 4 * k + 3) by rw [Nat.add_assoc]; exact h _ (by omega)]
/-- the kitchen of both, at a heap of the reference whose row is the same -/
theorem rk_of {σ : ax_S} (r : Rk σ) : ∃ m p, m ≤ 16 ∧ p ≤ 8 ∧ σ.1 8 1 = nI m ∧ σ.1 8 6 = nI p ∧ RK (kc σ) (σ.1 86) m p := by
  obtain ⟨-, -, m, p, h⟩ := r
  exact ⟨m, p, h.1, h.2.1, h.2.2.1, h.2.2.2.2.1, h⟩
theorem s_isThere (d : Nat) {σ : ax_S} (h : σ.1 8 0 = 0 ∨ σ.1 8 0 = 1) : cI sO d 67 [.ref 8] σ = some (σ.1 8 0, σ) := by
  refine cI_ev mi_67 ((u_67_8 d σ).trans ?_) rfl
  obtain e | e := h <;> rw [e] <;> rfl
theorem t_grains (d : Nat) {σ : ax_S} (x y z : Int32) (r : Rk σ) : AK d σ 106 242 [.int x, .int y, .int z] := by
  obtain ⟨m, p, hm, hp, e1, e2, hK⟩ := rk_of r
  obtain ⟨hm0, -, k0, n0, k1, n1, hK1, hK2, -⟩ := hK
  have e3 : (sI σ 82 0 0).1 86 0 = nI m := by rw [sI_n _ _ (by decide)]; exact n0
  have e4 : (sI σ 82 0 0).1 82 7 = σ.1 8 0 := by rw [sI_k _ (by decide)]; exact r.2.1
  refine ⟨if rgP 0 3 x ∧ rgP 0 3 y ∧ rgP 1800 2000 z then (if σ.1 8 0 = 0 then -9000000000000000002 else (grn (kc σ) x y z m).toInt64) else BADv, _, cL_ev mi_106 ((u_106_0 _ σ _ _ _).trans ?_) rfl, cL_ev mi_242 ((u_242_82 _ σ _ _ _).trans ?_) rfl, Sc_0 σ⟩
  · simp only [s_isLand, s_isYear, s_isThere _ r.1, s_grainsOf _ _ _ _ e1 hm, Option.bind_some, bi_0]
    by_cases a : x < 0
    · rw [if_pos a, if_neg]
      intro q
      exact rg01 q.1 a
    · rw [if_neg a]
      by_cases b : x < 4
      · rw [if_pos b]
        have hx : rgP 0 3 x := by
          rw [i_lt, i_0] at a
          rw [i_ltn x 4 (by omega)] at b
          exact ⟨by omega, by omega⟩
        by_cases c : rgP 0 3 y
        · rw [if_neg (fun q => q c)]
          by_cases e : rgP 1800 2000 z
          · rw [if_neg (fun q => q e), if_pos (show rgP 0 3 x ∧ rgP 0 3 y ∧ rgP 1800 2000 z from ⟨hx, c, e⟩)]
            by_cases h8 : σ.1 8 0 = 0
            · rw [if_pos h8, if_pos h8]
            · rw [if_neg h8, if_neg h8]
          · rw [if_pos e, if_neg (fun q => e q.2.2)]
        · rw [if_pos c, if_neg (fun q => c q.2.1)]
      · rw [if_neg b, if_neg]
        intro q
        rw [i_ltn x 4 (by omega)] at b
        have := q.1.2
        omega
  · simp only [m_in, l_i, l_0, show (3 : Int64).toInt = 3 by decide, m_isLand, m_isYear, m_grainsOf _ _ _ _ e3 hm, Option.bind_some, bi_0, e4]
    by_cases a : rgP 0 3 x
    · rw [if_neg (fun q => q a)]
      by_cases c : rgP 0 3 y
      · rw [if_neg (fun q => q c)]
        by_cases e : rgP 1800 2000 z
        · rw [if_neg (fun q => q e), if_pos (show rgP 0 3 x ∧ rgP 0 3 y ∧ rgP 1800 2000 z from ⟨a, c, e⟩), grn_c x y z hK1, show (sI σ 82 0 0).1 86 = σ.1 86 from sI_n _ _ (by decide)]
          by_cases h8 : σ.1 8 0 = 0
          · rw [if_pos h8, if_pos h8]
          · rw [if_neg h8, if_neg h8]
        · rw [if_pos e, if_neg (fun q => e q.2.2)]
      · rw [if_pos c, if_neg (fun q => c q.2.1)]
    · rw [if_pos a, if_neg (fun q => a q.1)]
