/-! TREES: what one comes to, of both -/
def VL (W : Nat → Int32) (x : Nat) : Int32 := W ((x + 1) / 2)
/-- changes of a mark whose ends have the codes W, on the class's tree t; and what its top may have -/
def nT (e t : Nat) (W : Nat → Int32) : Nat := ((cSym e t).map fun x => chT x (VL W) fF).sum
def tpT (e t : Nat) (W : Nat → Int32) : Int32 := (evT fF ((cSym e t).getLast?.getD []) (VL W) []).headD 0
theorem chT_V {f : Int32 → Int32 → Int32} {V W : Nat → Int32} (x : Tr) (h : ∀ n, n ∈ x → n ≠ 200 → V n = W n) : chT x V f = chT x W f := by
  unfold chT
  rw [evT_V x.dropLast [] (fun n hn => h n ((List.dropLast_sublist x).subset hn))]
theorem chd_of {e t : Nat} (h2 : 2 ≤ e) (h6 : e ≤ 6) (ht : t < allN e) : (∀ p, p ∈ cProg (cTree e t) → (p.1 < 11 ∧ p.2.1 < 11) ∧ p.2.2 < 11) ∧ (∀ p, p ∈ mProg e (mTree e t) → ((((p.1 < 11 ∧ 5 < p.1) ∧ p.2.1 < 11) ∧ p.2.2 < 11) ∧ (p.2.1 < e ∨ 5 < p.2.1)) ∧ (p.2.2 < e ∨ 5 < p.2.2)) ∧ (∀ x, x ∈ cSym e t → ∀ n, n ∈ x → n = 200 ∨ ((n % 2 = 1 ∨ n = 0) ∧ (n + 1) / 2 < e)) ∧ (cTree e t).2.2.2.length = e - 1 ∧ (mOrd e (mTree e t)).length = e - 1 ∧ piT e t < allN e := by
  have h := chd_all h2 h6 ht
  unfold chkD at h
  simp only [Bool.and_eq_true, List.all_eq_true, Bool.or_eq_true, beq_iff_eq, Nat.blt_eq] at h
  obtain ⟨⟨⟨⟨⟨a, b⟩, c⟩, d⟩, f⟩, g⟩ := h
  exact ⟨a, b, c, d, f, g⟩
theorem chk_of {e t : Nat} (h2 : 2 ≤ e) (h6 : e ≤ 6) (ht : t < allN e) : (cSym e t).Perm (mSym e (piT e t)) ∧ (cSym e t).getLast? = (mSym e (piT e t)).getLast? ∧ (∀ x, x ∈ cJ e t → x ∈ mJ e (piT e t) ∧ x ≠ 2 ^ e - 1) ∧ (∀ x, x ∈ mJ e (piT e t) → x = 2 ^ e - 1 ∨ x ∈ cJ e t) ∧ (mOrd e (mTree e t)).getLast? = some (mTree e t).2.2.2 ∧ ∀ j, j < e → (walkP (mTree e t).1 11 j).length < 11 := by
  have h := chk_all h2 h6 ht
  unfold chkT chkA chkB chkC at h
  simp only [Bool.and_eq_true, List.all_eq_true, Bool.or_eq_true, beq_iff_eq, bne_iff_ne, List.contains_iff_mem, List.isPerm_iff, decide_eq_true_eq, List.mem_range] at h
  obtain ⟨⟨⟨a, b⟩, c, d⟩, f, g⟩ := h
  exact ⟨a, b, c, d, f, fun j hj => by
    have := (g j hj).1
    omega⟩
theorem leafN_h (n : Nat) : (leafN n + 1) / 2 = n ∧ leafN n < 2 * n + 1 := by
  unfold leafN
  split <;> omega
theorem cls_tree {e t : Nat} (h2 : 2 ≤ e) (h6 : e ≤ 6) (ht : t < allN e) (V W : Nat → Int32) (hV : ∀ n, n < 11 → lfN n → (n + 1) / 2 < e → V n = W ((n + 1) / 2)) : rnN fF (cProg (cTree e t)) V = nT e t W ∧ rnV fF (cProg (cTree e t)) V (gN (cTree e t).2.2.2 (e - 2)) = tpT e t W := by
  obtain ⟨d1, -, d3, d4, -, -⟩ := chd_of h2 h6 ht
  obtain ⟨r1, r2, r3, -⟩ := rn_sym fF V (fun n => n < 11) (cProg (cTree e t)) (fun n => [n]) V (fun n hn => okT_at fF V (by omega)) (fun p hp => ⟨(d1 p hp).1.2, (d1 p hp).2⟩)
  have hl : (cProg (cTree e t)).length = e - 1 := by
    show (List.map _ _).length = _
    rw [List.length_map]
    exact d4
  have hVL : ∀ x, x ∈ cSym e t → ∀ n, n ∈ x → n ≠ 200 → V n = VL W n := fun x hx n hn h => by
    obtain z | ⟨z1, z2⟩ := d3 x hx n hn
    · exact absurd z h
    · exact hV n (by omega) (by omega) z2
  refine ⟨?_, ?_⟩
  · rw [r1]
    show ((cSym e t).map _).sum = ((cSym e t).map _).sum
    rw [List.map_congr_left (fun x hx => chT_V x (hVL x hx))]
  · have hp := cP_g (g := cTree e t) (k := e - 2) (by rw [d4]; omega)
    have hls : (cSym e t).length = e - 1 := r2.trans hl
    obtain ⟨x, hx⟩ : ∃ x, (cSym e t)[e - 2]? = some x := ⟨_, List.getElem?_eq_getElem (by rw [hls]; omega)⟩
    have o := r3 (e - 2) _ x hp hx
    rw [show e - 2 + 1 = e - 1 by omega, List.take_of_length_le (by rw [hl]; exact Nat.le_refl _)] at o
    have hg : (cSym e t).getLast? = some x := by
      rw [List.getLast?_eq_getElem?, hls, show e - 1 - 1 = e - 2 by omega, hx]
    unfold tpT
    rw [hg]
    show _ = (evT fF x (VL W) []).headD 0
    rw [← evT_V x [] (hVL x (List.mem_of_getElem? hx)), o []]
    rfl
theorem ref_tree {e t : Nat} (h2 : 2 ≤ e) (h6 : e ≤ 6) (ht : t < allN e) (V W : Nat → Int32) (hV : ∀ n, n < e → V n = W n) : rnN fF (mProg e (mTree e (piT e t))) V = nT e t W ∧ rnV fF (mProg e (mTree e (piT e t))) V (mTree e (piT e t)).2.2.2 = tpT e t W := by
  obtain ⟨-, -, d3, -, -, hu⟩ := chd_of h2 h6 ht
  obtain ⟨-, u2, -, -, u5, -⟩ := chd_of h2 h6 hu
  obtain ⟨k1, k2, -⟩ := chk_of h2 h6 ht
  obtain ⟨-, -, -, -, k5, -⟩ := chk_of h2 h6 hu
  obtain ⟨u, hpu⟩ : ∃ u, piT e t = u := ⟨_, rfl⟩
  rw [hpu] at hu u2 u5 k1 k2 k5 ⊢
  obtain ⟨V0, hV0⟩ : ∃ V0 : Nat → Int32, V0 = fun x => if x < 11 then W ((x + 1) / 2) else V (x - 300) := ⟨_, rfl⟩
  obtain ⟨r1, r2, r3, -⟩ := rn_sym fF V0 (fun n => n < e ∨ (5 < n ∧ n < 11)) (mProg e (mTree e u)) (fun n => [if n < 6 then leafN n else n + 300]) V (fun n hn => by
    by_cases q : n < 6
    · have hne : n < e := by omega
      obtain ⟨a1, a2⟩ := leafN_h n
      have e1 : V n = V0 (leafN n) := by
        rw [hV0]
        (try simp only)
        rw [if_pos (show leafN n < 11 by omega), a1, hV n hne]
      (try simp only)
      rw [if_pos q, e1]
      exact okT_at fF V0 (by omega)
    · have e1 : V n = V0 (n + 300) := by
        rw [hV0]
        (try simp only)
        rw [if_neg (show ¬ n + 300 < 11 by omega), Nat.add_sub_cancel]
      (try simp only)
      rw [if_neg q, e1]
      exact okT_at fF V0 (by omega)) (fun p hp => by
    obtain ⟨⟨⟨⟨-, a⟩, b⟩, c⟩, f⟩ := u2 p hp
    exact ⟨c.elim Or.inl (fun z => Or.inr ⟨z, a⟩), f.elim Or.inl (fun z => Or.inr ⟨z, b⟩)⟩)
  have hl : (mProg e (mTree e u)).length = e - 1 := by
    show (List.map _ _).length = _
    rw [List.length_map]
    exact u5
  have hVL : ∀ x, x ∈ cSym e t → ∀ n, n ∈ x → n ≠ 200 → V0 n = VL W n := fun x hx n hn h => by
    obtain z | ⟨z1, z2⟩ := d3 x hx n hn
    · exact absurd z h
    · rw [hV0]
      (try simp only)
      rw [if_pos (show n < 11 by omega)]
      rfl
  refine ⟨?_, ?_⟩
  · rw [r1]
    show ((mSym e u).map _).sum = ((cSym e t).map _).sum
    rw [← (k1.map fun x => chT x V0 fF).sum_nat, List.map_congr_left (fun x hx => chT_V x (hVL x hx))]
  · have hls : (mSym e u).length = e - 1 := r2.trans hl
    obtain ⟨x, hx⟩ : ∃ x, (mSym e u)[e - 2]? = some x := ⟨_, List.getElem?_eq_getElem (by rw [hls]; omega)⟩
    have ho : (mOrd e (mTree e u))[e - 2]? = some (mTree e u).2.2.2 := by
      rw [← k5, List.getLast?_eq_getElem?, u5, show e - 1 - 1 = e - 2 by omega]
    have hp : (mProg e (mTree e u))[e - 2]? = some ((mTree e u).2.2.2, gN (mTree e u).2.1 (mTree e u).2.2.2, gN (mTree e u).2.2.1 (mTree e u).2.2.2) := by
      show (List.map _ (mOrd e (mTree e u)))[e - 2]? = _
      rw [List.getElem?_map, ho]
      rfl
    have o := r3 (e - 2) _ x hp hx
    rw [show e - 2 + 1 = e - 1 by omega, List.take_of_length_le (by rw [hl]; exact Nat.le_refl _)] at o
    have hg : (cSym e t).getLast? = some x := by
      rw [k2, List.getLast?_eq_getElem?, hls, show e - 1 - 1 = e - 2 by omega, hx]
    unfold tpT
    rw [hg]
    show _ = (evT fF x (VL W) []).headD 0
    rw [← evT_V x [] (hVL x (List.mem_of_getLast? hg)), o []]
    rfl
