/-! TREES: the reference counts changes of a mark -/
def mkN (E : Nat → Nat) (m : Nat) : Nat → Nat
  | 0 => 0
  | j + 1 => if m.testBit j then mkN E m j ||| 2 ^ E j else mkN E m j
theorem mkE_n {A : Nat → Int32} {E : Nat → Nat} {m : Nat} : ∀ e, (∀ j, j < e → A j = nI (E j) ∧ E j < 12) → mkE A m e = nI (mkN E m e)
  | 0, _ => rfl
  | j + 1, h => by
    obtain ⟨h1, h2⟩ := h j (by omega)
    have ih := mkE_n (m := m) j (fun i hi => h i (by omega))
    show mkE A m j ||| (if m.testBit j then 1 <<< (A j &&& 31) else 0) = nI (if m.testBit j then mkN E m j ||| 2 ^ E j else mkN E m j)
    rw [ih, h1]
    by_cases q : m.testBit j = true
    · rw [if_pos q, if_pos q, ← nI_or, ← b1_n (by omega)]
      rfl
    · rw [if_neg q, if_neg q, Int32.or_zero]
theorem mkN_b {E : Nat → Nat} {m o : Nat} : ∀ e, (mkN E m e).testBit o = true ↔ ∃ j, j < e ∧ m.testBit j = true ∧ E j = o
  | 0 => by
    show (0 : Nat).testBit o = true ↔ _
    rw [Nat.zero_testBit]
    exact ⟨fun z => absurd z (by decide), fun ⟨j, hj, _⟩ => absurd hj (Nat.not_lt_zero j)⟩
  | j + 1 => by
    have ih := mkN_b (E := E) (m := m) (o := o) j
    show (if m.testBit j then mkN E m j ||| 2 ^ E j else mkN E m j).testBit o = true ↔ _
    by_cases q : m.testBit j = true
    · rw [if_pos q, Nat.testBit_or, Bool.or_eq_true, ih, Nat.testBit_two_pow]
      constructor
      · rintro (⟨i, h1, h2⟩ | h)
        · exact ⟨i, by omega, h2⟩
        · exact ⟨j, by omega, q, of_decide_eq_true h⟩
      · rintro ⟨i, h1, h2, h3⟩
        by_cases y : i = j
        · rw [y] at h3
          exact Or.inr (decide_eq_true h3)
        · exact Or.inl ⟨i, by omega, h2, h3⟩
    · rw [if_neg q, ih]
      constructor
      · rintro ⟨i, h1, h2⟩
        exact ⟨i, by omega, h2⟩
      · rintro ⟨i, h1, h2, h3⟩
        refine ⟨i, ?_, h2, h3⟩
        by_cases y : i = j
        · rw [y] at h2
          exact absurd h2 q
        · omega
theorem mkN_lt {E : Nat → Nat} {m : Nat} : ∀ e, (∀ j, j < e → E j < 12) → mkN E m e < 4096
  | 0, _ => by show 0 < 4096; omega
  | j + 1, h => by
    have ih := mkN_lt (E := E) (m := m) j (fun i hi => h i (by omega))
    show (if m.testBit j then mkN E m j ||| 2 ^ E j else mkN E m j) < 4096
    by_cases q : m.testBit j = true
    · rw [if_pos q]
      exact Nat.or_lt_two_pow (n := 12) ih (Nat.pow_lt_pow_right (by omega) (h j (by omega)))
    · rw [if_neg q]
      exact ih
theorem mkN_pc {E : Nat → Nat} {m : Nat} : ∀ e, (∀ j, j < e → E j < 12) → (∀ i j, i < j → j < e → E i < E j) → pcN (mkN E m e) = cn (fun j => m.testBit j = true) e
  | 0, _, _ => by
    show pcN 0 = 0
    decide
  | j + 1, h, hinc => by
    have ih := mkN_pc (E := E) (m := m) j (fun i hi => h i (by omega)) (fun a b h1 h2 => hinc a b h1 (by omega))
    rw [cn_s]
    show pcN (if m.testBit j then mkN E m j ||| 2 ^ E j else mkN E m j) = _
    by_cases q : m.testBit j = true
    · rw [if_pos q, if_pos q, pcN_or (h j (by omega)) ?_, ih]
      cases hb : (mkN E m j).testBit (E j)
      · rfl
      · obtain ⟨i, i1, i2, i3⟩ := (mkN_b j).mp hb
        have := hinc i j i1 (by omega)
        omega
    · rw [if_neg q, if_neg q, ih]
theorem pop6_all : (List.range 64).all (fun x => pop6 x == cn (fun j => x.testBit j = true) 6) = true := by decide +kernel
theorem pop6_cn {x e : Nat} (he : e ≤ 6) (hx : x < 2 ^ e) : pop6 x = cn (fun j => x.testBit j = true) e := by
  have h64 : x < 2 ^ 6 := Nat.lt_of_lt_of_le hx (Nat.pow_le_pow_right (by omega) he)
  have h := eq_of_beq (List.all_eq_true.mp pop6_all x (List.mem_range.mpr h64))
  rw [h]
  exact cn_tail (P := fun j => x.testBit j = true) (fun k hk => by
    rw [Nat.testBit_lt_two_pow (Nat.lt_of_lt_of_le hx (Nat.pow_le_pow_right (by omega) hk))]
    decide) 6 he
/-- the ends are cards, rising -/
abbrev EC (A : Nat → Int32) (E : Nat → Nat) (e n : Nat) : Prop := (∀ j, j < e → A j = nI (E j) ∧ E j < n) ∧ ∀ i j, i < j → j < e → E i < E j
theorem mkE_pc {A : Nat → Int32} {E : Nat → Nat} {e n x : Nat} (hn : n ≤ 12) (he : e ≤ 6) (h : EC A E e n) (hx : x < 2 ^ e) : ∃ X, X < 4096 ∧ mkE A x e = nI X ∧ pcN X = pop6 x := by
  have h12 : ∀ j, j < e → E j < 12 := fun j hj => by have := (h.1 j hj).2; omega
  exact ⟨mkN E x e, mkN_lt e h12, mkE_n e (fun j hj => ⟨(h.1 j hj).1, h12 j hj⟩), by rw [mkN_pc e h12 h.2, pop6_cn he hx]⟩
theorem MLay_c {σ τ : ax_S} {e t : Nat} (h : MLay σ e t) (h1 : τ.1 91 = σ.1 91) (h2 : τ.1 92 = σ.1 92) (h3 : τ.1 93 = σ.1 93) (h4 : τ.1 94 = σ.1 94) (h5 : τ.1 95 = σ.1 95) (h6 : τ.1 82 29 = σ.1 82 29) : MLay τ e t := by
  obtain ⟨⟨a1, a2, a3, a4⟩, b⟩ := h
  refine ⟨⟨a1, fun i hi => by rw [h2]; exact a2 i hi, fun k k1 k2 => by rw [h3, h4]; exact a3 k k1 k2, by rw [h6]; exact a4⟩, fun i hi => by rw [h5, h1]; exact b i hi⟩
abbrev tpl (g : MG) (f : Nat) : Nat × Nat × Nat := (f, gN g.2.1 f, gN g.2.2.1 f)
theorem fk_d {e i : Nat} (h : i < e - 1) : (forksP e).drop i = (6 + i) :: (forksP e).drop (i + 1) := by
  have e2 : (forksP e)[i]? = some (6 + i) := by
    show (List.map _ (List.range (e - 1)))[i]? = _
    rw [List.getElem?_map, List.getElem?_range h]
    rfl
  obtain ⟨h2, e3⟩ := List.getElem?_eq_some_iff.mp e2
  rw [List.drop_eq_getElem_cons h2, e3]
theorem rg_d {e i : Nat} (h : i < e) : (List.range e).drop i = i :: (List.range e).drop (i + 1) := by
  obtain ⟨h2, e3⟩ := List.getElem?_eq_some_iff.mp (List.getElem?_range h)
  rw [List.drop_eq_getElem_cons h2, e3]
theorem rnV_app (f : Int32 → Int32 → Int32) : ∀ (A B : List (Nat × Nat × Nat)) (V : Nat → Int32), rnV f (A ++ B) V = rnV f B (rnV f A V)
  | [], _, _ => rfl
  | p :: xs, B, V => rnV_app f xs B _
theorem rnN_app (f : Int32 → Int32 → Int32) : ∀ (A B : List (Nat × Nat × Nat)) (V : Nat → Int32), rnN f (A ++ B) V = rnN f A V + rnN f B (rnV f A V)
  | [], B, V => (Nat.zero_add _).symm
  | p :: xs, B, V => by
    show (if _ then 1 else 0) + rnN f (xs ++ B) _ = ((if _ then 1 else 0) + rnN f xs _) + rnN f B (rnV f xs _)
    rw [rnN_app f xs B, Nat.add_assoc]
theorem m_cf1 (d : Nat) {e t s n : Nat} {E : Nat → Nat} (w1 : Value) (h1 : c1 w1) (hn : n ≤ 12) (he : e ≤ 6) (hs : s < 10) : ∀ r i c (V : Nat → Int32) (σ : ax_S) (w5 : Value), c1 w5 → i + r = e - 1 → MLay σ e t → σ.1 82 25 = nI e → EC (σ.1 91) E e n → (∀ n, n < 11 → σ.1 96 n = V n) → ∃ (τ : ax_S) (w4' w5' : Value), c1 w4' ∧ c1 w5' ∧ ev sO (d + 3) 264 128 [.ref 82, w1, .int (nI c), .int (nI (s + 2)), .int (nI (6 + i)), w5] [] σ = ev sO (d + 3) 264 116 [.ref 82, w1, .int (nI (c + rnN fF ((((forksP e).drop i).filter fun f => pop6 (abvP (mTree e t).1 f e) == s + 2).map (tpl (mTree e t))) V)), .int (nI (s + 3)), w4', w5'] [] τ ∧ sm [96] σ τ ∧ ∀ n, n < 11 → τ.1 96 n = rnV fF ((((forksP e).drop i).filter fun f => pop6 (abvP (mTree e t).1 f e) == s + 2).map (tpl (mTree e t))) V n
  | 0, i, c, V, σ, w5, h5, hi, hL, h25, hE, hV => by
    have e0 : (forksP e).drop i = [] := by
      refine List.drop_eq_nil_of_le ?_
      show (List.map _ (List.range (e - 1))).length ≤ i
      rw [List.length_map, List.length_range]
      omega
    rw [e0]
    refine ⟨σ, .int (nI (6 + i)), w5, rfl, h5, ?_, sm.rf _ _, hV⟩
    rw [u_264_82p128 d σ w1 h1 (nI c) (nI (s + 2)) (nI (6 + i)) w5 h5, h25, show (5 : Int32) + nI e = nI (5 + e) from nI_pl (a := 5) (by omega), if_neg (nnl (show 5 + e ≤ 6 + i by omega) (by omega)), nI_add1]
    rfl
  | r + 1, i, c, V, σ, w5, h5, hi, hL, h25, hE, hV => by
    have eu := u_264_82p128 d σ w1 h1 (nI c) (nI (s + 2)) (nI (6 + i)) w5 h5
    have hL' := hL
    obtain ⟨⟨⟨-, -, i2, -⟩, -, a3, -⟩, a5⟩ := hL
    obtain ⟨X, hX, eX, pX⟩ := mkE_pc hn he hE (abv_bit (mTree e t).1 (6 + i) e 0).2
    have h95 : σ.1 95 (6 + i) = nI X := by rw [a5 (6 + i) (by omega), eX]
    have hf := a3 (i + 1) (by omega) (by omega)
    have hv := i2 (i + 1) (by omega) (by omega)
    rw [show 5 + (i + 1) = 6 + i by omega] at hf hv
    have g6 := nI_g (show 6 + i < 11 by omega) (by omega)
    rw [h25, show (5 : Int32) + nI e = nI (5 + e) from nI_pl (a := 5) (by omega), if_pos (nlt (show 6 + i < 5 + e by omega)), gd_t g6, nI_c (show 6 + i < 2147483648 by omega), h95, m_bits _ _ hX, Option.bind_some, pX] at eu
    simp only [nI_add1] at eu
    have hpk : pop6 (abvP (mTree e t).1 (6 + i) e) < 100 := by rw [← pX]; have := pc_12 X; omega
    rw [fk_d (show i < e - 1 by omega)]
    by_cases q : pop6 (abvP (mTree e t).1 (6 + i) e) = s + 2
    · rw [List.filter_cons_of_pos (by rw [q]; exact beq_self_eq_true _), List.map_cons]
      rw [if_pos (by rw [q]), hf.1, hf.2] at eu
      have ha : gN (mTree e t).2.1 (6 + i) < 11 := by obtain z | z := hv.1 <;> omega
      have hb : gN (mTree e t).2.2.1 (6 + i) < 11 := by obtain z | z := hv.2 <;> omega
      show ∃ (τ : ax_S) (w4' w5' : Value), c1 w4' ∧ c1 w5' ∧ _ = ev sO (d + 3) 264 116 [.ref 82, w1, .int (nI (c + ((if V (gN (mTree e t).2.1 (6 + i)) &&& V (gN (mTree e t).2.2.1 (6 + i)) = 0 then 1 else 0) + rnN fF _ (upd V (6 + i) (fF (V (gN (mTree e t).2.1 (6 + i))) (V (gN (mTree e t).2.2.1 (6 + i)))))))), .int (nI (s + 3)), w4', w5'] [] τ ∧ sm [96] σ τ ∧ ∀ n, n < 11 → τ.1 96 n = rnV fF _ (upd V (6 + i) (fF (V (gN (mTree e t).2.1 (6 + i))) (V (gN (mTree e t).2.2.1 (6 + i))))) n
      generalize gN (mTree e t).2.1 (6 + i) = a at eu ha ⊢
      generalize gN (mTree e t).2.2.1 (6 + i) = b at eu hb ⊢
      simp only [nI_c (show a < 2147483648 by omega), nI_c (show b < 2147483648 by omega), hV a ha, hV b hb] at eu
      have ga := nI_g ha (by omega)
      have gb := nI_g hb (by omega)
      rw [gd_t g6, gd_t ga, gd_t g6, gd_t gb] at eu
      by_cases z : V a &&& V b = 0
      · rw [if_pos z, if_pos z, gd_t g6, gd_t ga, gd_t g6, gd_t gb, gd_t g6] at eu
        rw [if_pos z, show fF (V a) (V b) = V a ||| V b from if_pos z]
        obtain ⟨T, hT⟩ : ∃ T, T = sI σ 96 (6 + i) (V a ||| V b) := ⟨_, rfl⟩
        rw [← hT] at eu
        have sT : sm [96] σ T := by rw [hT]; exact (sm.rf _ _).set _ _ (by decide)
        obtain ⟨τ, w4', w5', q4, q5, f1, f2, f3⟩ := m_cf1 d (e := e) (t := t) (s := s) (n := n) (E := E) w1 h1 hn he hs r (i + 1) (c + 1) (upd V (6 + i) (V a ||| V b)) T (.int (V a &&& V b)) rfl (by omega) (MLay_c hL' (sT.1 91 (by decide)) (sT.1 92 (by decide)) (sT.1 93 (by decide)) (sT.1 94 (by decide)) (sT.1 95 (by decide)) (by rw [sT.1 82 (by decide)])) (by rw [sT.1 82 (by decide)]; exact h25) (by rw [sT.1 91 (by decide)]; exact hE) (fun n hn => by
          rw [hT]
          by_cases y : n = 6 + i
          · rw [y, sI_1, upd_1]
          · rw [sI_k _ y, upd_n _ _ y]
            exact hV n hn)
        refine ⟨τ, w4', w5', q4, q5, ?_, sT.tr f2, f3⟩
        rw [← Nat.add_assoc]
        exact eu.trans f1
      · rw [if_neg z, if_neg z, gd_t g6] at eu
        rw [if_neg z, show fF (V a) (V b) = V a &&& V b from if_neg z]
        obtain ⟨T, hT⟩ : ∃ T, T = sI σ 96 (6 + i) (V a &&& V b) := ⟨_, rfl⟩
        rw [← hT] at eu
        have sT : sm [96] σ T := by rw [hT]; exact (sm.rf _ _).set _ _ (by decide)
        obtain ⟨τ, w4', w5', q4, q5, f1, f2, f3⟩ := m_cf1 d (e := e) (t := t) (s := s) (n := n) (E := E) w1 h1 hn he hs r (i + 1) c (upd V (6 + i) (V a &&& V b)) T (.int (V a &&& V b)) rfl (by omega) (MLay_c hL' (sT.1 91 (by decide)) (sT.1 92 (by decide)) (sT.1 93 (by decide)) (sT.1 94 (by decide)) (sT.1 95 (by decide)) (by rw [sT.1 82 (by decide)])) (by rw [sT.1 82 (by decide)]; exact h25) (by rw [sT.1 91 (by decide)]; exact hE) (fun n hn => by
          rw [hT]
          by_cases y : n = 6 + i
          · rw [y, sI_1, upd_1]
          · rw [sI_k _ y, upd_n _ _ y]
            exact hV n hn)
        refine ⟨τ, w4', w5', q4, q5, ?_, sT.tr f2, f3⟩
        rw [Nat.zero_add]
        rw [show nI c + (0 : Int32) = nI c from Int32.add_zero _] at eu
        exact eu.trans f1
    · rw [List.filter_cons_of_neg (by simpa using q)]
      rw [if_neg (fun z => q (nI_inj (by omega) (by omega) z))] at eu
      obtain ⟨τ, w4', w5', q4, q5, f1, f2, f3⟩ := m_cf1 d (e := e) (t := t) (s := s) (n := n) (E := E) w1 h1 hn he hs r (i + 1) c V σ w5 h5 (by omega) hL' h25 hE hV
      exact ⟨τ, w4', w5', q4, q5, eu.trans f1, f2, f3⟩
theorem m_cf2 (d : Nat) {e t n : Nat} {E : Nat → Nat} (w1 : Value) (h1 : c1 w1) (hn : n ≤ 12) (he : e ≤ 6) : ∀ r s c (V : Nat → Int32) (σ : ax_S) (w4 w5 : Value), c1 w4 → c1 w5 → s + r = e - 1 → MLay σ e t → σ.1 82 25 = nI e → EC (σ.1 91) E e n → (∀ n, n < 11 → σ.1 96 n = V n) → ∃ τ : ax_S, ev sO (d + 3) 264 116 [.ref 82, w1, .int (nI c), .int (nI (s + 2)), w4, w5] [] σ = some (some (.int (nI (c + rnN fF (((((List.range (e - 1)).drop s).map fun s => (forksP e).filter fun f => pop6 (abvP (mTree e t).1 f e) == s + 2).flatten).map (tpl (mTree e t))) V))), τ) ∧ sm [96] σ τ ∧ ∀ n, n < 11 → τ.1 96 n = rnV fF (((((List.range (e - 1)).drop s).map fun s => (forksP e).filter fun f => pop6 (abvP (mTree e t).1 f e) == s + 2).flatten).map (tpl (mTree e t))) V n
  | 0, s, c, V, σ, w4, w5, h4, h5, hs, hL, h25, hE, hV => by
    have e0 : (List.range (e - 1)).drop s = [] := List.drop_eq_nil_of_le (by rw [List.length_range]; omega)
    rw [e0]
    refine ⟨σ, ?_, sm.rf _ _, hV⟩
    have eu := u_264_82p116 d σ w1 h1 (nI c) (nI (s + 2)) w4 h4 w5 h5
    rw [h25] at eu
    by_cases q : e < s + 2
    · rw [if_pos (nlt q)] at eu
      exact eu
    · -- one end or none: no forks
      have he1 : e = 0 ∨ e = 1 := by omega
      omega
  | r + 1, s, c, V, σ, w4, w5, h4, h5, hs, hL, h25, hE, hV => by
    have eu := u_264_82p116 d σ w1 h1 (nI c) (nI (s + 2)) w4 h4 w5 h5
    rw [h25, if_neg (nnl (show s + 2 ≤ e by omega) (by omega))] at eu
    obtain ⟨τ, w4', w5', q4, q5, f1, f2, f3⟩ := m_cf1 d (e := e) (t := t) (s := s) (n := n) (E := E) w1 h1 hn he (by omega) (e - 1) 0 c V σ w5 h5 (by omega) hL h25 hE hV
    rw [List.drop_zero] at f1 f3
    obtain ⟨ρ, g1, g2, g3⟩ := m_cf2 d w1 h1 hn he r (s + 1) (c + rnN fF (((forksP e).filter fun f => pop6 (abvP (mTree e t).1 f e) == s + 2).map (tpl (mTree e t))) V) (rnV fF (((forksP e).filter fun f => pop6 (abvP (mTree e t).1 f e) == s + 2).map (tpl (mTree e t))) V) τ w4' w5' q4 q5 (by omega) (MLay_c hL (f2.1 91 (by decide)) (f2.1 92 (by decide)) (f2.1 93 (by decide)) (f2.1 94 (by decide)) (f2.1 95 (by decide)) (by rw [f2.1 82 (by decide)])) (by rw [f2.1 82 (by decide)]; exact h25) (by rw [f2.1 91 (by decide)]; exact hE) f3
    rw [rg_d (show s < e - 1 by omega), List.map_cons, List.flatten_cons, List.map_append, rnN_app, ← Nat.add_assoc]
    refine ⟨ρ, eu.trans (f1.trans g1), f2.tr g2, fun n hn => ?_⟩
    rw [rnV_app]
    exact g3 n hn
