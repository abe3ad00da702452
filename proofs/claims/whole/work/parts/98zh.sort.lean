/-! TREES: the class sorts marks -/
/-- the numbers below m that are so, rising -/
def vlP (P : Nat → Bool) : Nat → List Nat
  | 0 => []
  | m + 1 => if P m then vlP P m ++ [m] else vlP P m
theorem vlP_t {P : Nat → Bool} {m : Nat} (h : P m = true) : vlP P (m + 1) = vlP P m ++ [m] := if_pos h
theorem vlP_f {P : Nat → Bool} {m : Nat} (h : ¬ P m = true) : vlP P (m + 1) = vlP P m := if_neg h
theorem vlP_m (P : Nat → Bool) : ∀ m x, x ∈ vlP P m ↔ x < m ∧ P x = true
  | 0, x => by
    show x ∈ [] ↔ _
    simp
  | m + 1, x => by
    by_cases q : P m = true
    · rw [vlP_t q, List.mem_append, vlP_m P m x, List.mem_singleton]
      constructor
      · rintro (⟨a, b⟩ | a)
        · exact ⟨by omega, b⟩
        · exact ⟨by omega, by rw [a]; exact q⟩
      · rintro ⟨a, b⟩
        by_cases z : x = m
        · exact Or.inr z
        · exact Or.inl ⟨by omega, b⟩
    · rw [vlP_f q, vlP_m P m x]
      constructor
      · rintro ⟨a, b⟩
        exact ⟨by omega, b⟩
      · rintro ⟨a, b⟩
        refine ⟨?_, b⟩
        by_cases z : x = m
        · rw [z] at b
          exact absurd b q
        · omega
theorem vlP_le (P : Nat → Bool) : ∀ m, (vlP P m).length ≤ m
  | 0 => Nat.le_refl _
  | m + 1 => by
    have h := vlP_le P m
    by_cases q : P m = true
    · rw [vlP_t q, List.length_append, List.length_singleton]
      omega
    · rw [vlP_f q]
      omega
theorem gN_l {l : List Nat} {a i : Nat} (h : i < l.length) : gN (l ++ [a]) i = gN l i := by
  unfold gN
  rw [List.getD_eq_getElem?_getD, List.getElem?_append_left h, List.getD_eq_getElem?_getD]
theorem gN_e (l : List Nat) (a : Nat) : gN (l ++ [a]) l.length = a := by
  unfold gN
  rw [List.getD_eq_getElem?_getD, List.getElem?_append_right (Nat.le_refl _), Nat.sub_self]
  rfl
theorem gN_m {l : List Nat} {i : Nat} (h : i < l.length) : gN l i ∈ l := by
  unfold gN
  rw [List.getD_eq_getElem?_getD, List.getElem?_eq_getElem h]
  exact List.getElem_mem h
theorem gN_x {l : List Nat} {x : Nat} (h : x ∈ l) : ∃ i, i < l.length ∧ gN l i = x := by
  obtain ⟨i, hi, e⟩ := List.getElem_of_mem h
  refine ⟨i, hi, ?_⟩
  unfold gN
  rw [List.getD_eq_getElem?_getD, List.getElem?_eq_getElem hi]
  exact e
theorem vlP_lt {P : Nat → Bool} {m i : Nat} (h : i < (vlP P m).length) : gN (vlP P m) i < m ∧ P (gN (vlP P m) i) = true := (vlP_m P m _).mp (gN_m h)
theorem vlP_inc (P : Nat → Bool) : ∀ m i j, i < j → j < (vlP P m).length → gN (vlP P m) i < gN (vlP P m) j
  | 0, i, j, _, h => absurd h (Nat.not_lt_zero j)
  | m + 1, i, j, hi, h => by
    by_cases q : P m = true
    · rw [vlP_t q] at h ⊢
      rw [List.length_append, List.length_singleton] at h
      rw [gN_l (show i < (vlP P m).length by omega)]
      by_cases z : j = (vlP P m).length
      · rw [z, gN_e]
        exact (vlP_lt (by omega)).1
      · rw [gN_l (show j < (vlP P m).length by omega)]
        exact vlP_inc P m i j hi (by omega)
    · rw [vlP_f q] at h ⊢
      exact vlP_inc P m i j hi h
theorem vlP_inj {P : Nat → Bool} {m i j : Nat} (hi : i < (vlP P m).length) (hj : j < (vlP P m).length) (e : gN (vlP P m) i = gN (vlP P m) j) : i = j := by
  by_cases q : i < j
  · have := vlP_inc P m i j q hj
    omega
  · by_cases z : j < i
    · have := vlP_inc P m j i z hi
      omega
    · omega
theorem nS_vl (f : Nat → Nat) (P : Nat → Bool) : ∀ m, nS (fun i => f (gN (vlP P m) i)) (vlP P m).length = nS (fun x => if P x = true then f x else 0) m
  | 0 => rfl
  | m + 1 => by
    show _ = nS _ m + (if P m = true then f m else 0)
    rw [← nS_vl f P m]
    by_cases q : P m = true
    · rw [vlP_t q, if_pos q, List.length_append, List.length_singleton]
      show nS _ (vlP P m).length + f (gN (vlP P m ++ [m]) (vlP P m).length) = _
      rw [gN_e, nS_c (g := fun i => f (gN (vlP P m) i)) _ (fun k hk => by
        (try simp only)
        rw [gN_l hk])]
    · rw [vlP_f q, if_neg q, Nat.add_zero]
/-- what all ends may be, what any may be -/
def andC (W : Nat → Int32) : Nat → Int32
  | 0 => -1
  | j + 1 => andC W j &&& W j
def orC (W : Nat → Int32) : Nat → Int32
  | 0 => 0
  | j + 1 => orC W j ||| W j
def vyB (cd : Nat → Nat → Int32) (e m : Nat) : Bool := decide (andC (cd m) e = 0 ∧ orC (cd m) e ≠ 0)
theorem s_codeAt (d : Nat) (σ : ax_S) {m j e : Nat} (hm : m < 11) (h67 : σ.1 67 0 = nI e) (he : e ≤ 6) (hj : j < e) : cI sO (d + 1) 143 [.ref 67, .int (nI m), .int (nI j)] σ = some (σ.1 71 (m * 6 + j), σ) := by
  have eu := u_143_67 d σ (nI m) (nI j)
  rw [s_isMark, Option.bind_some] at eu
  simp only [bi_0, h67] at eu
  rw [if_neg (fun z => z ⟨by rw [nI_i (by omega)]; omega, by rw [nI_i (by omega)]; omega⟩), if_neg (show ¬ nI j < 0 from nnl (N := 0) (by omega) (by omega)), if_pos (nlt hj), show nI m * (6 : Int32) = nI (m * 6) from nI_mul (b := 6) (by omega) (by omega) (by omega), nI_pl (show m * 6 + j < 2147483648 by omega), gd_t (nI_g (show m * 6 + j < 66 by omega) (by omega)), nI_c (show m * 6 + j < 2147483648 by omega)] at eu
  exact cI_ev mi_143 eu rfl
theorem s_sm1 (d : Nat) {σ : ax_S} {e m : Nat} {W : Nat → Int32} (hm : m < 11) (he : e ≤ 6) (h1 : σ.1 66 1 = nI e) (h67 : σ.1 67 0 = nI e) (hc : ∀ j, j < e → σ.1 71 (m * 6 + j) = W j) : ∀ r j, j + r = e → ev sO (d + 2) 144 20 [.ref 66, .int (nI m), .int (andC W j), .int (orC W j), .int (nI j)] [] σ = ev sO (d + 2) 144 20 [.ref 66, .int (nI m), .int (andC W e), .int (orC W e), .int (nI e)] [] σ
  | 0, j, hj => by
    rw [show j = e by omega]
  | r + 1, j, hj => by
    rw [u_144_66p20 d σ (nI m) (andC W j) (orC W j) (nI j), h1, if_pos (nlt (show j < e by omega)), s_codeAt d σ hm h67 he (by omega), Option.bind_some]
    (try simp only)
    rw [s_codeAt d σ hm h67 he (by omega), Option.bind_some]
    (try simp only)
    rw [hc j (by omega), nI_add1]
    exact s_sm1 d hm he h1 h67 hc r (j + 1) (by omega)
theorem s_sortMarks (d : Nat) {σ : ax_S} {e : Nat} {cd : Nat → Nat → Int32} (he : e ≤ 6) (h1 : σ.1 66 1 = nI e) (h67 : σ.1 67 0 = nI e) (hc : ∀ m j, m < 11 → j < e → σ.1 71 (m * 6 + j) = cd m j) : ∃ τ : ax_S, cV sO (d + 2) 144 [.ref 66] σ = some τ ∧ sm [66, 78, 79] σ τ ∧ (∀ f, f ≠ 10 → τ.1 66 f = σ.1 66 f) ∧ τ.1 66 10 = nI (vlP (vyB cd e) 11).length ∧ (∀ i, i < (vlP (vyB cd e) 11).length → τ.1 78 i = nI (gN (vlP (vyB cd e) 11) i)) ∧ ∀ m, m < 11 → τ.1 79 m = andC (cd m) e := by
  have h79 : ∀ (ρ : ax_S) k z, (sI ρ 79 k z).1 66 = ρ.1 66 := fun ρ k z => sI_n _ _ (by decide)
  have h78 : ∀ (ρ : ax_S) k z, (sI ρ 78 k z).1 66 = ρ.1 66 := fun ρ k z => sI_n _ _ (by decide)
  obtain ⟨⟨w2, w3, w4, τ⟩, ⟨q2, q3, q4, p1, p2, p3, p4, p5⟩, a1⟩ := loop_P (E := fun k (s : Value × Value × Value × ax_S) => ev sO (d + 2) 144 7 [.ref 66, .int (nI k), s.1, s.2.1, s.2.2.1] [] s.2.2.2) (N := 11) (P := fun k s => c1 s.1 ∧ c1 s.2.1 ∧ c1 s.2.2.1 ∧ sm [66, 78, 79] σ s.2.2.2 ∧ (∀ f, f ≠ 10 → s.2.2.2.1 66 f = σ.1 66 f) ∧ s.2.2.2.1 66 10 = nI (vlP (vyB cd e) k).length ∧ (∀ i, i < (vlP (vyB cd e) k).length → s.2.2.2.1 78 i = nI (gN (vlP (vyB cd e) k) i)) ∧ ∀ m, m < k → s.2.2.2.1 79 m = andC (cd m) e) (fun k s hk hp => by
    obtain ⟨w2, w3, w4, τ⟩ := s
    obtain ⟨q2, q3, q4, p1, p2, p3, p4, p5⟩ := hp
    simp only at q2 q3 q4 p1 p2 p3 p4 p5 ⊢
    have hle := vlP_le (vyB cd e) k
    have hlt : (vlP (vyB cd e) k).length < 11 := by omega
    have eu := u_144_66p7 d τ (nI k) w2 q2 w3 q3 w4 q4
    rw [if_pos (show nI k < (11 : Int32) from nlt (N := 11) hk)] at eu
    have e2 := s_sm1 d (σ := τ) (e := e) (m := k) (W := cd k) hk he (by rw [p2 1 (by decide)]; exact h1) (by rw [p1.1 67 (by decide)]; exact h67) (fun j hj => by rw [p1.1 71 (by decide)]; exact hc k j hk hj) e 0 (by omega)
    have e3 := u_144_66p20 d τ (nI k) (andC (cd k) e) (orC (cd k) e) (nI e)
    rw [p2 1 (by decide), h1, if_neg (nnl (Nat.le_refl _) (by omega)), gd_t (nI_g hk (by omega))] at e3
    simp only [h79, h78, p3, nI_c (show k < 2147483648 by omega), nI_c (show (vlP (vyB cd e) k).length < 2147483648 by omega), nI_add1] at e3
    have eu := eu.trans (e2.trans e3)
    have base : ∀ m, m < k + 1 → (sI τ 79 k (andC (cd k) e)).1 79 m = andC (cd m) e := fun m hm => by
      by_cases z : m = k
      · rw [z, sI_1]
      · rw [sI_k _ z]
        exact p5 m (by omega)
    by_cases q : vyB cd e k = true
    · have hq : andC (cd k) e = 0 ∧ orC (cd k) e ≠ 0 := of_decide_eq_true q
      rw [if_pos hq.1, if_neg hq.2, gd_t (nI_g hlt (by omega))] at eu
      refine ⟨(.int (andC (cd k) e), .int (orC (cd k) e), .int (nI e), sI (sI (sI τ 79 k (andC (cd k) e)) 78 (vlP (vyB cd e) k).length (nI k)) 66 10 (nI ((vlP (vyB cd e) k).length + 1))), ⟨rfl, rfl, rfl, ((p1.set _ _ (by decide)).set _ _ (by decide)).set _ _ (by decide), fun f hf => ?_, ?_, fun i hi => ?_, fun m hm => ?_⟩, eu⟩
      · (try simp only)
        rw [sI_k _ hf, h78, h79]
        exact p2 f hf
      · (try simp only)
        rw [sI_1, vlP_t q, List.length_append, List.length_singleton]
      · (try simp only)
        rw [vlP_t q, List.length_append, List.length_singleton] at hi
        rw [vlP_t q, sI_n _ _ (by decide)]
        by_cases z : i = (vlP (vyB cd e) k).length
        · rw [z, sI_1, gN_e]
        · rw [sI_k _ z, sI_n _ _ (by decide), gN_l (by omega)]
          exact p4 i (by omega)
      · (try simp only)
        rw [sI_n _ _ (by decide), sI_n _ _ (by decide)]
        exact base m hm
    · have hq : ¬ (andC (cd k) e = 0 ∧ orC (cd k) e ≠ 0) := fun z => q (decide_eq_true z)
      have eu2 : ev sO (d + 2) 144 7 [.ref 66, .int (nI k), w2, w3, w4] [] τ = ev sO (d + 2) 144 7 [.ref 66, .int (nI (k + 1)), .int (andC (cd k) e), .int (orC (cd k) e), .int (nI e)] [] (sI τ 79 k (andC (cd k) e)) := by
        rw [eu]
        by_cases z : andC (cd k) e = 0
        · rw [if_pos z]
          by_cases y : orC (cd k) e = 0
          · rw [if_pos y]
          · exact absurd ⟨z, y⟩ hq
        · rw [if_neg z]
      refine ⟨(.int (andC (cd k) e), .int (orC (cd k) e), .int (nI e), sI τ 79 k (andC (cd k) e)), ⟨rfl, rfl, rfl, p1.set _ _ (by decide), fun f hf => ?_, ?_, fun i hi => ?_, base⟩, eu2⟩
      · (try simp only)
        rw [h79]
        exact p2 f hf
      · (try simp only)
        rw [h79, vlP_f q]
        exact p3
      · (try simp only)
        rw [vlP_f q] at hi ⊢
        rw [sI_n _ _ (by decide)]
        exact p4 i hi) (.null, .null, .null, sI σ 66 10 0) ⟨rfl, rfl, rfl, (sm.rf _ _).set _ _ (by decide), fun f hf => sI_k _ hf, sI_1 _ _ _ _, fun i hi => absurd hi (Nat.not_lt_zero i), fun m hm => absurd hm (Nat.not_lt_zero m)⟩
  simp only at q2 q3 q4 p1 p2 p3 p4 p5 a1
  refine ⟨τ, cV_ev mi_144 ((u_144_66 d σ).trans (Eq.trans a1 ?_)) rfl, p1, p2, p3, p4, p5⟩
  rw [u_144_66p7 d τ (nI 11) w2 q2 w3 q3 w4 q4, if_neg (show ¬ nI 11 < (11 : Int32) from nnl (N := 11) (Nat.le_refl _))]
