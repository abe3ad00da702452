/-! TREES: values and codes -/
/-- the values of j ends, rising, each once -/
def RV (k : Nat) (f : Nat → Nat) (u : Nat → Int32) (j : Nat) : Prop := k ≤ j ∧ (∀ a b, a < b → b < k → f a < f b) ∧ (∀ i, i < k → f i < 10000 ∧ ∃ x, x < j ∧ u x = nI (f i)) ∧ ∀ x, x < j → u x = -1000000 ∨ ∃ i, i < k ∧ u x = nI (f i)
def encF (f : Nat → Nat) (v : Int32) : Nat → Int32
  | 0 => 0
  | i + 1 => if v = -1000000 ∨ v = nI (f i) then encF f v i ||| (1 <<< (nI i &&& 31)) else encF f v i
theorem nI_m1 {k : Nat} (h : k + 1 < 2147483648) : nI (k + 1) + -1 = nI k := (Int32.sub_eq_add_neg (a := nI (k + 1)) (b := 1)).symm.trans (nI_sub1 (X := k + 1) (by omega) h)
theorem s_mt2 (d : Nat) {m k p y : Nat} {f : Nat → Nat} (hm : m < 11) (hk : k < 6) (w5 : Value) (h5 : c1 w5) (hp : p ≤ k) : ∀ r i (σ : ax_S), p + r = i → i ≤ k → σ.1 70 m = nI k → (∀ x, x < i → σ.1 69 (m * 6 + x) = nI (f x)) → (∀ x, i < x → x ≤ k → σ.1 69 (m * 6 + x) = nI (f (x - 1))) → ∃ τ : ax_S, ev sO d 138 97 [.ref 67, .int (nI m), .int (nI y), .int (nI (m * 6)), .int (nI p), w5, .int (nI i)] [] σ = some (none, τ) ∧ sm [69, 70] σ τ ∧ τ.1 70 m = nI (k + 1) ∧ (∀ x, x ≠ m → τ.1 70 x = σ.1 70 x) ∧ (∀ x, x ≤ k → τ.1 69 (m * 6 + x) = nI (if x < p then f x else if x = p then y else f (x - 1))) ∧ ∀ x, (x < m * 6 ∨ m * 6 + 6 ≤ x) → τ.1 69 x = σ.1 69 x
  | 0, i, σ, hi, hik, h70, h1, h2 => by
    have hip : i = p := by omega
    subst hip
    have eu := u_138_67p97 d σ (nI m) (nI y) (nI (m * 6)) (nI i) w5 h5 (nI i)
    simp only [nI_pl (show m * 6 + i < 2147483648 by omega), nI_c (show m * 6 + i < 2147483648 by omega), nI_c (show m < 2147483648 by omega)] at eu
    rw [if_neg (nnl (Nat.le_refl _) (by omega)), gd_t (nI_g (show m * 6 + i < 66 by omega) (by omega)), gd_t (nI_g hm (by omega)), gd_t (nI_g hm (by omega)), sI_n (x := 70) _ _ (by decide), h70, nI_add1] at eu
    refine ⟨_, eu, ((sm.rf _ _).set _ _ (by decide)).set _ _ (by decide), sI_1 _ _ _ _, fun x hx => by rw [sI_k _ hx, sI_n _ _ (by decide)], fun x hx => ?_, fun x hx => by rw [sI_n _ _ (by decide), sI_k _ (by omega)]⟩
    rw [sI_n _ _ (by decide)]
    by_cases z : x < i
    · rw [if_pos z, sI_k _ (by omega)]
      exact h1 x z
    · rw [if_neg z]
      by_cases w : x = i
      · rw [if_pos w, w, sI_1]
      · rw [if_neg w, sI_k _ (by omega)]
        exact h2 x (by omega) hx
  | r + 1, i, σ, hi, hik, h70, h1, h2 => by
    obtain ⟨i', rfl⟩ : ∃ i', i = i' + 1 := ⟨i - 1, by omega⟩
    have eu := u_138_67p97 d σ (nI m) (nI y) (nI (m * 6)) (nI p) w5 h5 (nI (i' + 1))
    simp only [nI_pl (show m * 6 + (i' + 1) < 2147483648 by omega), nI_c (show m * 6 + (i' + 1) < 2147483648 by omega), nI_sub1 (show 0 < m * 6 + (i' + 1) by omega) (show m * 6 + (i' + 1) < 2147483648 by omega), show m * 6 + (i' + 1) - 1 = m * 6 + i' by omega, nI_c (show m * 6 + i' < 2147483648 by omega), nI_m1 (show i' + 1 < 2147483648 by omega)] at eu
    rw [if_pos (nlt (show p < i' + 1 by omega)), gd_t (nI_g (show m * 6 + i' < 66 by omega) (by omega)), gd_t (nI_g (show m * 6 + (i' + 1) < 66 by omega) (by omega))] at eu
    obtain ⟨τ, g1, g2, g3, g4, g5, g6⟩ := s_mt2 d (f := f) (y := y) hm hk w5 h5 hp r i' (sI σ 69 (m * 6 + (i' + 1)) (σ.1 69 (m * 6 + i'))) (by omega) (by omega) (by rw [sI_n _ _ (by decide)]; exact h70) (fun x hx => by rw [sI_k _ (by omega)]; exact h1 x (by omega)) (fun x hx hx2 => by
      by_cases z : x = i' + 1
      · rw [z, sI_1, h1 i' (by omega), Nat.add_sub_cancel]
      · rw [sI_k _ (by omega)]
        exact h2 x (by omega) hx2)
    exact ⟨τ, eu.trans g1, ((sm.rf _ _).set _ _ (by decide)).tr g2, g3, fun x hx => by rw [g4 x hx, sI_n _ _ (by decide)], g5, fun x hx => by rw [g6 x hx, sI_k _ (by omega)]⟩
/-- the search for the place, of a value -/
theorem s_mt1 (d : Nat) {σ : ax_S} {m k y : Nat} {f : Nat → Nat} (hm : m < 11) (hk : k < 6) (hy : y < 10000) (hf : ∀ i, i < k → f i < 10000) (h70 : σ.1 70 m = nI k) (h69 : ∀ x, x < k → σ.1 69 (m * 6 + x) = nI (f x)) (hinc : ∀ a b, a < b → b < k → f a < f b) : ∀ p, p ≤ k → (∀ i, p ≤ i → i < k → y < f i) → (ev sO d 138 13 [.ref 67, .int (nI m), .int (nI y), .int (nI (m * 6)), .int (nI p), .null, .null] [] σ = some (none, σ) ∧ ∃ i, i < k ∧ f i = y) ∨ ∃ p', p' ≤ k ∧ (∀ i, p' ≤ i → i < k → y < f i) ∧ (∀ i, i < p' → f i < y) ∧ ev sO d 138 13 [.ref 67, .int (nI m), .int (nI y), .int (nI (m * 6)), .int (nI p), .null, .null] [] σ = ev sO d 138 97 [.ref 67, .int (nI m), .int (nI y), .int (nI (m * 6)), .int (nI p'), .int 0, .int (nI k)] [] σ
  | 0, hp, hg => by
    have eu := u_138_67p13 d σ (nI m) (nI y) (nI (m * 6)) (nI 0) .null rfl .null rfl
    rw [if_neg (show ¬ (0 : Int32) < nI 0 by decide), if_neg (show ¬ (0 : Int32) < nI 0 by decide), if_neg (nI_nn (by omega)), gd_t (nI_g hm (by omega)), nI_c (show m < 2147483648 by omega), h70, if_pos (show nI k < (6 : Int32) from nlt (N := 6) hk), gd_t (nI_g hm (by omega))] at eu
    exact Or.inr ⟨0, Nat.zero_le _, hg, fun i hi => absurd hi (Nat.not_lt_zero i), eu⟩
  | p + 1, hp, hg => by
    have eu := u_138_67p13 d σ (nI m) (nI y) (nI (m * 6)) (nI (p + 1)) .null rfl .null rfl
    have hv := h69 p (by omega)
    have hfp := hf p (by omega)
    have g := nI_g (show m * 6 + p < 66 by omega) (by omega)
    have pos : (0 : Int32) < nI (p + 1) := nI_lt (a := 0) (by omega) (by omega)
    simp only [nI_pl (show m * 6 + (p + 1) < 2147483648 by omega), nI_sub1 (show 0 < m * 6 + (p + 1) by omega) (show m * 6 + (p + 1) < 2147483648 by omega), show m * 6 + (p + 1) - 1 = m * 6 + p by omega, nI_c (show m * 6 + p < 2147483648 by omega), hv, nI_m1 (show p + 1 < 2147483648 by omega)] at eu
    rw [if_pos pos, gd_t g] at eu
    by_cases q : y < f p
    · rw [if_pos (nlt q)] at eu
      obtain ⟨z1, z2⟩ | ⟨p', z1, z2, z3, z4⟩ := s_mt1 d hm hk hy hf h70 h69 hinc p (by omega) (fun i hi hi2 => by
        by_cases w : i = p
        · rw [w]; exact q
        · exact hg i (by omega) hi2)
      · exact Or.inl ⟨eu.trans z1, z2⟩
      · exact Or.inr ⟨p', z1, z2, z3, eu.trans z4⟩
    · rw [if_neg (nnl (show f p ≤ y by omega) (by omega)), if_pos pos, gd_t g] at eu
      by_cases w : f p = y
      · rw [if_pos (by rw [w]), if_neg (nI_nn (by omega))] at eu
        exact Or.inl ⟨eu, p, by omega, w⟩
      · rw [if_neg (fun z => w (nI_inj (by omega) (by omega) z)), if_neg (nI_nn (by omega)), gd_t (nI_g hm (by omega)), nI_c (show m < 2147483648 by omega), h70, if_pos (show nI k < (6 : Int32) from nlt (N := 6) hk), gd_t (nI_g hm (by omega))] at eu
        refine Or.inr ⟨p + 1, hp, hg, fun i hi => ?_, eu⟩
        by_cases z : i = p
        · rw [z]
          omega
        · have := hinc i p (by omega) (by omega)
          omega
/-- a stained mark has none -/
theorem s_mt0 (d : Nat) {σ : ax_S} {m k : Nat} {f : Nat → Nat} (hm : m < 11) (hk : k < 7) (hf : ∀ i, i < k → f i < 10000) (h69 : ∀ x, x < k → σ.1 69 (m * 6 + x) = nI (f x)) : ∀ p, p ≤ k → ev sO d 138 13 [.ref 67, .int (nI m), .int (-1000000), .int (nI (m * 6)), .int (nI p), .null, .null] [] σ = some (none, σ)
  | 0, hp => by
    rw [u_138_67p13 d σ (nI m) (-1000000) (nI (m * 6)) (nI 0) .null rfl .null rfl, if_neg (show ¬ (0 : Int32) < nI 0 by decide), if_neg (show ¬ (0 : Int32) < nI 0 by decide), if_pos rfl]
  | p + 1, hp => by
    have eu := u_138_67p13 d σ (nI m) (-1000000) (nI (m * 6)) (nI (p + 1)) .null rfl .null rfl
    have hfp := hf p (by omega)
    simp only [nI_pl (show m * 6 + (p + 1) < 2147483648 by omega), nI_sub1 (show 0 < m * 6 + (p + 1) by omega) (show m * 6 + (p + 1) < 2147483648 by omega), show m * 6 + (p + 1) - 1 = m * 6 + p by omega, nI_c (show m * 6 + p < 2147483648 by omega), h69 p (by omega), nI_m1 (show p + 1 < 2147483648 by omega)] at eu
    rw [if_pos (show (0 : Int32) < nI (p + 1) from nI_lt (a := 0) (by omega) (by omega)), gd_t (nI_g (show m * 6 + p < 66 by omega) (by omega)), if_pos (show (-1000000 : Int32) < nI (f p) by
      rw [i_lt, nI_i (by omega), i_none]
      omega)] at eu
    exact eu.trans (s_mt0 d hm hk hf h69 p (by omega))
theorem s_meet (d : Nat) {σ : ax_S} {m k j : Nat} {f : Nat → Nat} {u : Nat → Int32} (hm : m < 11) (hj : j < 6) (h : RV k f u j) (h70 : σ.1 70 m = nI k) (h69 : ∀ x, x < k → σ.1 69 (m * 6 + x) = nI (f x)) (hu : u j = -1000000 ∨ ∃ y, y < 10000 ∧ u j = nI y) : ∃ (τ : ax_S) (k' : Nat) (f' : Nat → Nat), cV sO d 138 [.ref 67, .int (nI m), .int (u j)] σ = some τ ∧ sm [69, 70] σ τ ∧ τ.1 70 m = nI k' ∧ (∀ x, x ≠ m → τ.1 70 x = σ.1 70 x) ∧ (∀ x, x < k' → τ.1 69 (m * 6 + x) = nI (f' x)) ∧ (∀ x, (x < m * 6 ∨ m * 6 + 6 ≤ x) → τ.1 69 x = σ.1 69 x) ∧ RV k' f' u (j + 1) := by
  obtain ⟨r1, r2, r3, r4⟩ := h
  have hf : ∀ i, i < k → f i < 10000 := fun i hi => (r3 i hi).1
  have stay : (u j = -1000000 ∨ ∃ i, i < k ∧ u j = nI (f i)) → RV k f u (j + 1) := fun z => by
    refine ⟨by omega, r2, fun i hi => ⟨hf i hi, ?_⟩, fun x hx => ?_⟩
    · obtain ⟨x, x1, x2⟩ := (r3 i hi).2
      exact ⟨x, by omega, x2⟩
    · by_cases q : x = j
      · rw [q]; exact z
      · exact r4 x (by omega)
  have eu := u_138_67 d σ (nI m) (u j)
  rw [gd_t (nI_g hm (by omega)), nI_c (show m < 2147483648 by omega), h70, show nI m * (6 : Int32) = nI (m * 6) from nI_mul (b := 6) (by omega) (by omega) (by omega)] at eu
  obtain z | ⟨y, hy, z⟩ := hu
  · rw [z] at eu
    refine ⟨σ, k, f, cV_ev mi_138 ?_ rfl, sm.rf _ _, h70, fun _ _ => rfl, h69, fun _ _ => rfl, stay (Or.inl z)⟩
    rw [z]
    exact eu.trans (s_mt0 d hm (by omega) hf h69 k (Nat.le_refl _))
  · rw [z] at eu
    obtain ⟨a1, i, a2, a3⟩ | ⟨p, a1, a2, a3, a4⟩ := s_mt1 d hm (show k < 6 by omega) hy hf h70 h69 r2 k (Nat.le_refl _) (fun i hi hi2 => by omega)
    · refine ⟨σ, k, f, cV_ev mi_138 ?_ rfl, sm.rf _ _, h70, fun _ _ => rfl, h69, fun _ _ => rfl, stay (Or.inr ⟨i, a2, by rw [a3]; exact z⟩)⟩
      rw [z]
      exact eu.trans a1
    · obtain ⟨τ, b1', b2, b3, b4, b5, b6⟩ := s_mt2 d (f := f) (y := y) hm (show k < 6 by omega) (.int 0) rfl a1 (k - p) k σ (by omega) (Nat.le_refl _) h70 h69 (fun x hx hx2 => by omega)
      refine ⟨τ, k + 1, fun x => if x < p then f x else if x = p then y else f (x - 1), cV_ev mi_138 ?_ rfl, b2, b3, b4, fun x hx => b5 x (by omega), b6, by omega, fun a b hab hb => ?_, fun i hi => ?_, fun x hx => ?_⟩
      · rw [z]
        exact (eu.trans a4).trans b1'
      · (try simp only)
        by_cases q1 : a < p
        · rw [if_pos q1]
          have ha := a3 a q1
          by_cases q2 : b < p
          · rw [if_pos q2]
            exact r2 a b hab (by omega)
          · rw [if_neg q2]
            by_cases q3 : b = p
            · rw [if_pos q3]; exact ha
            · rw [if_neg q3]
              have := a2 (b - 1) (by omega) (by omega)
              omega
        · rw [if_neg q1, if_neg (show ¬ b < p by omega), if_neg (show ¬ b = p by omega)]
          by_cases q3 : a = p
          · rw [if_pos q3]
            exact a2 (b - 1) (by omega) (by omega)
          · rw [if_neg q3]
            exact r2 (a - 1) (b - 1) (by omega) (by omega)
      · (try simp only)
        by_cases q1 : i < p
        · rw [if_pos q1]
          obtain ⟨w1, x, x1, x2⟩ := r3 i (by omega)
          exact ⟨w1, x, by omega, x2⟩
        · rw [if_neg q1]
          by_cases q3 : i = p
          · rw [if_pos q3]
            exact ⟨hy, j, by omega, z⟩
          · rw [if_neg q3]
            obtain ⟨w1, x, x1, x2⟩ := r3 (i - 1) (by omega)
            exact ⟨w1, x, by omega, x2⟩
      · by_cases q : x = j
        · refine Or.inr ⟨p, by omega, ?_⟩
          rw [q, z]
          (try simp only)
          rw [if_neg (Nat.lt_irrefl p), if_pos trivial]
        · obtain w | ⟨i, w1, w2⟩ := r4 x (by omega)
          · exact Or.inl w
          · by_cases q1 : i < p
            · refine Or.inr ⟨i, by omega, ?_⟩
              (try simp only)
              rw [if_pos q1]
              exact w2
            · refine Or.inr ⟨i + 1, by omega, ?_⟩
              (try simp only)
              rw [if_neg (show ¬ i + 1 < p by omega), if_neg (show ¬ i + 1 = p by omega), Nat.add_sub_cancel]
              exact w2
theorem s_enc (d : Nat) {σ : ax_S} {m k : Nat} {f : Nat → Nat} (v : Int32) (hm : m < 11) (hk : k ≤ 6) (h70 : σ.1 70 m = nI k) (h69 : ∀ x, x < k → σ.1 69 (m * 6 + x) = nI (f x)) : ∀ r i, i + r = k → ev sO d 139 5 [.ref 67, .int (nI m), .int v, .int (encF f v i), .int (nI i)] [] σ = some (some (.int (encF f v k)), σ)
  | 0, i, hi => by
    rw [u_139_67p5 d σ (nI m) v (encF f v i) (nI i), gd_t (nI_g hm (by omega)), nI_c (show m < 2147483648 by omega), h70, if_neg (nnl (by omega) (by omega)), show i = k by omega]
  | r + 1, i, hi => by
    have ih := s_enc d v hm hk h70 h69 r (i + 1) (by omega)
    rw [u_139_67p5 d σ (nI m) v (encF f v i) (nI i), gd_t (nI_g hm (by omega)), nI_c (show m < 2147483648 by omega), h70, if_pos (nlt (by omega)), if_pos (show nI i < (6 : Int32) from nlt (N := 6) (by omega)), nI_add1]
    by_cases q : v = -1000000
    · rw [if_pos q]
      rw [show encF f v (i + 1) = encF f v i ||| (1 <<< (nI i &&& 31)) from if_pos (Or.inl q)] at ih
      exact ih
    · rw [if_neg q, show nI m * (6 : Int32) = nI (m * 6) from nI_mul (b := 6) (by omega) (by omega) (by omega), nI_pl (show m * 6 + i < 2147483648 by omega), gd_t (nI_g (show m * 6 + i < 66 by omega) (by omega)), nI_c (show m * 6 + i < 2147483648 by omega), h69 i (by omega)]
      by_cases w : v = nI (f i)
      · rw [if_pos w]
        rw [show encF f v (i + 1) = encF f v i ||| (1 <<< (nI i &&& 31)) from if_pos (Or.inr w)] at ih
        exact ih
      · rw [if_neg w]
        rw [show encF f v (i + 1) = encF f v i from if_neg (fun z => z.elim q w)] at ih
        exact ih
theorem s_encode (d : Nat) {σ : ax_S} {m k : Nat} {f : Nat → Nat} (v : Int32) (hm : m < 11) (hk : k ≤ 6) (h70 : σ.1 70 m = nI k) (h69 : ∀ x, x < k → σ.1 69 (m * 6 + x) = nI (f x)) : cI sO d 139 [.ref 67, .int (nI m), .int v] σ = some (encF f v k, σ) :=
  cI_ev mi_139 ((u_139_67 d σ (nI m) v).trans (s_enc d v hm hk h70 h69 k 0 (by omega))) rfl
