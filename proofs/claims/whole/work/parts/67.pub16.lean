/-! THE PUBLIC METHODS, 16: years -/
/-- the greatest by g of those that P tells, b: there is none -/
def isE (g : Int32 → Int) (F : Nat → Int32) (P : Nat → Prop) (p : Nat) (b v : Int32) : Prop := (v = b ∧ ∀ k, k < p → ¬ P k) ∨ ∃ k, k < p ∧ P k ∧ v = F k ∧ ∀ j, j < p → P j → g (F j) ≤ g (F k)
def pk (g : Int32 → Int) (u v : Int32) : Int32 := if g u < g v then v else u
theorem pk_mx (u v : Int32) : (if u < v then v else u) = pk Int32.toInt u v := by
  unfold pk
  by_cases h : u < v
  · rw [if_pos h, if_pos ((i_lt _ _).mp h)]
  · rw [if_neg h, if_neg (fun q => h ((i_lt _ _).mpr q))]
abbrev ng (x : Int32) : Int := - x.toInt
theorem pk_mn (u v : Int32) : (if v < u then v else u) = pk ng u v := by
  unfold pk ng
  by_cases h : v < u
  · rw [if_pos h, if_pos (by have := (i_lt _ _).mp h; omega)]
  · rw [if_neg h, if_neg (fun q => h ((i_lt _ _).mpr (by omega)))]
theorem isE_0 (g : Int32 → Int) (F : Nat → Int32) (P : Nat → Prop) (b : Int32) : isE g F P 0 b b := Or.inl ⟨rfl, fun k hk => absurd hk (Nat.not_lt_zero k)⟩
theorem isE_no (g : Int32 → Int) (F : Nat → Int32) {P : Nat → Prop} {p : Nat} (b : Int32) (h : ∀ k, k < p → ¬ P k) : isE g F P p b b := Or.inl ⟨rfl, h⟩
theorem isE_n {g : Int32 → Int} {F : Nat → Int32} {P : Nat → Prop} {p : Nat} {b v : Int32} (h : isE g F P p b v) (hp : ¬ P p) : isE g F P (p + 1) b v := by
  obtain ⟨e, h⟩ | ⟨k, h1, h2, h3, h4⟩ := h
  · refine Or.inl ⟨e, fun k hk => ?_⟩
    by_cases q : k = p
    · rw [q]; exact hp
    · exact h k (by omega)
  · refine Or.inr ⟨k, by omega, h2, h3, fun j hj hP => ?_⟩
    by_cases q : j = p
    · rw [q] at hP; exact absurd hP hp
    · exact h4 j (by omega) hP
theorem isE_s {g : Int32 → Int} {F : Nat → Int32} {P : Nat → Prop} {p : Nat} {b v : Int32} (h : isE g F P p b v) (hp : P p) (hb : g b < g (F p)) : isE g F P (p + 1) b (pk g v (F p)) := by
  unfold pk
  obtain ⟨e, h⟩ | ⟨k, h1, h2, h3, h4⟩ := h
  · rw [e, if_pos hb]
    refine Or.inr ⟨p, by omega, hp, rfl, fun j hj hP => ?_⟩
    by_cases q : j = p
    · rw [q]; exact Int.le_refl _
    · exact absurd hP (h j (by omega))
  · rw [h3]
    by_cases c : g (F k) < g (F p)
    · rw [if_pos c]
      refine Or.inr ⟨p, by omega, hp, rfl, fun j hj hP => ?_⟩
      by_cases q : j = p
      · rw [q]; exact Int.le_refl _
      · have := h4 j (by omega) hP
        omega
    · rw [if_neg c]
      refine Or.inr ⟨k, by omega, h2, rfl, fun j hj hP => ?_⟩
      by_cases q : j = p
      · rw [q]; omega
      · exact h4 j (by omega) hP
theorem isE_or {g : Int32 → Int} {F : Nat → Int32} {P Q : Nat → Prop} {p : Nat} {b u v : Int32} (hu : isE g F P p b u) (hv : isE g F Q p b v) (hb : ∀ k, k < p → g b < g (F k)) : isE g F (fun k => P k ∨ Q k) p b (pk g u v) := by
  unfold pk
  obtain ⟨e, h⟩ | ⟨k, h1, h2, h3, h4⟩ := hu
  · obtain ⟨e', h'⟩ | ⟨k', h1', h2', h3', h4'⟩ := hv
    · rw [e, e', if_neg (by omega)]
      exact Or.inl ⟨rfl, fun k hk q => q.elim (h k hk) (h' k hk)⟩
    · rw [e, h3', if_pos (hb _ h1')]
      exact Or.inr ⟨k', h1', Or.inr h2', rfl, fun j hj q => q.elim (fun q => absurd q (h j hj)) (h4' j hj)⟩
  · obtain ⟨e', h'⟩ | ⟨k', h1', h2', h3', h4'⟩ := hv
    · rw [h3, e', if_neg (by have := hb _ h1; omega)]
      exact Or.inr ⟨k, h1, Or.inl h2, rfl, fun j hj q => q.elim (h4 j hj) (fun q => absurd q (h' j hj))⟩
    · rw [h3, h3']
      by_cases c : g (F k) < g (F k')
      · rw [if_pos c]
        exact Or.inr ⟨k', h1', Or.inr h2', rfl, fun j hj q => q.elim (fun q => by have := h4 j hj q; omega) (h4' j hj)⟩
      · rw [if_neg c]
        exact Or.inr ⟨k, h1, Or.inl h2, rfl, fun j hj q => q.elim (h4 j hj) (fun q => by have := h4' j hj q; omega)⟩
theorem isE_iff {g : Int32 → Int} {F F' : Nat → Int32} {P Q : Nat → Prop} {p : Nat} {b v : Int32} (h : isE g F P p b v) (e : ∀ k, k < p → (P k ↔ Q k)) (ef : ∀ k, k < p → F k = F' k) : isE g F' Q p b v := by
  obtain ⟨q, h⟩ | ⟨k, h1, h2, h3, h4⟩ := h
  · exact Or.inl ⟨q, fun k hk c => h k hk ((e k hk).mpr c)⟩
  · exact Or.inr ⟨k, h1, (e k h1).mp h2, h3.trans (ef k h1), fun j hj c => by rw [← ef j hj, ← ef k h1]; exact h4 j hj ((e j hj).mpr c)⟩
/-- what the kitchen's packets are good for -/
abbrev pkI (K : Nat → Int32) (p : Nat) : Prop := ∀ k, k < p → 0 ≤ (K (66 + 3 * k)).toInt ∧ (K (66 + 3 * k)).toInt ≤ 7 ∧ 1800 ≤ (K (66 + 3 * k + 1)).toInt ∧ (K (66 + 3 * k + 1)).toInt ≤ 2000 ∧ 1800 ≤ (K (66 + 3 * k + 2)).toInt ∧ (K (66 + 3 * k + 2)).toInt ≤ 2000
theorem s_kFrom (d : Nat) {σ : ax_S} {p : Nat} (t : Int32) (hp : σ.1 8 6 = nI p) (hp8 : p ≤ 8) (hK : pkI (kc σ) p) : ∃ v, cI sO d 161 [.ref 8, .int t] σ = some (v, σ) ∧ isE Int32.toInt (fun k => kc σ (66 + 3 * k + 1)) (fun k => kc σ (66 + 3 * k) = t) p (-1000000) v := by
  obtain ⟨v, hv, e⟩ := loop_P (E := fun k (u : Int32) => ev sO d 161 5 [.ref 8, .int t, .int u, .int (nI k)] [] σ) (N := p) (P := fun k u => isE Int32.toInt (fun k => kc σ (66 + 3 * k + 1)) (fun k => kc σ (66 + 3 * k) = t) k (-1000000) u) (fun k u hk hu => by
    have k0 : σ.1 13 k = kc σ (66 + 3 * k) := (kc_p σ (r := 0) (by omega) (by omega)).symm
    have k1 : σ.1 14 k = kc σ (66 + 3 * k + 1) := (kc_p σ (r := 1) (by omega) (by omega)).symm
    have gk : 0 ≤ (nI k).toInt ∧ (nI k).toInt < (8 : Nat) := nI_g (by omega) (by omega)
    rw [u_161_8p5, hp, if_pos (nlt hk), if_pos (l8 (by omega))]
    simp only [gd_t gk, nI_add1, nI_c (show k < 2147483648 by omega), k0, k1, pk_mx]
    by_cases c : kc σ (66 + 3 * k) = t
    · rw [if_pos c]
      exact ⟨_, isE_s hu c (by rw [i_none]; have := (hK k hk).2.2.1; omega), rfl⟩
    · rw [if_neg c]
      exact ⟨_, isE_n hu c, rfl⟩) (-1000000) (isE_0 _ _ _ _)
  refine ⟨v, cI_ev mi_161 ((u_161_8 d σ _).trans (e.trans ?_)) rfl, hv⟩
  rw [u_161_8p5, hp, if_neg (nnl (Nat.le_refl p))]
theorem s_kTill (d : Nat) {σ : ax_S} {p : Nat} (t : Int32) (hp : σ.1 8 6 = nI p) (hp8 : p ≤ 8) (hK : pkI (kc σ) p) : ∃ v, cI sO d 163 [.ref 8, .int t] σ = some (v, σ) ∧ isE ng (fun k => kc σ (66 + 3 * k + 2)) (fun k => kc σ (66 + 3 * k) = t) p 2001 v := by
  obtain ⟨v, hv, e⟩ := loop_P (E := fun k (u : Int32) => ev sO d 163 6 [.ref 8, .int t, .int u, .int (nI k)] [] σ) (N := p) (P := fun k u => isE ng (fun k => kc σ (66 + 3 * k + 2)) (fun k => kc σ (66 + 3 * k) = t) k 2001 u) (fun k u hk hu => by
    have k0 : σ.1 13 k = kc σ (66 + 3 * k) := (kc_p σ (r := 0) (by omega) (by omega)).symm
    have k1 : σ.1 15 k = kc σ (66 + 3 * k + 2) := (kc_p σ (r := 2) (by omega) (by omega)).symm
    have gk : 0 ≤ (nI k).toInt ∧ (nI k).toInt < (8 : Nat) := nI_g (by omega) (by omega)
    rw [u_163_8p6, hp, if_pos (nlt hk), if_pos (l8 (by omega))]
    simp only [gd_t gk, nI_add1, nI_c (show k < 2147483648 by omega), k0, k1, pk_mn]
    by_cases c : kc σ (66 + 3 * k) = t
    · rw [if_pos c]
      exact ⟨_, isE_s hu c (by unfold ng; rw [lit_i 2001 (by decide)]; have := (hK k hk).2.2.2.2.2; omega), rfl⟩
    · rw [if_neg c]
      exact ⟨_, isE_n hu c, rfl⟩) 2001 (isE_0 _ _ _ _)
  refine ⟨v, cI_ev mi_163 ((u_163_8 d σ _).trans (e.trans ?_)) rfl, hv⟩
  rw [u_163_8p6, hp, if_neg (nnl (Nat.le_refl p))]
/-- a card's things by their packets, of the first T things -/
abbrev yrP (K f : Nat → Int32) (T k : Nat) : Prop := ∃ t, t < T ∧ 0 < f t ∧ K (66 + 3 * k) = nI t
theorem yrP_s {K f : Nat → Int32} {T : Nat} (h : 0 < f T) (k : Nat) : (yrP K f T k ∨ K (66 + 3 * k) = nI T) ↔ yrP K f (T + 1) k := by
  constructor
  · rintro (⟨t, a, b, c⟩ | q)
    · exact ⟨t, by omega, b, c⟩
    · exact ⟨T, by omega, h, q⟩
  · rintro ⟨t, a, b, c⟩
    by_cases q : t = T
    · exact Or.inr (by rw [c, q])
    · exact Or.inl ⟨t, by omega, b, c⟩
theorem yrP_n {K f : Nat → Int32} {T : Nat} (h : ¬ 0 < f T) (k : Nat) : yrP K f T k ↔ yrP K f (T + 1) k := by
  constructor
  · rintro ⟨t, a, b, c⟩
    exact ⟨t, by omega, b, c⟩
  · rintro ⟨t, a, b, c⟩
    by_cases q : t = T
    · rw [q] at b; exact absurd b h
    · exact ⟨t, by omega, b, c⟩
theorem s_hFrom (d : Nat) {σ : ax_S} {n c p : Nat} (hs : σ.1 17 0 = nI n) (hn : n ≤ 12) (hc : c < n) (hp : σ.1 8 6 = nI p) (hp8 : p ≤ 8) (hK : pkI (kc σ) p) : ∃ v, cI sO (d + 2) 160 [.ref 7, .int (nI c)] σ = some (v, σ) ∧ isE Int32.toInt (fun k => kc σ (66 + 3 * k + 1)) (yrP (kc σ) (cr σ c) 8) p (-1000000) v := by
  obtain ⟨v, hv, e⟩ := loop_P (E := fun k (u : Int32) => ev sO (d + 2) 160 5 [.ref 7, .int (nI c), .int u, .int (nI k)] [] σ) (N := 8) (P := fun k u => isE Int32.toInt (fun k => kc σ (66 + 3 * k + 1)) (yrP (kc σ) (cr σ c) k) p (-1000000) u) (fun k u hk hu => by
    rw [u_160_7p5, if_pos (l8 (by omega)), s_mark d hs hn hc (by omega), Option.bind_some]
    simp only [nI_add1]
    by_cases q : 0 < cr σ c k
    · obtain ⟨v, h1, h2⟩ := s_kFrom (d + 1) (nI k) hp hp8 hK
      rw [if_pos q, h1, Option.bind_some]
      simp only [pk_mx]
      exact ⟨_, isE_iff (isE_or hu h2 (fun j hj => by rw [i_none]; have := (hK j hj).2.2.1; omega)) (fun j hj => yrP_s q j) (fun _ _ => rfl), rfl⟩
    · rw [if_neg q]
      exact ⟨_, isE_iff hu (fun j hj => yrP_n q j) (fun _ _ => rfl), rfl⟩) (-1000000) (isE_no _ _ _ (fun k hk q => by obtain ⟨t, a, -⟩ := q; omega))
  refine ⟨v, cI_ev mi_160 ((u_160_7 d σ _).trans (e.trans ?_)) rfl, hv⟩
  rw [u_160_7p5, if_neg g8]
theorem s_hTill (d : Nat) {σ : ax_S} {n c p : Nat} (hs : σ.1 17 0 = nI n) (hn : n ≤ 12) (hc : c < n) (hp : σ.1 8 6 = nI p) (hp8 : p ≤ 8) (hK : pkI (kc σ) p) : ∃ v, cI sO (d + 2) 162 [.ref 7, .int (nI c)] σ = some (v, σ) ∧ isE ng (fun k => kc σ (66 + 3 * k + 2)) (yrP (kc σ) (cr σ c) 8) p 2001 v := by
  obtain ⟨v, hv, e⟩ := loop_P (E := fun k (u : Int32) => ev sO (d + 2) 162 6 [.ref 7, .int (nI c), .int u, .int (nI k)] [] σ) (N := 8) (P := fun k u => isE ng (fun k => kc σ (66 + 3 * k + 2)) (yrP (kc σ) (cr σ c) k) p 2001 u) (fun k u hk hu => by
    rw [u_162_7p6, if_pos (l8 (by omega)), s_mark d hs hn hc (by omega), Option.bind_some]
    simp only [nI_add1]
    by_cases q : 0 < cr σ c k
    · obtain ⟨v, h1, h2⟩ := s_kTill (d + 1) (nI k) hp hp8 hK
      rw [if_pos q, h1, Option.bind_some]
      simp only [pk_mn]
      exact ⟨_, isE_iff (isE_or hu h2 (fun j hj => by unfold ng; rw [lit_i 2001 (by decide)]; have := (hK j hj).2.2.2.2.2; omega)) (fun j hj => yrP_s q j) (fun _ _ => rfl), rfl⟩
    · rw [if_neg q]
      exact ⟨_, isE_iff hu (fun j hj => yrP_n q j) (fun _ _ => rfl), rfl⟩) 2001 (isE_no _ _ _ (fun k hk q => by obtain ⟨t, a, -⟩ := q; omega))
  refine ⟨v, cI_ev mi_162 ((u_162_7 d σ _).trans (e.trans ?_)) rfl, hv⟩
  rw [u_162_7p6, if_neg g8]
