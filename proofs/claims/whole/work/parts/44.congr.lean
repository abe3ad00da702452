/-! THE FUNCTIONS OF ROWS SEE NO MORE THAN THE ROWS: two ways to lay the same cards -/
abbrev eqR (f g : Nat → Int32) : Prop := ∀ k, k < 11 → f k = g k
theorem unl_c {f g f' g' : Nat → Int32} (h : eqR f f') (h2 : eqR g g') : unl f g = unl f' g' := it_congr (fun k u hk => by
  unfold ulP
  rw [h k hk, h2 k hk])
theorem sts_c {f f' : Nat → Int32} (h : eqR f f') : sts f = sts f' := it_congr (fun k u hk => by rw [h k hk])
theorem ths_c {f f' : Nat → Int32} (h : eqR f f') : ths f = ths f' := it_congr (fun k u hk => by rw [h k (by omega)])
theorem cpr_c {f g e f' g' e' : Nat → Int32} (h : eqR f f') (h2 : eqR g g') (h3 : eqR e e') : cpr f g e = cpr f' g' e' := it_congr (fun k u hk => by
  unfold prP
  rw [h k hk, h2 k hk, h3 k hk])
/-- the kitchen's numbers that RISE asks for -/
abbrev eqK (K K' : Nat → Int32) : Prop := ∀ k, 90 ≤ k → k < 102 → K k = K' k
theorem lft_c {K K' : Nat → Int32} (h : eqK K K') {k : Nat} (v : Int32) (hk : k < 11) : lft K k v = lft K' k v := by
  unfold lft
  rw [h 98 (by omega) (by omega), h 99 (by omega) (by omega), h 100 (by omega) (by omega)]
  by_cases h1 : k < 8
  · rw [h (90 + k) (by omega) (by omega)]
  · by_cases h8 : k = 8
    · rw [if_pos h8, if_pos h8]
    · by_cases h9 : k = 9
      · rw [if_neg h8, if_neg h8, if_pos h9, if_pos h9]
      · rw [if_neg h8, if_neg h8, if_neg h9, if_neg h9, if_pos (show k = 10 by omega), if_pos (show k = 10 by omega)]
theorem rse_c {K K' f f' : Nat → Int32} (h : eqK K K') (h2 : eqR f f') : rse K f = rse K' f' := it_congr (fun k u hk => by rw [lft_c h _ hk, h2 k hk])
/-- the same first n cards: years and rows -/
abbrev eqD (yr yr' : Nat → Int32) (row row' : Nat → Nat → Int32) (n : Nat) : Prop := ∀ j, j < n → yr j = yr' j ∧ eqR (row j) (row' j)
theorem erP_c {yr yr' : Nat → Int32} {a b : Nat} (ha : yr a = yr' a) (hb : yr b = yr' b) : erP yr a b ↔ erP yr' a b := by
  unfold erP
  rw [ha, hb]
theorem nmo_e {yr yr' : Nat → Int32} {row row' : Nat → Nat → Int32} {n c : Nat} (h : eqD yr yr' row row' n) (hc : c < n) : nmo yr row c n = nmo yr' row' c n := it_congr (fun k s hk => by
  unfold nmF
  have e : unl (row k) (row c) = unl (row' k) (row' c) := unl_c (h k hk).2 (h c hc).2
  simp only [e, erP_c (h k hk).1 (h c hc).1])
theorem lcs_e {yr yr' : Nat → Int32} {row row' : Nat → Nat → Int32} {n : Nat} (h : eqD yr yr' row row' n) : lcs yr row n = lcs yr' row' n := it_congr (fun k s hk => by rw [nmo_e h hk])
theorem asn_e {yr yr' : Nat → Int32} {row row' : Nat → Nat → Int32} {n c : Nat} (x : Int32) (h : eqD yr yr' row row' n) (hc : c < n) : asn yr row c x n = asn yr' row' c x n := it_congr (fun k s hk => by
  have e : unl (row k) (row c) = unl (row' k) (row' c) := unl_c (h k hk).2 (h c hc).2
  simp only [e, erP_c (h k hk).1 (h c hc).1])
theorem lrs_e {yr yr' : Nat → Int32} {row row' : Nat → Nat → Int32} {n : Nat} (h : eqD yr yr' row row' n) : lrs yr row n = lrs yr' row' n := it_congr (fun k s hk => by rw [nmo_e h hk, asn_e _ h hk])
theorem two_e {yr yr' : Nat → Int32} {row row' : Nat → Nat → Int32} {n c : Nat} (h : eqD yr yr' row row' n) (hc : c < n) : two yr row c n = two yr' row' c n := it_congr (fun a s ha => by
  unfold twI
  simp only [erP_c (h a ha).1 (h c hc).1]
  by_cases h1 : erP yr' a c
  · rw [if_pos h1, if_pos h1]
    refine it_congr (fun k t hk => ?_)
    have hb : a + 1 + k < n := by omega
    unfold twF
    have e : cpr (row c) (row a) (row (a + 1 + k)) = cpr (row' c) (row' a) (row' (a + 1 + k)) := cpr_c (h c hc).2 (h a ha).2 (h _ hb).2
    simp only [e, erP_c (h _ hb).1 (h c hc).1]
  · rw [if_neg h1, if_neg h1])
theorem dtr_e {mo mo' : Nat → Int32} {n : Nat} (x : Int32) (h : ∀ j, j < n → mo j = mo' j) : dtr mo n x = dtr mo' n x := it_congr (fun k u hk => by rw [h k hk])
theorem itx_congr {α : Type} {f g : Nat → α → Option α} : ∀ {N : Nat} {s : α}, (∀ k t, k < N → f k t = g k t) → itx f N s = itx g N s
  | 0, _, _ => rfl
  | N + 1, s, h => by
    rw [itx_s, itx_s, itx_congr (fun k t hk => h k t (Nat.lt_succ_of_lt hk))]
    congr 1
    funext t
    exact h N t (Nat.lt_succ_self N)
theorem lo_e {mo mo' : Nat → Int32} {row row' : Nat → Nat → Int32} {n c t : Nat} (hn : n ≤ 12) (hm : moP mo n) (h : ∀ j, j < n → mo j = mo' j ∧ eqR (row j) (row' j)) (hc : c < n) (ht : t < 8) : lo mo row c t n = lo mo' row' c t n := by
  unfold lo
  have e : lof mo row c t n = lof mo' row' c t n := itx_congr (fun k s hk => by
    have hb : c + 1 + k < n := by omega
    unfold loF
    rw [(h _ hb).1, (h _ hb).2 t (by omega)])
  rw [e, (h c hc).1, (h c hc).2 t (by omega)]
  obtain e2 | ⟨i, hi, e2⟩ := hm c hc
  · rw [← (h c hc).1, e2, if_neg (fun q => absurd q.1 (by decide)), if_neg (fun q => absurd q.1 (by decide))]
  · rw [← (h c hc).1, e2, nI_c (by omega), (h i (by omega)).2 t (by omega)]
theorem knd_e {K K' mo mo' : Nat → Int32} {row row' : Nat → Nat → Int32} {n c : Nat} (hn : n ≤ 12) (hm : moP mo n) (hk : eqK K K') (h : ∀ j, j < n → mo j = mo' j ∧ eqR (row j) (row' j)) (hc : c < n) : knd K mo row c = knd K' mo' row' c := by
  unfold knd
  rw [sts_c (h c hc).2, rse_c hk (h c hc).2, hk 101 (by omega) (by omega), ← (h c hc).1]
  obtain e2 | ⟨i, hi, e2⟩ := hm c hc
  · simp only [e2, if_true]
  · rw [e2, nI_c (by omega), unl_c (h c hc).2 (h i (by omega)).2]
