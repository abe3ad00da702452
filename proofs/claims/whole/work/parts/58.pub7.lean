/-! THE PUBLIC METHODS, 7: two -/
theorem pr_iff {σ : ax_S} {n a b c k : Nat} : (mr σ c k ≠ -1000000 ∧ ¬ (mr σ a k ≠ -1000000 ∧ mr σ c k ≠ -1000000 ∧ mr σ a k = mr σ c k) ∧ ¬ (mr σ b k ≠ -1000000 ∧ mr σ c k ≠ -1000000 ∧ mr σ b k = mr σ c k)) ↔ prP (mr σ c) (mr σ a) (mr σ b) k := by
  unfold prP
  constructor
  · rintro ⟨h1, h2, h3⟩
    exact ⟨h1, fun q => h2 ⟨by rw [q]; exact h1, h1, q⟩, fun q => h3 ⟨by rw [q]; exact h1, h1, q⟩⟩
  · rintro ⟨h1, h2, h3⟩
    exact ⟨h1, fun q => h2 q.2.2, fun q => h3 q.2.2⟩
theorem m_two_c (d : Nat) {σ : ax_S} {n a b c : Nat} (x : Int32) (hn : n ≤ 12) (hi : mI σ n) (ha : a < n) (hb : b < n) (hc : c < n) (s : Int32 × Int32 × Int32) : ∃ v w, (c1 v ∧ c1 w) ∧ ev sO (d + 3) 255 97 [.ref 82, .int (nI c), .int x, .int s.1, .int s.2.1, .int s.2.2, .int (nI a), .int (nI b), .int 1, .int 0] [] σ = ev sO (d + 3) 255 60 [.ref 82, .int (nI c), .int x, .int (if s.1 = -1000000 ∨ cpr (mr σ c) (mr σ a) (mr σ b) < s.1 then (cpr (mr σ c) (mr σ a) (mr σ b), nI a, nI b) else s).1, .int (if s.1 = -1000000 ∨ cpr (mr σ c) (mr σ a) (mr σ b) < s.1 then (cpr (mr σ c) (mr σ a) (mr σ b), nI a, nI b) else s).2.1, .int (if s.1 = -1000000 ∨ cpr (mr σ c) (mr σ a) (mr σ b) < s.1 then (cpr (mr σ c) (mr σ a) (mr σ b), nI a, nI b) else s).2.2, .int (nI a), .int (nI b + 1), v, w] [] σ := by
  have L := loop_it (E := fun k (u : Int32) => ev sO (d + 3) 255 97 [.ref 82, .int (nI c), .int x, .int s.1, .int s.2.1, .int s.2.2, .int (nI a), .int (nI b), .int u, .int (nI k)] [] σ) (f := fun k u => if prP (mr σ c) (mr σ a) (mr σ b) k then u + 1 else u) (N := 11) (fun k u hk => by
    rw [u_255_82p97, if_pos (l11 hk)]
    simp only [m_isKnown _ σ (show c < 12 by omega) hk, m_isAlike _ hn hi ha hc hk, m_isAlike _ hn hi hb hc hk, Option.bind_some, bi_0, nI_add1, Int32.add_zero]
    have e := mr_kn hi hc hk
    have p := pr_iff (σ := σ) (n := n) (a := a) (b := b) (c := c) (k := k)
    by_cases h1 : bt (ms σ c) k = false
    · rw [if_neg (show ¬ ¬ bt (ms σ c) k = false from fun q => q h1)]
      by_cases h2 : mr σ a k ≠ -1000000 ∧ mr σ c k ≠ -1000000 ∧ mr σ a k = mr σ c k
      · rw [if_neg (fun q => q h2), if_neg (fun q => (p.mpr q).2.1 h2)]
      · rw [if_pos h2]
        by_cases h3 : mr σ b k ≠ -1000000 ∧ mr σ c k ≠ -1000000 ∧ mr σ b k = mr σ c k
        · rw [if_neg (fun q => q h3), if_neg (fun q => (p.mpr q).2.2 h3)]
        · rw [if_pos h3, if_pos (p.mp ⟨e.mp h1, h2, h3⟩)]
    · rw [if_pos h1, if_neg (fun q => h1 (e.mpr q.1))]) 1
  refine ⟨.int (cpr (mr σ c) (mr σ a) (mr σ b)), .int (nI 11), ⟨rfl, rfl⟩, L.trans ?_⟩
  rw [u_255_82p97, if_neg g11]
  by_cases h2 : s.1 = -1000000
  · rw [if_pos h2, if_pos (Or.inl h2)]
    rfl
  · rw [if_neg h2]
    by_cases h3 : cpr (mr σ c) (mr σ a) (mr σ b) < s.1
    · rw [if_pos (Or.inr h3)]
      exact if_pos h3
    · rw [if_neg (show ¬ (s.1 = -1000000 ∨ cpr (mr σ c) (mr σ a) (mr σ b) < s.1) from fun q => q.elim h2 h3)]
      exact if_neg h3
theorem m_two_in (d : Nat) {σ : ax_S} {n c a : Nat} (x : Int32) (hs : σ.1 88 0 = nI n) (hn : n ≤ 12) (hi : mI σ n) (hc : c < n) (ha : a < n) (s : Int32 × Int32 × Int32) (w : Value × Value) (hw : c1 w.1 ∧ c1 w.2) : ∃ (v : Value) (w' : Value × Value), (c1 v ∧ c1 w'.1 ∧ c1 w'.2) ∧ ev sO (d + 3) 255 60 [.ref 82, .int (nI c), .int x, .int s.1, .int s.2.1, .int s.2.2, .int (nI a), .int (nI (a + 1)), w.1, w.2] [] σ = ev sO (d + 3) 255 43 [.ref 82, .int (nI c), .int x, .int (twI (my σ) (mr σ) c n a s).1, .int (twI (my σ) (mr σ) c n a s).2.1, .int (twI (my σ) (mr σ) c n a s).2.2, .int (nI (a + 1)), v, w'.1, w'.2] [] σ := by
  obtain ⟨w', h1, e⟩ := loop_d (D := fun w : Value × Value => c1 w.1 ∧ c1 w.2) (E := fun k (s : Int32 × Int32 × Int32) (w : Value × Value) => ev sO (d + 3) 255 60 [.ref 82, .int (nI c), .int x, .int s.1, .int s.2.1, .int s.2.2, .int (nI a), .int (nI (a + 1 + k)), w.1, w.2] [] σ) (f := fun k t => if erP (my σ) a c then twF (my σ) (mr σ) c a (a + 1 + k) t else t) (N := n - (a + 1)) (fun k s w hk hw => by
    have hb : a + 1 + k < n := by omega
    rw [u_255_82p60 _ _ _ _ _ _ _ _ _ _ hw.1 _ hw.2, hs, if_pos (nlt hb)]
    simp only [m_isEarlier _ hn ha hc, m_isEarlier _ hn hb hc, Option.bind_some, bi_0]
    unfold twF
    by_cases h0 : erP (my σ) a c
    · rw [if_neg (show ¬ ¬ erP (my σ) a c from fun q => q h0), if_pos h0]
      by_cases h1 : erP (my σ) (a + 1 + k) c
      · rw [if_neg (show ¬ ¬ erP (my σ) (a + 1 + k) c from fun q => q h1)]
        obtain ⟨v, w2, h3, e⟩ := m_two_c d x hn hi ha hb hc s
        refine ⟨(v, w2), h3, e.trans ?_⟩
        rw [nI_add1]
        by_cases h4 : s.1 = -1000000 ∨ cpr (mr σ c) (mr σ a) (mr σ (a + 1 + k)) < s.1
        · rw [if_pos h4, if_pos ⟨h1, h4⟩]
          rfl
        · rw [if_neg h4, if_neg (fun q => h4 q.2)]
          rfl
      · rw [if_pos h1, if_neg (fun q => h1 q.1), nI_add1]
        exact ⟨w, hw, rfl⟩
    · rw [if_pos h0, if_neg h0, nI_add1]
      exact ⟨w, hw, rfl⟩) s w hw
  refine ⟨.int (nI (a + 1 + (n - (a + 1)))), w', ⟨rfl, h1⟩, e.trans ?_⟩
  rw [u_255_82p60 _ _ _ _ _ _ _ _ _ _ h1.1 _ h1.2, hs, if_neg (nnl (by omega)), nI_add1]
  unfold twI
  by_cases h0 : erP (my σ) a c
  · simp only [if_pos h0]
  · simp only [if_neg h0]
    have e2 : ∀ N, it (fun (_ : Nat) (t : Int32 × Int32 × Int32) => t) N s = s := by
      intro N
      induction N with
      | zero => rfl
      | succ N ih => exact ih
    rw [e2]
theorem m_two_all (d : Nat) {σ : ax_S} {n c : Nat} (x : Int32) (hs : σ.1 88 0 = nI n) (hn : n ≤ 12) (hi : mI σ n) (hc : c < n) : ev sO (d + 3) 255 43 [.ref 82, .int (nI c), .int x, .int (-1000000), .int (-1000000), .int (-1000000), .int 0, .null, .null, .null] [] σ = some (some (.long (if x = 0 then (two (my σ) (mr σ) c n).1 else if x = 1 then (two (my σ) (mr σ) c n).2.1 else (two (my σ) (mr σ) c n).2.2).toInt64), σ) := by
  refine loop_dk (D := fun w : Value × Value × Value => c1 w.1 ∧ c1 w.2.1 ∧ c1 w.2.2) (E := fun k (s : Int32 × Int32 × Int32) (w : Value × Value × Value) => ev sO (d + 3) 255 43 [.ref 82, .int (nI c), .int x, .int s.1, .int s.2.1, .int s.2.2, .int (nI k), w.1, w.2.1, w.2.2] [] σ) (f := fun a s => twI (my σ) (mr σ) c n a s) (N := n) (fun k s w hk hw => ?_) (-1000000, -1000000, -1000000) (.null, .null, .null) ⟨rfl, rfl, rfl⟩ (fun w hw => ?_)
  · rw [u_255_82p43 _ _ _ _ _ _ _ _ _ hw.1 _ hw.2.1 _ hw.2.2, hs, if_pos (nlt hk), nI_add1]
    obtain ⟨v, w', h1, e⟩ := m_two_in d x hs hn hi hc hk s w.2 hw.2
    exact ⟨(v, w'), h1, e⟩
  · rw [u_255_82p43 _ _ _ _ _ _ _ _ _ hw.1 _ hw.2.1 _ hw.2.2, hs, if_neg (nnl (Nat.le_refl n))]
    unfold two
    split
    · rfl
    · split <;> rfl
theorem t_two (d : Nat) {σ : ax_S} (x y : Int32) (r : Rd σ) : AK d σ 131 255 [.int x, .int y] := by
  obtain ⟨n, h⟩ := r
  obtain ⟨hn, hs, -⟩ := rd_of h
  obtain ⟨ms0, mi0, -, he, -⟩ := rd_m h (ρ := sI σ 82 0 0) (sI_n _ _ (by decide))
  refine ⟨if hasP (nI n) x ∧ rgP 0 2 y then (if y = 0 then (two (σ.1 19) (cr σ) x.toNatClampNeg n).1 else if y = 1 then (two (σ.1 19) (cr σ) x.toNatClampNeg n).2.1 else (two (σ.1 19) (cr σ) x.toNatClampNeg n).2.2).toInt64 else BADv, _, cL_ev mi_131 ((u_131_0 _ σ _ _).trans ?_) rfl, cL_ev mi_255 ((u_255_82 _ σ _ _).trans ?_) rfl, Sc_0 σ⟩
  · simp only [s_has, hs, Option.bind_some, bi_0]
    by_cases h1 : hasP (nI n) x
    · rw [if_neg (show ¬ ¬ hasP (nI n) x from fun q => q h1)]
      by_cases h2 : rgP 0 2 y
      · rw [if_neg (show ¬ y < 0 from rg01 h2), if_neg (show ¬ (2 : Int32) < y by rw [i_lt, lit_i 2 (by decide)]; have := h2.2; omega), if_pos (show hasP (nI n) x ∧ rgP 0 2 y from ⟨h1, h2⟩)]
        obtain ⟨a, ha, e1⟩ := hasP_of hn h1
        rw [e1, s_costOfTwo _ _ hs hn ha, nI_c (by omega), Option.bind_some]
      · rw [if_neg (show ¬ (hasP (nI n) x ∧ rgP 0 2 y) from fun q => h2 q.2)]
        by_cases h3 : y < 0
        · rw [if_pos h3]
        · rw [if_neg h3]
          by_cases h4 : (2 : Int32) < y
          · rw [if_pos h4]
          · exfalso
            rw [i_lt, i_0] at h3
            rw [i_lt, lit_i 2 (by decide)] at h4
            exact h2 ⟨by omega, by omega⟩
    · rw [if_pos h1, if_neg (fun q => h1 q.1)]
  · simp only [m_isCard _ _ ms0 hn, m_in, l_i, l_0, show (2 : Int64).toInt = 2 by decide, Option.bind_some, bi_0]
    by_cases h1 : hasP (nI n) x
    · rw [if_neg (show ¬ ¬ hasP (nI n) x from fun q => q h1)]
      by_cases h2 : rgP 0 2 y
      · rw [if_neg (show ¬ ¬ rgP 0 2 y from fun q => q h2), if_pos (show hasP (nI n) x ∧ rgP 0 2 y from ⟨h1, h2⟩)]
        obtain ⟨a, ha, e1⟩ := hasP_of hn h1
        rw [e1, m_two_all _ _ ms0 hn mi0 ha, nI_c (by omega), two_e he ha]
      · rw [if_pos h2, if_neg (fun q => h2 q.2)]
    · rw [if_pos h1, if_neg (fun q => h1 q.1)]
