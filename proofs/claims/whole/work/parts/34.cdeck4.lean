/-! THE CLASS'S CARDS, two ones, left out, mended -/
/-- turns that may leave off -/
def itx {α : Type} (f : Nat → α → Option α) : Nat → α → Option α
  | 0, s => some s
  | k + 1, s => (itx f k s).bind (f k)
theorem itx_s {α : Type} (f : Nat → α → Option α) (k : Nat) (s : α) : itx f (k + 1) s = (itx f k s).bind (f k) := rfl
theorem itx_none {α : Type} {f : Nat → α → Option α} {k : Nat} {s : α} (h : itx f k s = none) : ∀ N, k ≤ N → itx f N s = none
  | 0, hk => by
    have : k = 0 := by omega
    rw [this] at h
    exact h
  | N + 1, hk => by
    by_cases e : k = N + 1
    · rw [← e]
      exact h
    · rw [itx_s, itx_none h N (by omega)]
      rfl
/-- a loop that may leave off with X -/
theorem loop_x {α β δ : Type} {D : δ → Prop} {E : Nat → α → δ → β} {f : Nat → α → Option α} {N : Nat} {X : β} (h : ∀ k s w, k < N → D w → (∃ s' w', D w' ∧ f k s = some s' ∧ E k s w = E (k + 1) s' w') ∨ (f k s = none ∧ E k s w = X)) (s : α) (w : δ) (hw : D w) : (∃ s' w', D w' ∧ itx f N s = some s' ∧ E 0 s w = E N s' w') ∨ (itx f N s = none ∧ E 0 s w = X) := by
  have k1 : ∀ k, k ≤ N → (∃ s' w', D w' ∧ itx f k s = some s' ∧ E 0 s w = E k s' w') ∨ (itx f k s = none ∧ E 0 s w = X) := by
    intro k
    induction k with
    | zero => intro _; exact Or.inl ⟨s, w, hw, rfl, rfl⟩
    | succ k ih =>
      intro hk
      obtain ⟨s1, w1, h1, i1, e1⟩ | ⟨i1, e1⟩ := ih (by omega)
      · obtain ⟨s2, w2, h2, i2, e2⟩ | ⟨i2, e2⟩ := h k s1 w1 (by omega) h1
        · exact Or.inl ⟨s2, w2, h2, by rw [itx_s, i1]; exact i2, e1.trans e2⟩
        · exact Or.inr ⟨by rw [itx_s, i1]; exact i2, e1.trans e2⟩
      · exact Or.inr ⟨itx_none i1 _ (Nat.le_succ k), e1⟩
  exact k1 N (Nat.le_refl _)
/-- a loop of which something holds all along -/
theorem loop_P {α β : Type} {E : Nat → α → β} {P : Nat → α → Prop} {N : Nat} (h : ∀ k s, k < N → P k s → ∃ s', P (k + 1) s' ∧ E k s = E (k + 1) s') (s : α) (h0 : P 0 s) : ∃ s', P N s' ∧ E 0 s = E N s' := by
  have k1 : ∀ k, k ≤ N → ∃ s', P k s' ∧ E 0 s = E k s' := by
    intro k
    induction k with
    | zero => intro _; exact ⟨s, h0, rfl⟩
    | succ k ih =>
      intro hk
      obtain ⟨s1, h1, e1⟩ := ih (by omega)
      obtain ⟨s2, h2, e2⟩ := h k s1 (by omega) h1
      exact ⟨s2, h2, e1.trans e2⟩
  exact k1 N (Nat.le_refl _)
/-- of two: what it costs, the lesser, the greater -/
def twF (yr : Nat → Int32) (row : Nat → Nat → Int32) (c a b : Nat) (s : Int32 × Int32 × Int32) : Int32 × Int32 × Int32 := if erP yr b c ∧ (s.1 = -1000000 ∨ cpr (row c) (row a) (row b) < s.1) then (cpr (row c) (row a) (row b), nI a, nI b) else s
def twI (yr : Nat → Int32) (row : Nat → Nat → Int32) (c n a : Nat) (s : Int32 × Int32 × Int32) : Int32 × Int32 × Int32 := if erP yr a c then it (fun k t => twF yr row c a (a + 1 + k) t) (n - (a + 1)) s else s
def two (yr : Nat → Int32) (row : Nat → Nat → Int32) (c n : Nat) : Int32 × Int32 × Int32 := it (fun a s => twI yr row c n a s) n (-1000000, -1000000, -1000000)
theorem s_two_in (d : Nat) {σ : ax_S} {n c a : Nat} (x : Int32) (hs : σ.1 17 0 = nI n) (hn : n ≤ 12) (hc : c < n) (ha : a < n) (s : Int32 × Int32 × Int32) (w : Value) (hw : c1 w) : ∃ v w', (c1 v ∧ c1 w') ∧ ev sO (d + 3) 132 29 [.ref 17, .int (nI c), .int x, .int s.1, .int s.2.1, .int s.2.2, .int (nI a), .int (nI (a + 1)), w] [] σ = ev sO (d + 3) 132 14 [.ref 17, .int (nI c), .int x, .int (twI (σ.1 19) (cr σ) c n a s).1, .int (twI (σ.1 19) (cr σ) c n a s).2.1, .int (twI (σ.1 19) (cr σ) c n a s).2.2, .int (nI (a + 1)), v, w'] [] σ := by
  by_cases he : erP (σ.1 19) a c
  · unfold twI
    rw [if_pos he]
    obtain ⟨w', h1, e⟩ := loop_d (D := c1) (E := fun k (s : Int32 × Int32 × Int32) (w : Value) => ev sO (d + 3) 132 29 [.ref 17, .int (nI c), .int x, .int s.1, .int s.2.1, .int s.2.2, .int (nI a), .int (nI (a + 1 + k)), w] [] σ) (f := fun k t => twF (σ.1 19) (cr σ) c a (a + 1 + k) t) (N := n - (a + 1)) (fun k s w hk hw => by
      rw [u_132_17p29 _ _ _ _ _ _ _ _ _ _ hw, hs, if_pos (nlt (by omega))]
      have hb : a + 1 + k < n := by omega
      simp only [s_isEarlier _ hs hn ha hc, s_isEarlier _ hs hn hb hc, s_costOfPair _ hs hn hc ha hb, Option.bind_some, bi_0, nI_add1]
      rw [if_neg (fun q => q he)]
      unfold twF
      by_cases h1 : erP (σ.1 19) (a + 1 + k) c
      · rw [if_neg (fun q => q h1), if_neg (cpr_nn _ _ _)]
        refine ⟨.int (cpr (cr σ c) (cr σ a) (cr σ (a + 1 + k))), rfl, ?_⟩
        by_cases h2 : s.1 = -1000000
        · rw [if_pos h2, if_pos ⟨h1, Or.inl h2⟩]
          rfl
        · rw [if_neg h2]
          by_cases h3 : cpr (cr σ c) (cr σ a) (cr σ (a + 1 + k)) < s.1
          · rw [if_pos h3, if_pos ⟨h1, Or.inr h3⟩]
            rfl
          · rw [if_neg h3, if_neg (fun q => q.2.elim h2 h3)]
            rfl
      · refine ⟨.int (-1000000), rfl, ?_⟩
        rw [if_pos h1, if_neg (fun q => h1 q.1)]
        rfl) s w hw
    refine ⟨.int (nI (a + 1 + (n - (a + 1)))), w', ⟨rfl, h1⟩, e.trans ?_⟩
    rw [u_132_17p29 _ _ _ _ _ _ _ _ _ _ h1, hs, if_neg (nnl (by omega)), nI_add1]
  · unfold twI
    rw [if_neg he, u_132_17p29 _ _ _ _ _ _ _ _ _ _ hw, hs]
    split
    · simp only [s_isEarlier _ hs hn ha hc, Option.bind_some, bi_0, nI_add1]
      rw [if_pos he]
      exact ⟨.int (nI (a + 1)), w, ⟨rfl, hw⟩, rfl⟩
    · rw [nI_add1]
      exact ⟨.int (nI (a + 1)), w, ⟨rfl, hw⟩, rfl⟩
theorem s_costOfTwo (d : Nat) {σ : ax_S} {n c : Nat} (x : Int32) (hs : σ.1 17 0 = nI n) (hn : n ≤ 12) (hc : c < n) : cI sO (d + 3) 132 [.ref 17, .int (nI c), .int x] σ = some (if x = 0 then (two (σ.1 19) (cr σ) c n).1 else if x = 1 then (two (σ.1 19) (cr σ) c n).2.1 else (two (σ.1 19) (cr σ) c n).2.2, σ) := by
  refine cI_ev mi_132 ((u_132_17 d σ _ _).trans ?_) rfl
  refine loop_dk (D := fun w : Value × Value => c1 w.1 ∧ c1 w.2) (E := fun k (s : Int32 × Int32 × Int32) (w : Value × Value) => ev sO (d + 3) 132 14 [.ref 17, .int (nI c), .int x, .int s.1, .int s.2.1, .int s.2.2, .int (nI k), w.1, w.2] [] σ) (f := fun a s => twI (σ.1 19) (cr σ) c n a s) (N := n) (fun k s w hk hw => ?_) (-1000000, -1000000, -1000000) (.null, .null) ⟨rfl, rfl⟩ (fun w hw => ?_)
  · rw [u_132_17p14 _ _ _ _ _ _ _ _ _ hw.1 _ hw.2, hs, if_pos (nlt hk), nI_add1]
    obtain ⟨v, w', h1, e⟩ := s_two_in d x hs hn hc hk s w.2 hw.2
    exact ⟨(v, w'), h1, e⟩
  · rw [u_132_17p14 _ _ _ _ _ _ _ _ _ hw.1 _ hw.2, hs, if_neg (nnl (Nat.le_refl n))]
    unfold two
    split
    · rfl
    · split <;> rfl
/-- heirs and the family of one who has left out a thing -/
def loF (mo : Nat → Int32) (row : Nat → Nat → Int32) (t o : Nat) (s : Int32 × Int32) : Option (Int32 × Int32) := if mo o < 0 then some s else if ((s.2 >>> (mo o &&& 31)) &&& 1) = 0 then some s else if row o t = 0 then some (s.1 + 1, s.2 ||| (1 <<< (nI o &&& 31))) else none
def lof (mo : Nat → Int32) (row : Nat → Nat → Int32) (c t n : Nat) : Option (Int32 × Int32) := itx (fun k s => loF mo row t (c + 1 + k) s) (n - (c + 1)) (0, 1 <<< (nI c &&& 31))
def lo (mo : Nat → Int32) (row : Nat → Nat → Int32) (c t n : Nat) : Int32 := if 0 ≤ (mo c).toInt ∧ 0 < row (mo c).toNatClampNeg t ∧ row c t = 0 then ((lof mo row c t n).elim (-1000000) Prod.fst) else -1000000
/-- who a mother may be: one of those before -/
abbrev moP (mo : Nat → Int32) (n : Nat) : Prop := ∀ j, j < n → mo j = -1000000 ∨ ∃ i, i < j ∧ mo j = nI i
theorem s_leftOut (d : Nat) {σ : ax_S} {n c t : Nat} (hs : σ.1 17 0 = nI n) (hn : n ≤ 12) (hm : moP (σ.1 20) n) (hc : c < n) (ht : t < 8) : cI sO (d + 2) 165 [.ref 17, .int (nI c), .int (nI t)] σ = some (lo (σ.1 20) (cr σ) c t n, σ) := by
  refine cI_ev mi_165 ((u_165_17 d σ _ _).trans ?_) rfl
  simp only [s_motherOf _ hs hn hc, Option.bind_some, s_markAt]
  unfold lo
  obtain e | ⟨i, hi, e⟩ := hm c hc
  · rw [e, if_neg (by
      unfold kMk
      rw [if_neg (fun q => absurd q.1.1 (by decide))]
      decide), if_neg (fun q => absurd q.1 (by decide))]
  · rw [e, kMk_in hs hn (by omega) (by omega), kMk_in hs hn hc (by omega), nI_c (by omega)]
    by_cases h1 : 0 < cr σ i t
    · rw [if_pos h1]
      by_cases h2 : cr σ c t = 0
      · rw [if_pos h2, if_pos ⟨by rw [nI_i (by omega)]; omega, h1, h2⟩, nI_add1]
        have L := loop_x (D := c1) (E := fun k (s : Int32 × Int32) (w : Value) => ev sO (d + 2) 165 37 [.ref 17, .int (nI c), .int (nI t), .int s.1, .int s.2, .int (nI (c + 1 + k)), w] [] σ) (f := fun k s => loF (σ.1 20) (cr σ) t (c + 1 + k) s) (N := n - (c + 1)) (X := some (some (.int (-1000000)), σ)) (fun k s w hk hw => by
          have ho : c + 1 + k < n := by omega
          rw [u_165_17p37 _ _ _ rfl _ _ _ _ _ hw, hs, if_pos (nlt ho)]
          simp only [s_motherOf _ hs hn ho, s_mark _ hs hn ho (show t < 11 by omega), Option.bind_some, nI_add1]
          unfold loF
          by_cases h3 : σ.1 20 (c + 1 + k) < 0
          · rw [if_pos h3, if_pos h3]
            exact Or.inl ⟨_, .int (σ.1 20 (c + 1 + k)), rfl, rfl, rfl⟩
          · rw [if_neg h3, if_neg h3]
            by_cases h4 : ((s.2 >>> (σ.1 20 (c + 1 + k) &&& 31)) &&& 1) = 0
            · rw [if_pos h4, if_pos h4]
              exact Or.inl ⟨_, .int (σ.1 20 (c + 1 + k)), rfl, rfl, rfl⟩
            · rw [if_neg h4, if_neg h4]
              by_cases h5 : cr σ (c + 1 + k) t = 0
              · rw [if_pos h5, if_pos h5]
                exact Or.inl ⟨_, .int (σ.1 20 (c + 1 + k)), rfl, rfl, rfl⟩
              · rw [if_neg h5, if_neg h5]
                exact Or.inr ⟨rfl, rfl⟩) (0, 1 <<< (nI c &&& 31)) .null rfl
        obtain ⟨s', w', h3, i3, e3⟩ | ⟨i3, e3⟩ := L
        · refine e3.trans ?_
          unfold lof
          rw [i3, u_165_17p37 _ _ _ rfl _ _ _ _ _ h3, hs, if_neg (nnl (by omega))]
          rfl
        · refine e3.trans ?_
          unfold lof
          rw [i3]
          rfl
      · rw [if_neg h2, if_neg (fun q => h2 q.2.2)]
    · rw [if_neg h1, if_neg (fun q => h1 q.2.1)]
