/-! THE CLASS'S CARDS, nearest ones, pairs, heirs -/
theorem loop_dk {α β δ : Type} {D : δ → Prop} {E : Nat → α → δ → β} {f : Nat → α → α} {N : Nat} {b : β} (h : ∀ k s w, k < N → D w → ∃ w', D w' ∧ E k s w = E (k + 1) (f k s) w') (s : α) (w : δ) (hw : D w) (fin : ∀ w', D w' → E N (it f N s) w' = b) : E 0 s w = b := by
  obtain ⟨w', h1, e⟩ := loop_d h s w hw
  exact e.trans (fin w' h1)
theorem nI_nn {j : Nat} (h : j < 2147483648) : nI j ≠ (-1000000 : Int32) := by
  intro e
  have := congrArg Int32.toInt e
  rw [nI_i h, i_none] at this
  omega
theorem nI_inj {a b : Nat} (ha : a < 2147483648) (hb : b < 2147483648) (e : nI a = nI b) : a = b := by
  have := congrArg Int32.toInt e
  rw [nI_i ha, nI_i hb] at this
  omega
/-- the nearest of the first ones: who, how far -/
def nmF (yr : Nat → Int32) (row : Nat → Nat → Int32) (c k : Nat) (s : Int32 × Int32) : Int32 × Int32 := if erP yr k c ∧ unl (row k) (row c) < s.2 then (nI k, unl (row k) (row c)) else s
def nmo (yr : Nat → Int32) (row : Nat → Nat → Int32) (c n : Nat) : Int32 × Int32 := it (nmF yr row c) n (-1000000, 12)
theorem nmo_c (yr : Nat → Int32) (row : Nat → Nat → Int32) (c n : Nat) : nmo yr row c n = (-1000000, 12) ∨ ∃ j, j < n ∧ nmo yr row c n = (nI j, unl (row j) (row c)) := by
  refine it_inv (f := nmF yr row c) (P := fun k s => s = (-1000000, 12) ∨ ∃ j, j < k ∧ s = (nI j, unl (row j) (row c))) (Or.inl rfl) (fun k s hk h => ?_) n (Nat.le_refl n)
  unfold nmF
  split
  · exact Or.inr ⟨k, Nat.lt_succ_self k, rfl⟩
  · obtain h | ⟨j, hj, e⟩ := h
    · exact Or.inl h
    · exact Or.inr ⟨j, Nat.lt_succ_of_lt hj, e⟩
theorem s_nearestMother (d : Nat) {σ : ax_S} {n c : Nat} (hs : σ.1 17 0 = nI n) (hn : n ≤ 12) (hc : c < n) : cI sO (d + 4) 126 [.ref 17, .int (nI c)] σ = some ((nmo (σ.1 19) (cr σ) c n).1, σ) := by
  refine cI_ev mi_126 ((u_126_17 d σ _).trans ?_) rfl
  refine (loop_it (E := fun k (s : Int32 × Int32) => ev sO (d + 4) 126 9 [.ref 17, .int (nI c), .int s.1, .int s.2, .int (nI k)] [] σ) (f := nmF (σ.1 19) (cr σ) c) (N := n) (fun k s hk => ?_) (-1000000, 12)).trans ?_
  · rw [u_126_17p9, hs, if_pos (nlt hk)]
    simp only [s_isEarlier _ hs hn hk hc, s_apart _ hs hn hk hc, Option.bind_some, bi_0, nI_add1]
    unfold nmF
    by_cases h : erP (σ.1 19) k c
    · rw [if_neg (fun q => q h)]
      by_cases h2 : unl (cr σ k) (cr σ c) < s.2
      · rw [if_pos h2, if_pos ⟨h, h2⟩]
      · rw [if_neg h2, if_neg (fun q => h2 q.2)]
    · rw [if_pos h, if_neg (fun q => h q.1)]
  · rw [u_126_17p9, hs, if_neg (nnl (Nat.le_refl n))]
    rfl
def lcs (yr : Nat → Int32) (row : Nat → Nat → Int32) (n : Nat) : Int32 := it (fun c u => if (nmo yr row c n).1 = -1000000 then u else u + (nmo yr row c n).2) n 0
theorem s_leastChanges (d : Nat) {σ : ax_S} {n : Nat} (hs : σ.1 17 0 = nI n) (hn : n ≤ 12) : cI sO (d + 5) 125 [.ref 17] σ = some (lcs (σ.1 19) (cr σ) n, σ) := by
  refine cI_ev mi_125 ((u_125_17 d σ).trans ?_) rfl
  refine loop_dk (D := c1) (E := fun k (u : Int32) (w : Value) => ev sO (d + 5) 125 4 [.ref 17, .int u, .int (nI k), w] [] σ) (f := fun c u => if (nmo (σ.1 19) (cr σ) c n).1 = -1000000 then u else u + (nmo (σ.1 19) (cr σ) c n).2) (N := n) (fun k u w hk hw => ?_) 0 .null rfl (fun w hw => ?_)
  · rw [u_125_17p4 _ _ _ _ _ hw, hs, if_pos (nlt hk), s_nearestMother _ hs hn hk]
    simp only [Option.bind_some, nI_add1]
    refine ⟨.int (nmo (σ.1 19) (cr σ) k n).1, rfl, ?_⟩
    obtain e | ⟨j, hj, e⟩ := nmo_c (σ.1 19) (cr σ) k n
    · rw [e, if_pos rfl, if_pos rfl]
    · rw [e, if_neg (nI_nn (by omega)), if_neg (nI_nn (by omega)), s_apart _ hs hn hj hk]
      rfl
  · rw [u_125_17p4 _ _ _ _ _ hw, hs, if_neg (nnl (Nat.le_refl n))]
    rfl
def asn (yr : Nat → Int32) (row : Nat → Nat → Int32) (c : Nat) (x : Int32) (n : Nat) : Int32 := it (fun k u => if erP yr k c ∧ unl (row k) (row c) = x then u + 1 else u) n 0
theorem s_asNear (d : Nat) {σ : ax_S} {n c : Nat} (x : Int32) (hs : σ.1 17 0 = nI n) (hn : n ≤ 12) (hc : c < n) : cI sO (d + 4) 129 [.ref 17, .int (nI c), .int x] σ = some (asn (σ.1 19) (cr σ) c x n, σ) := by
  refine cI_ev mi_129 ((u_129_17 d σ _ _).trans ?_) rfl
  refine (loop_it (E := fun k (u : Int32) => ev sO (d + 4) 129 5 [.ref 17, .int (nI c), .int x, .int u, .int (nI k)] [] σ) (f := fun k u => if erP (σ.1 19) k c ∧ unl (cr σ k) (cr σ c) = x then u + 1 else u) (N := n) (fun k s hk => ?_) 0).trans ?_
  · rw [u_129_17p5, hs, if_pos (nlt hk)]
    simp only [s_isEarlier _ hs hn hk hc, s_apart _ hs hn hk hc, Option.bind_some, bi_0, nI_add1]
    by_cases h : erP (σ.1 19) k c
    · rw [if_neg (fun q => q h)]
      by_cases h2 : unl (cr σ k) (cr σ c) = x
      · rw [if_pos h2, if_pos ⟨h, h2⟩]
      · rw [if_neg h2, if_neg (fun q => h2 q.2)]
    · rw [if_pos h, if_neg (fun q => h q.1)]
  · rw [u_129_17p5, hs, if_neg (nnl (Nat.le_refl n))]
    rfl
def lrs (yr : Nat → Int32) (row : Nat → Nat → Int32) (n : Nat) : Int64 := it (fun c u => if (nmo yr row c n).1 = -1000000 then u else u * (asn yr row c (nmo yr row c n).2 n).toInt64) n 1
theorem s_leastRows (d : Nat) {σ : ax_S} {n : Nat} (hs : σ.1 17 0 = nI n) (hn : n ≤ 12) : cL sO (d + 5) 128 [.ref 17] σ = some (lrs (σ.1 19) (cr σ) n, σ) := by
  refine cL_ev mi_128 ((u_128_17 d σ).trans ?_) rfl
  refine loop_dk (D := c1) (E := fun k (u : Int64) (w : Value) => ev sO (d + 5) 128 4 [.ref 17, .long u, .null, .int (nI k), w] [] σ) (f := fun c u => if (nmo (σ.1 19) (cr σ) c n).1 = -1000000 then u else u * (asn (σ.1 19) (cr σ) c (nmo (σ.1 19) (cr σ) c n).2 n).toInt64) (N := n) (fun k u w hk hw => ?_) 1 .null rfl (fun w hw => ?_)
  · rw [u_128_17p4 _ _ _ _ _ hw, hs, if_pos (nlt hk), s_nearestMother _ hs hn hk]
    simp only [Option.bind_some, nI_add1]
    refine ⟨.int (nmo (σ.1 19) (cr σ) k n).1, rfl, ?_⟩
    obtain e | ⟨j, hj, e⟩ := nmo_c (σ.1 19) (cr σ) k n
    · rw [e, if_pos rfl, if_pos rfl]
    · rw [e, if_neg (nI_nn (by omega)), if_neg (nI_nn (by omega)), s_apart _ hs hn hj hk]
      simp only [Option.bind_some]
      rw [s_asNear _ _ hs hn hk]
      rfl
  · rw [u_128_17p4 _ _ _ _ _ hw, hs, if_neg (nnl (Nat.le_refl n))]
    rfl
/-- what a card has of neither -/
abbrev prP (f g h : Nat → Int32) (k : Nat) : Prop := f k ≠ -1000000 ∧ g k ≠ f k ∧ h k ≠ f k
def cpr (f g h : Nat → Int32) : Int32 := it (fun k u => if prP f g h k then u + 1 else u) 11 1
theorem s_costOfPair (d : Nat) {σ : ax_S} {n c a b : Nat} (hs : σ.1 17 0 = nI n) (hn : n ≤ 12) (hc : c < n) (ha : a < n) (hb : b < n) : cI sO (d + 2) 133 [.ref 17, .int (nI c), .int (nI a), .int (nI b)] σ = some (cpr (cr σ c) (cr σ a) (cr σ b), σ) := by
  refine cI_ev mi_133 ((u_133_17 d σ _ _ _).trans ?_) rfl
  refine loop_dk (D := c1) (E := fun k (u : Int32) (w : Value) => ev sO (d + 2) 133 6 [.ref 17, .int (nI c), .int (nI a), .int (nI b), .int u, .int (nI k), w] [] σ) (f := fun k u => if prP (cr σ c) (cr σ a) (cr σ b) k then u + 1 else u) (N := 11) (fun k u w hk hw => ?_) 1 .null rfl (fun w hw => ?_)
  · rw [u_133_17p6 _ _ _ _ _ _ _ _ hw, if_pos (l11 hk)]
    simp only [s_mark _ hs hn hc hk, s_mark _ hs hn ha hk, s_mark _ hs hn hb hk, Option.bind_some, nI_add1]
    refine ⟨.int (cr σ c k), rfl, ?_⟩
    by_cases h1 : cr σ c k = -1000000
    · rw [if_pos h1, if_neg (fun q => q.1 h1)]
    · rw [if_neg h1]
      by_cases h2 : cr σ a k = cr σ c k
      · rw [if_pos h2, if_neg (fun q => q.2.1 h2)]
      · rw [if_neg h2]
        by_cases h3 : cr σ b k = cr σ c k
        · rw [if_pos h3, if_neg (fun q => q.2.2 h3)]
        · rw [if_neg h3, if_pos ⟨h1, h2, h3⟩]
  · rw [u_133_17p6 _ _ _ _ _ _ _ _ hw, if_neg g11]
    rfl
/-- counts -/
def cn (P : Nat → Prop) [DecidablePred P] : Nat → Nat
  | 0 => 0
  | k + 1 => if P k then cn P k + 1 else cn P k
theorem cn_s (P : Nat → Prop) [DecidablePred P] (k : Nat) : cn P (k + 1) = if P k then cn P k + 1 else cn P k := rfl
theorem cn_le (P : Nat → Prop) [DecidablePred P] : ∀ k, cn P k ≤ k
  | 0 => Nat.le_refl 0
  | k + 1 => by
    have := cn_le P k
    rw [cn_s]
    split <;> omega
theorem it_cn (P : Nat → Prop) [DecidablePred P] (a : Nat) : ∀ N, it (fun k u => if P k then u + 1 else u) N (nI a) = nI (a + cn P N)
  | 0 => rfl
  | N + 1 => by
    rw [it_s, it_cn P a N, cn_s]
    split
    · rw [nI_add1, Nat.add_assoc]
    · rfl
theorem cpr_n (f g h : Nat → Int32) : cpr f g h = nI (1 + cn (prP f g h) 11) := it_cn (prP f g h) 1 11
theorem cpr_nn (f g h : Nat → Int32) : cpr f g h ≠ -1000000 := by
  rw [cpr_n]
  have := cn_le (prP f g h) 11
  exact nI_nn (by omega)
theorem unl_n (f g : Nat → Int32) : unl f g = nI (cn (ulP f g) 11) := (it_cn (ulP f g) 0 11).trans (by rw [Nat.zero_add])
theorem sts_n (f : Nat → Int32) : sts f = nI (cn (fun k => f k = -1000000) 11) := (it_cn (fun k => f k = -1000000) 0 11).trans (by rw [Nat.zero_add])
