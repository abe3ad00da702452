/-! THE CLASS'S CARDS, told by rows: cr sigma j is card j's row of marks -/
def cr (σ : ax_S) (j : Nat) : Nat → Int32 := fun k => σ.1 21 (j * 11 + k)
theorem nlt {k N : Nat} (h : k < N) (hN : N < 2147483648 := by omega) : nI k < (nI N) := nI_lt h (by omega)
theorem nnl {k N : Nat} (h : N ≤ k) (hN : k < 2147483648 := by omega) : ¬ nI k < (nI N) := nI_nlt h (by omega)
theorem l11 {k : Nat} (h : k < 11) : nI k < (11 : Int32) := nlt (N := 11) h
theorem g11 : ¬ nI 11 < (11 : Int32) := nnl (N := 11) (Nat.le_refl 11)
theorem l8 {k : Nat} (h : k < 8) : nI k < (8 : Int32) := nlt (N := 8) h
theorem g8 : ¬ nI 8 < (8 : Int32) := nnl (N := 8) (Nat.le_refl 8)
theorem hasP_nI {n j : Nat} (hn : n ≤ 12) (h : j < n) : hasP (nI n) (nI j) := by
  refine ⟨?_, ?_, ?_⟩
  · rw [nI_i (by omega)]; omega
  · rw [nI_i (by omega), nI_i (by omega)]; omega
  · rw [nI_i (by omega)]; omega
theorem mkP_nI {k : Nat} (h : k < 11) : mkP (nI k) := by
  constructor
  · rw [nI_i (by omega)]; omega
  · rw [nI_i (by omega)]; omega
theorem hasP_of {n : Nat} {c : Int32} (hn : n ≤ 12) (h : hasP (nI n) c) : ∃ j, j < n ∧ c = nI j := by
  obtain ⟨j, hj, e, e2⟩ := i_nI h.1
  have h2 := h.2.1
  rw [nI_i (by omega)] at h2
  exact ⟨j, by omega, e⟩
theorem mkP_of {m : Int32} (h : mkP m) : ∃ k, k < 11 ∧ m = nI k := by
  obtain ⟨j, hj, e, e2⟩ := i_nI h.1
  exact ⟨j, by omega, e⟩
theorem kMk_in {σ : ax_S} {n j k : Nat} (hs : σ.1 17 0 = nI n) (hn : n ≤ 12) (hj : j < n) (hk : k < 11) : kMk σ (nI j) (nI k) = cr σ j k := by
  unfold kMk cr
  rw [if_pos ⟨by rw [hs]; exact hasP_nI hn hj, mkP_nI hk⟩, nI_i (by omega), nI_i (by omega)]
  congr 1
theorem s_mark (d : Nat) {σ : ax_S} {n j k : Nat} (hs : σ.1 17 0 = nI n) (hn : n ≤ 12) (hj : j < n) (hk : k < 11) : cI sO (d + 1) 97 [.ref 17, .int (nI j), .int (nI k)] σ = some (cr σ j k, σ) := by
  rw [s_markAt, kMk_in hs hn hj hk]
theorem s_hasT (d : Nat) {σ : ax_S} {n j : Nat} (hs : σ.1 17 0 = nI n) (hn : n ≤ 12) (hj : j < n) : cI sO d 84 [.ref 17, .int (nI j)] σ = some (1, σ) := by
  rw [s_has, hs, bi_t (hasP_nI hn hj)]
theorem s_yearOf (d : Nat) {σ : ax_S} {n j : Nat} (hs : σ.1 17 0 = nI n) (hn : n ≤ 12) (hj : j < n) : cI sO (d + 1) 91 [.ref 17, .int (nI j)] σ = some (σ.1 19 j, σ) := by
  refine cI_ev mi_91 ((u_91_17 d σ _).trans ?_) rfl
  rw [s_hasT d hs hn hj, Option.bind_some]
  simp only
  rw [if_neg (by decide), gd_t (by rw [nI_i (by omega)]; omega), nI_c (by omega)]
theorem s_landOf (d : Nat) {σ : ax_S} {n j : Nat} (hs : σ.1 17 0 = nI n) (hn : n ≤ 12) (hj : j < n) : cI sO (d + 1) 101 [.ref 17, .int (nI j)] σ = some (σ.1 18 j, σ) := by
  refine cI_ev mi_101 ((u_101_17 d σ _).trans ?_) rfl
  rw [s_hasT d hs hn hj, Option.bind_some]
  simp only
  rw [if_neg (by decide), gd_t (by rw [nI_i (by omega)]; omega), nI_c (by omega)]
theorem s_motherOf (d : Nat) {σ : ax_S} {n j : Nat} (hs : σ.1 17 0 = nI n) (hn : n ≤ 12) (hj : j < n) : cI sO (d + 1) 102 [.ref 17, .int (nI j)] σ = some (σ.1 20 j, σ) := by
  refine cI_ev mi_102 ((u_102_17 d σ _).trans ?_) rfl
  rw [s_hasT d hs hn hj, Option.bind_some]
  simp only
  rw [if_neg (by decide), gd_t (by rw [nI_i (by omega)]; omega), nI_c (by omega)]
/-- unlike in one mark -/
abbrev ulP (f g : Nat → Int32) (k : Nat) : Prop := f k ≠ -1000000 ∧ g k ≠ -1000000 ∧ f k ≠ g k
/-- UNLIKE -/
def unl (f g : Nat → Int32) : Int32 := it (fun k u => if ulP f g k then u + 1 else u) 11 0
theorem s_isUnlike (d : Nat) {σ : ax_S} {n a b k : Nat} (hs : σ.1 17 0 = nI n) (hn : n ≤ 12) (ha : a < n) (hb : b < n) (hk : k < 11) : cI sO (d + 2) 109 [.ref 17, .int (nI a), .int (nI b), .int (nI k)] σ = some (bi (ulP (cr σ a) (cr σ b) k), σ) := by
  refine cI_ev mi_109 ((u_109_17 d σ _ _ _).trans ?_) rfl
  rw [s_mark d hs hn ha hk, Option.bind_some]
  simp only
  rw [s_mark d hs hn hb hk, Option.bind_some]
  simp only
  by_cases h1 : cr σ a k = -1000000
  · rw [if_pos h1, bi_f (fun q => q.1 h1)]
  · rw [if_neg h1]
    by_cases h2 : cr σ b k = -1000000
    · rw [if_pos h2, bi_f (fun q => q.2.1 h2)]
    · rw [if_neg h2]
      by_cases h3 : cr σ a k = cr σ b k
      · rw [if_pos h3, bi_f (fun q => q.2.2 h3)]
      · rw [if_neg h3, bi_t ⟨h1, h2, h3⟩]
theorem s_apart (d : Nat) {σ : ax_S} {n a b : Nat} (hs : σ.1 17 0 = nI n) (hn : n ≤ 12) (ha : a < n) (hb : b < n) : cI sO (d + 3) 108 [.ref 17, .int (nI a), .int (nI b)] σ = some (unl (cr σ a) (cr σ b), σ) := by
  refine cI_ev mi_108 ((u_108_17 d σ _ _).trans ?_) rfl
  refine (loop_it (E := fun k (u : Int32) => ev sO (d + 3) 108 5 [.ref 17, .int (nI a), .int (nI b), .int u, .int (nI k)] [] σ) (f := fun k u => if ulP (cr σ a) (cr σ b) k then u + 1 else u) (N := 11) (fun k u hk => ?_) 0).trans ?_
  · rw [u_108_17p5, if_pos (l11 hk), s_isUnlike d hs hn ha hb hk, Option.bind_some]
    simp only [bi_0, nI_add1]
    by_cases h : ulP (cr σ a) (cr σ b) k
    · rw [if_neg (by simp only [Decidable.not_not]; exact h), if_pos h]
    · rw [if_pos h, if_neg h]
  · rw [u_108_17p5, if_neg g11]
    rfl
theorem s_stainsOf (d : Nat) {σ : ax_S} {n j : Nat} (hs : σ.1 17 0 = nI n) (hn : n ≤ 12) (hj : j < n) : cI sO (d + 2) 103 [.ref 17, .int (nI j)] σ = some (it (fun k u => if cr σ j k = -1000000 then u + 1 else u) 11 0, σ) := by
  refine cI_ev mi_103 ((u_103_17 d σ _).trans ?_) rfl
  refine (loop_it (E := fun k (u : Int32) => ev sO (d + 2) 103 4 [.ref 17, .int (nI j), .int u, .int (nI k)] [] σ) (f := fun k u => if cr σ j k = -1000000 then u + 1 else u) (N := 11) (fun k u hk => ?_) 0).trans ?_
  · rw [u_103_17p4, if_pos (l11 hk), s_mark d hs hn hj hk, Option.bind_some]
    simp only [nI_add1]
    split <;> rfl
  · rw [u_103_17p4, if_neg g11]
/-- loops with places that nobody reads any more (w) -/
theorem loop_d {α β δ : Type} {D : δ → Prop} {E : Nat → α → δ → β} {f : Nat → α → α} {N : Nat} (h : ∀ k s w, k < N → D w → ∃ w', D w' ∧ E k s w = E (k + 1) (f k s) w') (s : α) (w : δ) (hw : D w) : ∃ w', D w' ∧ E 0 s w = E N (it f N s) w' := by
  have k1 : ∀ k, k ≤ N → ∃ w', D w' ∧ E 0 s w = E k (it f k s) w' := by
    intro k
    induction k with
    | zero => intro _; exact ⟨w, hw, rfl⟩
    | succ k ih =>
      intro hk
      obtain ⟨w1, h1, e1⟩ := ih (by omega)
      obtain ⟨w2, h2, e2⟩ := h k _ w1 (by omega) h1
      exact ⟨w2, h2, e1.trans e2⟩
  exact k1 N (Nat.le_refl _)
/-- .. and what holds all along -/
theorem loop_dI {α β δ : Type} {D : δ → Prop} {P : Nat → α → Prop} {E : Nat → α → δ → β} {f : Nat → α → α} {N : Nat} (h : ∀ k s w, k < N → P k s → D w → P (k + 1) (f k s) ∧ ∃ w', D w' ∧ E k s w = E (k + 1) (f k s) w') (s : α) (w : δ) (h0 : P 0 s) (hw : D w) : P N (it f N s) ∧ ∃ w', D w' ∧ E 0 s w = E N (it f N s) w' := by
  have k1 : ∀ k, k ≤ N → P k (it f k s) ∧ ∃ w', D w' ∧ E 0 s w = E k (it f k s) w' := by
    intro k
    induction k with
    | zero => intro _; exact ⟨h0, w, hw, rfl⟩
    | succ k ih =>
      intro hk
      obtain ⟨p1, w1, h1, e1⟩ := ih (by omega)
      obtain ⟨p2, w2, h2, e2⟩ := h k _ w1 (by omega) p1 h1
      exact ⟨p2, w2, h2, e1.trans e2⟩
  exact k1 N (Nat.le_refl _)
abbrev c1 (w : Value) : Prop := w.category = 1
theorem s_thingsOf (d : Nat) {σ : ax_S} {n j : Nat} (hs : σ.1 17 0 = nI n) (hn : n ≤ 12) (hj : j < n) : cI sO (d + 2) 184 [.ref 17, .int (nI j)] σ = some (it (fun k u => if 0 < cr σ j k then u + 1 else u) 8 0, σ) := by
  refine cI_ev mi_184 ((u_184_17 d σ _).trans ?_) rfl
  refine (loop_it (E := fun k (u : Int32) => ev sO (d + 2) 184 4 [.ref 17, .int (nI j), .int u, .int (nI k)] [] σ) (f := fun k u => if 0 < cr σ j k then u + 1 else u) (N := 8) (fun k u hk => ?_) 0).trans ?_
  · rw [u_184_17p4, if_pos (l8 hk), s_mark d hs hn hj (by omega), Option.bind_some]
    simp only [nI_add1]
    split <;> rfl
  · rw [u_184_17p4, if_neg g8]
/-- how many daughters -/
def dtr (mo : Nat → Int32) (n : Nat) (x : Int32) : Int32 := it (fun k u => if mo k = x then u + 1 else u) n 0
theorem s_daughtersOf (d : Nat) {σ : ax_S} {n : Nat} (x : Int32) (hs : σ.1 17 0 = nI n) (hn : n ≤ 12) : cI sO (d + 2) 104 [.ref 17, .int x] σ = some (dtr (σ.1 20) n x, σ) := by
  refine cI_ev mi_104 ((u_104_17 d σ _).trans ?_) rfl
  refine (loop_it (E := fun k (u : Int32) => ev sO (d + 2) 104 4 [.ref 17, .int x, .int u, .int (nI k)] [] σ) (f := fun k u => if σ.1 20 k = x then u + 1 else u) (N := n) (fun k u hk => ?_) 0).trans ?_
  · rw [u_104_17p4, hs, if_pos (nlt hk), s_motherOf d hs hn hk, Option.bind_some]
    simp only [nI_add1]
    split <;> rfl
  · rw [u_104_17p4, hs, if_neg (nnl (Nat.le_refl n))]
    rfl
def sts (f : Nat → Int32) : Int32 := it (fun k u => if f k = -1000000 then u + 1 else u) 11 0
theorem s_allStains (d : Nat) {σ : ax_S} {n : Nat} (hs : σ.1 17 0 = nI n) (hn : n ≤ 12) : cI sO (d + 3) 192 [.ref 17] σ = some (it (fun k u => u + sts (cr σ k)) n 0, σ) := by
  refine cI_ev mi_192 ((u_192_17 d σ).trans ?_) rfl
  refine (loop_it (E := fun k (u : Int32) => ev sO (d + 3) 192 4 [.ref 17, .int u, .int (nI k)] [] σ) (f := fun k u => u + sts (cr σ k)) (N := n) (fun k u hk => ?_) 0).trans ?_
  · rw [u_192_17p4, hs, if_pos (nlt hk), s_stainsOf d hs hn hk, Option.bind_some]
    simp only [nI_add1]
    rfl
  · rw [u_192_17p4, hs, if_neg (nnl (Nat.le_refl n))]
/-- an earlier one -/
abbrev erP (yr : Nat → Int32) (a b : Nat) : Prop := yr a < yr b ∨ yr a = yr b ∧ a < b
theorem s_isEarlier (d : Nat) {σ : ax_S} {n a b : Nat} (hs : σ.1 17 0 = nI n) (hn : n ≤ 12) (ha : a < n) (hb : b < n) : cI sO (d + 2) 127 [.ref 17, .int (nI a), .int (nI b)] σ = some (bi (erP (σ.1 19) a b), σ) := by
  refine cI_ev mi_127 ((u_127_17 d σ _ _).trans ?_) rfl
  rw [s_yearOf d hs hn ha, Option.bind_some]
  simp only
  rw [s_yearOf d hs hn hb, Option.bind_some]
  simp only
  by_cases h1 : σ.1 19 a < σ.1 19 b
  · rw [if_pos h1, bi_t (Or.inl h1)]
  · rw [if_neg h1]
    by_cases h2 : σ.1 19 a = σ.1 19 b
    · rw [if_pos h2]
      by_cases h3 : a < b
      · rw [if_pos (nlt h3), bi_t (Or.inr ⟨h2, h3⟩)]
      · rw [if_neg (nnl (by omega)), bi_f (fun q => q.elim (fun z => h1 z) (fun z => h3 z.2))]
    · rw [if_neg h2, bi_f (fun q => q.elim (fun z => h1 z) (fun z => h2 z.1))]
