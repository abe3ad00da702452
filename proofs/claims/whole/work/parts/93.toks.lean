/-! TOKENS: what both read off a tape. b: its bytes (0 to 255), n of them -/
def sc (P : Nat → Prop) [DecidablePred P] (i : Nat) : Nat → Nat
  | 0 => i
  | k + 1 => if P i then sc P (i + 1) k else i
theorem sc_r (P : Nat → Prop) [DecidablePred P] : ∀ k i, i ≤ sc P i k ∧ sc P i k ≤ i + k ∧ (∀ j, i ≤ j → j < sc P i k → P j) ∧ (sc P i k < i + k → ¬ P (sc P i k))
  | 0, i => ⟨Nat.le_refl _, Nat.le_refl _, fun j h1 h2 => absurd h2 (by unfold sc; omega), fun h => absurd h (by unfold sc; omega)⟩
  | k + 1, i => by
    unfold sc
    by_cases p : P i
    · rw [if_pos p]
      obtain ⟨h1, h2, h3, h4⟩ := sc_r P k (i + 1)
      refine ⟨by omega, by omega, fun j a b => ?_, fun q => h4 (by omega)⟩
      by_cases q : j = i
      · rw [q]; exact p
      · exact h3 j (by omega) b
    · rw [if_neg p]
      exact ⟨Nat.le_refl _, by omega, fun j a b => absurd b (by omega), fun _ => p⟩
theorem loop_sc {α β : Type} {E : α → β} {P : Nat → α → Prop} {Q : Nat → Prop} [DecidablePred Q] {n : Nat} (h : ∀ i s, i < n → Q i → P i s → ∃ s', P (i + 1) s' ∧ E s = E s') : ∀ k i s, i + k = n → P i s → ∃ s', P (sc Q i k) s' ∧ E s = E s'
  | 0, i, s, _, hp => ⟨s, hp, rfl⟩
  | k + 1, i, s, hk, hp => by
    unfold sc
    by_cases q : Q i
    · rw [if_pos q]
      obtain ⟨s1, p1, e1⟩ := h i s (by omega) q hp
      obtain ⟨s2, p2, e2⟩ := loop_sc h k (i + 1) s1 (by omega) p1
      exact ⟨s2, p2, e1.trans e2⟩
    · rw [if_neg q]
      exact ⟨s, hp, rfl⟩
abbrev blkP (x : Int32) : Prop := x = 32 ∨ x = 10
abbrev ltrP (x : Int32) : Prop := 97 ≤ x.toInt ∧ x.toInt ≤ 122
abbrev figP (x : Int32) : Prop := 48 ≤ x.toInt ∧ x.toInt ≤ 57
/-- the token behind e: its sort (0 none, 1 the end, 2 a name, 3 a number, 4 a stop, 5 a stain), where it begins and ends -/
def nxt (b : Nat → Int32) (n e : Nat) : Nat × Nat × Nat :=
  let s := sc (fun i => blkP (b i)) e (n - e)
  if s < n then (if ltrP (b s) then (2, s, sc (fun i => ltrP (b i)) s (n - s)) else if figP (b s) then (if 4 < sc (fun i => figP (b i)) s (n - s) - s then 0 else 3, s, sc (fun i => figP (b i)) s (n - s)) else (if b s = 59 then 4 else if b s = 63 then 5 else 0, s, s + 1)) else (1, s, s)
/-- what holds of a token -/
abbrev tkO (b : Nat → Int32) (n k s e : Nat) : Prop := k ≤ 5 ∧ s ≤ e ∧ e ≤ n ∧ (k = 4 → s < n ∧ b s = 59) ∧ (k = 5 → s < n ∧ b s = 63) ∧ (k = 2 → ∀ i, s ≤ i → i < e → ltrP (b i)) ∧ (k = 3 → e - s ≤ 4 ∧ ∀ i, s ≤ i → i < e → figP (b i))
theorem nxt_o (b : Nat → Int32) {n e : Nat} (he : e ≤ n) : tkO b n (nxt b n e).1 (nxt b n e).2.1 (nxt b n e).2.2 := by
  unfold nxt
  have h := sc_r (fun i => blkP (b i)) (n - e) e
  generalize sc (fun i => blkP (b i)) e (n - e) = s at h ⊢
  obtain ⟨h1, h2, -, -⟩ := h
  (try simp only)
  by_cases hs : s < n
  · rw [if_pos hs]
    by_cases hl : ltrP (b s)
    · rw [if_pos hl]
      obtain ⟨l1, l2, l3, -⟩ := sc_r (fun i => ltrP (b i)) (n - s) s
      show tkO b n 2 s (sc (fun i => ltrP (b i)) s (n - s))
      exact ⟨by decide, l1, by omega, fun q => absurd q (by decide), fun q => absurd q (by decide), fun _ => l3, fun q => absurd q (by decide)⟩
    · rw [if_neg hl]
      by_cases hf : figP (b s)
      · rw [if_pos hf]
        obtain ⟨l1, l2, l3, -⟩ := sc_r (fun i => figP (b i)) (n - s) s
        by_cases h4 : 4 < sc (fun i => figP (b i)) s (n - s) - s
        · rw [if_pos h4]
          show tkO b n 0 s (sc (fun i => figP (b i)) s (n - s))
          exact ⟨by decide, l1, by omega, fun q => absurd q (by decide), fun q => absurd q (by decide), fun q => absurd q (by decide), fun q => absurd q (by decide)⟩
        · rw [if_neg h4]
          show tkO b n 3 s (sc (fun i => figP (b i)) s (n - s))
          exact ⟨by decide, l1, by omega, fun q => absurd q (by decide), fun q => absurd q (by decide), fun q => absurd q (by decide), fun _ => ⟨by omega, l3⟩⟩
      · rw [if_neg hf]
        by_cases h59 : b s = 59
        · rw [if_pos h59]
          show tkO b n 4 s (s + 1)
          exact ⟨by decide, by omega, by omega, fun _ => ⟨hs, h59⟩, fun q => absurd q (by decide), fun q => absurd q (by decide), fun q => absurd q (by decide)⟩
        · rw [if_neg h59]
          by_cases h63 : b s = 63
          · rw [if_pos h63]
            show tkO b n 5 s (s + 1)
            exact ⟨by decide, by omega, by omega, fun q => absurd q (by decide), fun _ => ⟨hs, h63⟩, fun q => absurd q (by decide), fun q => absurd q (by decide)⟩
          · rw [if_neg h63]
            show tkO b n 0 s (s + 1)
            exact ⟨by decide, by omega, by omega, fun q => absurd q (by decide), fun q => absurd q (by decide), fun q => absurd q (by decide), fun q => absurd q (by decide)⟩
  · rw [if_neg hs]
    show tkO b n 1 s s
    exact ⟨by decide, Nat.le_refl _, by omega, fun q => absurd q (by decide), fun q => absurd q (by decide), fun q => absurd q (by decide), fun q => absurd q (by decide)⟩
/-- the bytes of both -/
abbrev byR (c b : Int32) : Prop := 0 ≤ b.toInt ∧ b.toInt ≤ 255 ∧ c.toInt = (if b.toInt < 128 then b.toInt else b.toInt - 256)
theorem byR_eq {c b : Int32} (h : byR c b) (k : Nat) (hk : k < 128) : c = (OfNat.ofNat k : Int32) ↔ b = (OfNat.ofNat k : Int32) := by
  obtain ⟨h1, h2, h3⟩ := h
  rw [i_eq, i_eq, lit_i k (by omega)]
  split at h3 <;> omega
theorem byR_blk {c b : Int32} (h : byR c b) : blkP c ↔ blkP b := by
  unfold blkP
  rw [byR_eq h 32 (by omega), byR_eq h 10 (by omega)]
theorem byR_ltr {c b : Int32} (h : byR c b) : ltrP c ↔ ltrP b := by
  obtain ⟨h1, h2, h3⟩ := h
  unfold ltrP
  split at h3 <;> omega
theorem byR_fig {c b : Int32} (h : byR c b) : figP c ↔ figP b := by
  obtain ⟨h1, h2, h3⟩ := h
  unfold figP
  split at h3 <;> omega
/-! the reference's -/
theorem m_byteAt (d : Nat) {σ : ax_S} {n i : Nat} (hl : σ.1 82 12 = nI n) (hn : n ≤ 500) (hi : i < 2147483648) : cI sO d 207 [.ref 82, .int (nI i)] σ = some (if i < n then σ.1 89 i else -1000000, σ) := by
  refine cI_ev mi_207 ((u_207_82 d σ _).trans ?_) rfl
  rw [hl]
  by_cases h : i < n
  · rw [if_pos (nlt h), gd_t (nI_g (show i < 500 by omega) (by omega)), nI_c (by omega), if_pos h]
  · rw [if_neg (nnl (by omega) hi), if_neg h]
theorem m_isLetter (d : Nat) (σ : ax_S) (x : Int32) : cI sO d 208 [.int x] σ = some (bi (ltrP x), σ) := by
  refine cI_ev mi_208 ((u_208 d σ x).trans ?_) rfl
  by_cases h1 : x < 97
  · rw [if_pos h1, bi_f]
    rw [i_ltn x 97 (by omega)] at h1
    exact fun q => by have := q.1; omega
  · rw [if_neg h1]
    rw [i_ltn x 97 (by omega)] at h1
    by_cases h2 : (122 : Int32) < x
    · rw [if_pos h2, bi_f]
      rw [i_nlt x 122 (by omega)] at h2
      exact fun q => by have := q.2; omega
    · rw [if_neg h2, bi_t]
      rw [i_nlt x 122 (by omega)] at h2
      exact ⟨by omega, by omega⟩
theorem m_isFigure (d : Nat) (σ : ax_S) (x : Int32) : cI sO d 209 [.int x] σ = some (bi (figP x), σ) := by
  refine cI_ev mi_209 ((u_209 d σ x).trans ?_) rfl
  by_cases h1 : x < 48
  · rw [if_pos h1, bi_f]
    rw [i_ltn x 48 (by omega)] at h1
    exact fun q => by have := q.1; omega
  · rw [if_neg h1]
    rw [i_ltn x 48 (by omega)] at h1
    by_cases h2 : (57 : Int32) < x
    · rw [if_pos h2, bi_f]
      rw [i_nlt x 57 (by omega)] at h2
      exact fun q => by have := q.2; omega
    · rw [if_neg h2, bi_t]
      rw [i_nlt x 57 (by omega)] at h2
      exact ⟨by omega, by omega⟩
theorem s_isLetter (d : Nat) (σ : ax_S) (x : Int32) : cI sO d 36 [.int x] σ = some (bi (ltrP x), σ) := by
  refine cI_ev mi_36 ((u_36 d σ x).trans ?_) rfl
  by_cases h1 : x < 97
  · rw [if_pos h1, bi_f]
    rw [i_ltn x 97 (by omega)] at h1
    exact fun q => by have := q.1; omega
  · rw [if_neg h1]
    rw [i_ltn x 97 (by omega)] at h1
    by_cases h2 : (122 : Int32) < x
    · rw [if_pos h2, bi_f]
      rw [i_nlt x 122 (by omega)] at h2
      exact fun q => by have := q.2; omega
    · rw [if_neg h2, bi_t]
      rw [i_nlt x 122 (by omega)] at h2
      exact ⟨by omega, by omega⟩
theorem s_isFigure (d : Nat) (σ : ax_S) (x : Int32) : cI sO d 37 [.int x] σ = some (bi (figP x), σ) := by
  refine cI_ev mi_37 ((u_37 d σ x).trans ?_) rfl
  by_cases h1 : x < 48
  · rw [if_pos h1, bi_f]
    rw [i_ltn x 48 (by omega)] at h1
    exact fun q => by have := q.1; omega
  · rw [if_neg h1]
    rw [i_ltn x 48 (by omega)] at h1
    by_cases h2 : (57 : Int32) < x
    · rw [if_pos h2, bi_f]
      rw [i_nlt x 57 (by omega)] at h2
      exact fun q => by have := q.2; omega
    · rw [if_neg h2, bi_t]
      rw [i_nlt x 57 (by omega)] at h2
      exact ⟨by omega, by omega⟩
theorem s_isBlank (d : Nat) (σ : ax_S) (x : Int32) : cI sO d 35 [.int x] σ = some (bi (blkP x), σ) := by
  refine cI_ev mi_35 ((u_35 d σ x).trans ?_) rfl
  by_cases h1 : x = 32
  · rw [if_pos h1, bi_t (Or.inl h1)]
  · rw [if_neg h1]
    by_cases h2 : x = 10
    · rw [if_pos h2, bi_t (Or.inr h2)]
    · rw [if_neg h2, bi_f (fun q => q.elim h1 h2)]
theorem s_byteAt (d : Nat) {σ : ax_S} {n i : Nat} (hl : σ.1 5 1 = nI n) (hn : n ≤ 500) (hi : i < 2147483648) : cI sO d 34 [.ref 5, .int (nI i)] σ = some (if i < n then σ.1 6 i else -1, σ) := by
  refine cI_ev mi_34 ((u_34_5 d σ _).trans ?_) rfl
  rw [if_neg (show ¬ nI i < 0 from nnl (N := 0) (by omega) hi), hl]
  by_cases h : i < n
  · rw [if_pos (nlt h), gd_t (nI_g (show i < 500 by omega) (by omega)), nI_c (by omega), if_pos h]
  · rw [if_neg (nnl (by omega) hi), if_neg h]
