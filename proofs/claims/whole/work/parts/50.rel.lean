/-! THE TWO HALVES: what the class holds and what the reference holds are the same -/
/-- cards: the class's lands, years, mothers, marks against the reference's one row N -/
def RD (sz : Int32) (la ye mt mk : Nat → Int32) (N : Nat → Int32) (n : Nat) : Prop :=
  n ≤ 12 ∧ sz = nI n ∧ N 0 = nI n ∧ ∀ j, j < n →
    la j = N (15 * j + 1) ∧ ye j = N (15 * j + 2) ∧ mt j = (if N (15 * j + 3) < 0 then -1000000 else N (15 * j + 3)) ∧
    (mt j = -1000000 ∨ ∃ i, i < j ∧ mt j = nI i) ∧
    (∀ k, k < 11 → mk (j * 11 + k) = (if bt (N (15 * j + 4)) k then -1000000 else N (15 * j + 5 + k)) ∧ 0 ≤ (N (15 * j + 5 + k)).toInt ∧ (N (15 * j + 5 + k)).toInt ≤ (if k < 8 then 9999 else if k = 8 then 9 else 99) ∧ (bt (N (15 * j + 4)) k = true → N (15 * j + 5 + k) = 0)) ∧
    (∀ k, 11 ≤ k → k < 32 → bt (N (15 * j + 4)) k = false) ∧
    0 ≤ (la j).toInt ∧ (la j).toInt ≤ 3 ∧ 1800 ≤ (ye j).toInt ∧ (ye j).toInt ≤ 2000
/-- a kitchen that lies at a, as one row -/
def kcb (σ : ax_S) (a i : Nat) : Int32 :=
  if i = 0 then σ.1 a 1 else if i = 1 then σ.1 a 6 else if i < 66 then σ.1 (a + 1 + (i - 2) % 4) ((i - 2) / 4) else if i < 90 then σ.1 (a + 5 + (i - 66) % 3) ((i - 66) / 3) else if i < 98 then σ.1 (a + 8) (i - 90) else if i < 102 then σ.1 a (i - 87) else 0
theorem kcb_8 (σ : ax_S) : kcb σ 8 = kc σ := rfl
/-- kitchens: m measures, p packets -/
def RK (K N : Nat → Int32) (m p : Nat) : Prop :=
  m ≤ 16 ∧ p ≤ 8 ∧ K 0 = nI m ∧ N 0 = nI m ∧ K 1 = nI p ∧ N 1 = nI p ∧
  (∀ i, i < 4 * m → K (2 + i) = N (2 + i)) ∧ (∀ i, i < 3 * p → K (66 + i) = N (66 + i)) ∧ (∀ i, 90 ≤ i → i < 102 → K i = N i ∧ 0 ≤ (N i).toInt ∧ (N i).toInt ≤ (if i < 99 then 9 else if i < 101 then 99 else 9999)) ∧
  (∀ k, k < m → 0 ≤ (N (2 + 4 * k + 2)).toInt ∧ 1 ≤ (N (2 + 4 * k + 3)).toInt ∧ (N (2 + 4 * k + 3)).toInt ≤ 99) ∧
  (∀ k, k < p → 0 ≤ (N (66 + 3 * k)).toInt ∧ (N (66 + 3 * k)).toInt ≤ 7 ∧ 1800 ≤ (N (66 + 3 * k + 1)).toInt ∧ (N (66 + 3 * k + 1)).toInt ≤ 2000 ∧ 1800 ≤ (N (66 + 3 * k + 2)).toInt ∧ (N (66 + 3 * k + 2)).toInt ≤ 2000)
/-- a row: missing, or n items of a lane -/
def RS (la sz it_ : Nat → Int32) (lN mN iN : Nat → Int32) (r : Nat) : Prop :=
  (sz r = -1 ∧ lN r = -1) ∨ ∃ n l, n ≤ 40 ∧ l ≤ 2 ∧ sz r = nI n ∧ mN r = nI n ∧ la r = nI l ∧ lN r = nI l ∧ ∀ i, i < n → it_ (40 * r + i) = iN (40 * r + i)
/-- the tape -/
def RT (sz : Int32) (by_ : Nat → Int32) (t : Int32) (tN : Nat → Int32) (n : Nat) : Prop :=
  n ≤ 500 ∧ sz = nI n ∧ t = nI n ∧ ∀ i, i < n → 0 ≤ (tN i).toInt ∧ (tN i).toInt ≤ 255 ∧ (by_ i).toInt = (if (tN i).toInt < 128 then (tN i).toInt else (tN i).toInt - 256)
/-- the deck and the kitchen that are now -/
def Rd (σ : ax_S) : Prop := ∃ n, RD (σ.1 17 0) (σ.1 18) (σ.1 19) (σ.1 20) (σ.1 21) (σ.1 88) n
def Rk (σ : ax_S) : Prop := (σ.1 8 0 = 0 ∨ σ.1 8 0 = 1) ∧ σ.1 82 7 = σ.1 8 0 ∧ ∃ m p, RK (kcb σ 8) (σ.1 86) m p
def Rs (σ : ax_S) : Prop := ∀ r, r < 8 → RS (σ.1 2) (σ.1 3) (σ.1 4) (σ.1 83) (σ.1 84) (σ.1 85) r
def Rt (σ : ax_S) : Prop := σ.1 82 11 = σ.1 5 2 ∧ ∃ n, RT (σ.1 5 1) (σ.1 6) (σ.1 82 10) (σ.1 89) n
/-- an image: the class's at a (kitchen) and b (cards) -/
def Ri (σ : ax_S) (k a b : Nat) : Prop := (σ.1 a 0 = 0 ∨ σ.1 a 0 = 1) ∧ σ.1 101 k = σ.1 a 0 ∧ (σ.1 a 0 = 1 → σ.1 8 0 = 1 ∧ (∃ m p, RK (kcb σ a) (fun i => σ.1 102 (102 * k + i)) m p) ∧ ∃ n, RD (σ.1 b 0) (σ.1 (b + 1)) (σ.1 (b + 2)) (σ.1 (b + 3)) (σ.1 (b + 4)) (fun i => σ.1 103 (181 * k + i)) n)
def Rtr (σ : ax_S) : Prop := ∃ n, n ≤ 16 ∧ σ.1 80 1 = nI n ∧ σ.1 82 43 = nI n ∧ ∀ i, i < n → σ.1 81 i = σ.1 104 i
def Rf (σ : ax_S) : Prop := σ.1 82 1 = σ.1 0 10
