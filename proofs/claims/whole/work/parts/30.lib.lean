/-! THE WRITER'S LIBRARY: turns, what stays, numbers -/
/-- so many turns of a loop -/
def it {α : Type} (f : Nat → α → α) : Nat → α → α
  | 0, s => s
  | k + 1, s => f k (it f k s)
theorem it_0 {α : Type} (f : Nat → α → α) (s : α) : it f 0 s = s := rfl
theorem it_s {α : Type} (f : Nat → α → α) (k : Nat) (s : α) : it f (k + 1) s = f k (it f k s) := rfl
theorem it_congr {α : Type} {f g : Nat → α → α} : ∀ {N : Nat} {s : α}, (∀ k t, k < N → f k t = g k t) → it f N s = it g N s
  | 0, _, _ => rfl
  | N + 1, s, h => by
    rw [it_s, it_s, it_congr (fun k t hk => h k t (Nat.lt_succ_of_lt hk)), h N _ (Nat.lt_succ_self N)]
/-- .. with what holds all along -/
theorem it_inv {α : Type} {f : Nat → α → α} {P : Nat → α → Prop} {N : Nat} {s : α} (h0 : P 0 s) (hs : ∀ k t, k < N → P k t → P (k + 1) (f k t)) : ∀ k, k ≤ N → P k (it f k s)
  | 0, _ => h0
  | k + 1, hk => hs k _ hk (it_inv h0 hs k (Nat.le_of_succ_le hk))
/-- two loops side by side -/
theorem it_two {α β : Type} {f : Nat → α → α} {g : Nat → β → β} {P : Nat → α → β → Prop} {N : Nat} {s : α} {t : β} (h0 : P 0 s t) (hs : ∀ k a b, k < N → P k a b → P (k + 1) (f k a) (g k b)) : ∀ k, k ≤ N → P k (it f k s) (it g k t)
  | 0, _ => h0
  | k + 1, hk => hs k _ _ hk (it_two h0 hs k (Nat.le_of_succ_le hk))
/-- a loop whose turns are f: E k s is the body's loop at turn k with s -/
theorem loop_it {α β : Type} {E : Nat → α → β} {f : Nat → α → α} {N : Nat} (h : ∀ k s, k < N → E k s = E (k + 1) (f k s)) (s : α) : E 0 s = E N (it f N s) := by
  have k1 : ∀ k, k ≤ N → E 0 s = E k (it f k s) := by
    intro k
    induction k with
    | zero => intro _; rfl
    | succ k ih =>
      intro hk
      rw [ih (by omega), h k _ hk]
      rfl
  exact k1 N (Nat.le_refl _)
/-- .. with what holds all along -/
theorem loop_itI {α β : Type} {E : Nat → α → β} {f : Nat → α → α} {N : Nat} {P : Nat → α → Prop} (hs : ∀ k s, k < N → P k s → E k s = E (k + 1) (f k s) ∧ P (k + 1) (f k s)) {s : α} (h0 : P 0 s) : E 0 s = E N (it f N s) ∧ P N (it f N s) := by
  have k1 : ∀ k, k ≤ N → E 0 s = E k (it f k s) ∧ P k (it f k s) := by
    intro k
    induction k with
    | zero => intro _; exact ⟨rfl, h0⟩
    | succ k ih =>
      intro hk
      obtain ⟨h1, h2⟩ := ih (by omega)
      obtain ⟨h3, h4⟩ := hs k _ hk h2
      exact ⟨h1.trans h3, h4⟩
  exact k1 N (Nat.le_refl _)
/-! the heap's numbers -/
theorem sR_1 (σ : ax_S) (a : Nat) (f : Nat → Int32) : (sR σ a f).1 a = f := if_pos rfl
theorem sR_n {σ : ax_S} {a x : Nat} (f : Nat → Int32) (h : x ≠ a) : (sR σ a f).1 x = σ.1 x := if_neg h
theorem sR_2 (σ : ax_S) (a : Nat) (f : Nat → Int32) : (sR σ a f).2 = σ.2 := rfl
theorem sI_1 (σ : ax_S) (a k : Nat) (v : Int32) : (sI σ a k v).1 a k = v := by
  unfold sI
  rw [sR_1]
  exact if_pos rfl
theorem sI_k {σ : ax_S} {a k j : Nat} (v : Int32) (h : j ≠ k) : (sI σ a k v).1 a j = σ.1 a j := by
  unfold sI
  rw [sR_1]
  exact if_neg h
theorem sI_n {σ : ax_S} {a x : Nat} (k : Nat) (v : Int32) (h : x ≠ a) : (sI σ a k v).1 x = σ.1 x := sR_n _ h
theorem sI_2 (σ : ax_S) (a k : Nat) (v : Int32) : (sI σ a k v).2 = σ.2 := rfl
theorem sJ_1 (σ : ax_S) (v : Int64) : (sJ σ v).1 = σ.1 := rfl
theorem sJ_2 (σ : ax_S) (v : Int64) : (sJ σ v).2 = v := rfl
/-- nothing but the cells of the list has changed (and not the long) -/
def sm (A : List Nat) (σ τ : ax_S) : Prop := (∀ a, a ∉ A → τ.1 a = σ.1 a) ∧ τ.2 = σ.2
theorem sm.rf (A : List Nat) (σ : ax_S) : sm A σ σ := ⟨fun _ _ => rfl, rfl⟩
theorem sm.tr {A : List Nat} {σ τ ρ : ax_S} (h1 : sm A σ τ) (h2 : sm A τ ρ) : sm A σ ρ := ⟨fun a ha => (h2.1 a ha).trans (h1.1 a ha), h2.2.trans h1.2⟩
theorem sm.put {A : List Nat} {σ τ : ax_S} {a : Nat} (f : Nat → Int32) (h : sm A σ τ) (ha : a ∈ A) : sm A σ (sR τ a f) := ⟨fun x hx => (sR_n f (fun e => hx (by rw [e]; exact ha))).trans (h.1 x hx), h.2⟩
theorem sm.set {A : List Nat} {σ τ : ax_S} {a : Nat} (k : Nat) (v : Int32) (h : sm A σ τ) (ha : a ∈ A) : sm A σ (sI τ a k v) := h.put _ ha
theorem sm.up {A B : List Nat} {σ τ : ax_S} (h : sm A σ τ) (hs : ∀ a, a ∈ A → a ∈ B) : sm B σ τ := ⟨fun a ha => h.1 a (fun q => ha (hs a q)), h.2⟩
/-! numbers -/
theorem i_lt (x y : Int32) : x < y ↔ x.toInt < y.toInt := Int32.lt_iff_toInt_lt
theorem i_le (x y : Int32) : x ≤ y ↔ x.toInt ≤ y.toInt := Int32.le_iff_toInt_le
theorem i_eq (x y : Int32) : x = y ↔ x.toInt = y.toInt := Int32.toInt_inj.symm
theorem i_rng (x : Int32) : -2147483648 ≤ x.toInt ∧ x.toInt < 2147483648 := by
  have h1 := Int32.minValue_le_toInt x
  have h2 := Int32.toInt_le x
  have e1 : Int32.minValue.toInt = -2147483648 := by decide
  have e2 : Int32.maxValue.toInt = 2147483647 := by decide
  omega
theorem i_add {x y : Int32} (h1 : -2147483648 ≤ x.toInt + y.toInt) (h2 : x.toInt + y.toInt < 2147483648) : (x + y).toInt = x.toInt + y.toInt := by
  rw [Int32.toInt_add]
  exact Int.bmod_eq_of_le (by omega) (by omega)
theorem i_sub {x y : Int32} (h1 : -2147483648 ≤ x.toInt - y.toInt) (h2 : x.toInt - y.toInt < 2147483648) : (x - y).toInt = x.toInt - y.toInt := by
  rw [Int32.toInt_sub]
  exact Int.bmod_eq_of_le (by omega) (by omega)
theorem i_mul {x y : Int32} (h1 : -2147483648 ≤ x.toInt * y.toInt) (h2 : x.toInt * y.toInt < 2147483648) : (x * y).toInt = x.toInt * y.toInt := by
  rw [Int32.toInt_mul]
  exact Int.bmod_eq_of_le (by omega) (by omega)
theorem nI_i {n : Nat} (h : n < 2147483648) : (nI n).toInt = (n : Int) := nI_toInt (by omega)
theorem nI_c {n : Nat} (h : n < 2147483648) : (nI n).toNatClampNeg = n := nI_clamp (by omega)
/-- a number that is not below 0 -/
theorem i_nI {x : Int32} (h : 0 ≤ x.toInt) : ∃ n : Nat, n < 2147483648 ∧ x = nI n ∧ x.toInt = n := by
  have hr := i_rng x
  refine ⟨x.toInt.toNat, by omega, ?_, by omega⟩
  apply Int32.toInt_inj.mp
  rw [nI_i (by omega)]
  omega
theorem lit_nI (n : Nat) : (OfNat.ofNat n : Int32) = nI n := rfl
theorem nI_add1 (k : Nat) : nI k + (1 : Int32) = nI (k + 1) := nI_1 k
theorem b_and1 (b : Prop) [Decidable b] : (if b then (1 : Int32) else 0) &&& 1 = if b then 1 else 0 := by split <;> decide
