/-! TREES: terms and what they come to -/
def evT (f : Int32 → Int32 → Int32) : Tr → (Nat → Int32) → List Int32 → List Int32
  | [], _, s => s
  | x :: xs, V, s => evT f xs V (if x = 200 then (match s with
    | b :: a :: r => f a b :: r
    | s => s) else V x :: s)
theorem evT_app (f : Int32 → Int32 → Int32) (V : Nat → Int32) : ∀ (x y : Tr) (s : List Int32), evT f (x ++ y) V s = evT f y V (evT f x V s)
  | [], _, _ => rfl
  | a :: xs, y, s => by
    show evT f (xs ++ y) V _ = evT f y V (evT f xs V _)
    exact evT_app f V xs y _
abbrev okT (f : Int32 → Int32 → Int32) (x : Tr) (V : Nat → Int32) (v : Int32) : Prop := ∀ s, evT f x V s = v :: s
theorem okT_fk {f : Int32 → Int32 → Int32} {l r : Tr} {V : Nat → Int32} {a b : Int32} (h1 : okT f l V a) (h2 : okT f r V b) : okT f (fkT l r) V (f a b) := fun s => by
  show evT f (l ++ (r ++ [200])) V s = _
  rw [evT_app, h1, evT_app, h2]
  rfl
theorem okT_at (f : Int32 → Int32 → Int32) {n : Nat} (V : Nat → Int32) (h : n ≠ 200) : okT f [n] V (V n) := fun s => by
  show (if n = 200 then _ else V n :: s) = V n :: s
  rw [if_neg h]
theorem okT_1 {f : Int32 → Int32 → Int32} {x : Tr} {V : Nat → Int32} {a b : Int32} (h1 : okT f x V a) (h2 : okT f x V b) : a = b := by
  have := (h1 []).symm.trans (h2 [])
  exact (List.cons.inj this).1
/-- a value only hangs on what the tokens are -/
theorem evT_V {f : Int32 → Int32 → Int32} {V W : Nat → Int32} : ∀ (x : Tr) (s : List Int32), (∀ n, n ∈ x → n ≠ 200 → V n = W n) → evT f x V s = evT f x W s
  | [], _, _ => rfl
  | a :: xs, s, h => by
    show evT f xs V (if a = 200 then _ else V a :: s) = evT f xs W (if a = 200 then _ else W a :: s)
    have e : (if a = 200 then (match s with
      | b :: a :: r => f a b :: r
      | s => s) else V a :: s) = (if a = 200 then (match s with
      | b :: a :: r => f a b :: r
      | s => s) else W a :: s) := by
      by_cases q : a = 200
      · rw [if_pos q, if_pos q]
      · rw [if_neg q, if_neg q, h a (List.mem_cons_self ..) q]
    rw [e]
    exact evT_V xs _ (fun n hn => h n (List.mem_cons_of_mem _ hn))
/-- whether the last fork of a term pays -/
def chT (x : Tr) (V : Nat → Int32) (f : Int32 → Int32 → Int32) : Nat := match evT f x.dropLast V [] with
  | b :: a :: _ => if a &&& b = 0 then 1 else 0
  | _ => 0
theorem chT_fk {f : Int32 → Int32 → Int32} {l r : Tr} {V : Nat → Int32} {a b : Int32} (h1 : okT f l V a) (h2 : okT f r V b) : chT (fkT l r) V f = if a &&& b = 0 then 1 else 0 := by
  unfold chT
  have e : (fkT l r).dropLast = l ++ r := by
    show (l ++ (r ++ [200])).dropLast = l ++ r
    rw [← List.append_assoc, List.dropLast_concat]
  rw [e, evT_app, h1, h2]
/-- a program of forks, run on numbers -/
def rnV (f : Int32 → Int32 → Int32) : List (Nat × Nat × Nat) → (Nat → Int32) → Nat → Int32
  | [], V => V
  | p :: xs, V => rnV f xs (upd V p.1 (f (V p.2.1) (V p.2.2)))
def rnN (f : Int32 → Int32 → Int32) : List (Nat × Nat × Nat) → (Nat → Int32) → Nat
  | [], _ => 0
  | p :: xs, V => (if V p.2.1 &&& V p.2.2 = 0 then 1 else 0) + rnN f xs (upd V p.1 (f (V p.2.1) (V p.2.2)))
theorem rn_sym (f : Int32 → Int32 → Int32) (V0 : Nat → Int32) (P : Nat → Prop) : ∀ (L : List (Nat × Nat × Nat)) (s : Nat → Tr) (V : Nat → Int32), (∀ n, P n → okT f (s n) V0 (V n)) → (∀ p, p ∈ L → P p.2.1 ∧ P p.2.2) → rnN f L V = ((symRun L s).map fun x => chT x V0 f).sum ∧ (symRun L s).length = L.length ∧ (∀ k p x, L[k]? = some p → (symRun L s)[k]? = some x → okT f x V0 ((rnV f (L.take (k + 1)) V) p.1)) ∧ (∀ k, k ≤ L.length → ∀ n, P n → ∃ x, okT f x V0 (rnV f (L.take k) V n))
  | [], s, V, hs, _ => ⟨rfl, rfl, fun k p x h => by simp at h, fun k hk n hn => ⟨s n, by
    have : k = 0 := Nat.le_zero.mp hk
    subst this
    exact hs n hn⟩⟩
  | p :: xs, s, V, hs, hp => by
    obtain ⟨p1, p2⟩ := hp p (List.mem_cons_self ..)
    have o1 := hs _ p1
    have o2 := hs _ p2
    have hs2 : ∀ n, P n → okT f (if n = p.1 then fkT (s p.2.1) (s p.2.2) else s n) V0 (upd V p.1 (f (V p.2.1) (V p.2.2)) n) := fun n hn => by
      by_cases q : n = p.1
      · rw [if_pos q, q, upd_1]
        exact okT_fk o1 o2
      · rw [if_neg q, upd_n _ _ q]
        exact hs n hn
    obtain ⟨r1, r2, r3, r4⟩ := rn_sym f V0 P xs (fun j => if j = p.1 then fkT (s p.2.1) (s p.2.2) else s j) (upd V p.1 (f (V p.2.1) (V p.2.2))) hs2 (fun q hq => hp q (List.mem_cons_of_mem _ hq))
    refine ⟨?_, ?_, fun k q x hk hx => ?_, fun k hk n hn => ?_⟩
    · show _ + rnN f xs _ = (List.map _ (fkT (s p.2.1) (s p.2.2) :: symRun xs _)).sum
      rw [List.map_cons, List.sum_cons, chT_fk o1 o2, r1]
    · show (_ :: symRun xs _).length = _
      rw [List.length_cons, List.length_cons, r2]
    · match k with
      | 0 =>
        have e1 : p = q := by simpa using hk
        have e2 : fkT (s p.2.1) (s p.2.2) = x := by
          have : (fkT (s p.2.1) (s p.2.2) :: symRun xs (fun j => if j = p.1 then fkT (s p.2.1) (s p.2.2) else s j))[0]? = some x := hx
          simpa using this
        subst e1
        rw [← e2]
        show okT f _ V0 ((upd V p.1 (f (V p.2.1) (V p.2.2))) p.1)
        rw [upd_1]
        exact okT_fk o1 o2
      | k + 1 =>
        have hk2 : xs[k]? = some q := by simpa using hk
        have hx2 : (symRun xs (fun j => if j = p.1 then fkT (s p.2.1) (s p.2.2) else s j))[k]? = some x := by
          have : (fkT (s p.2.1) (s p.2.2) :: symRun xs (fun j => if j = p.1 then fkT (s p.2.1) (s p.2.2) else s j))[k + 1]? = some x := hx
          simpa using this
        exact r3 k q x hk2 hx2
    · match k with
      | 0 => exact ⟨s n, hs n hn⟩
      | k + 1 =>
        obtain ⟨x, hx⟩ := r4 k (by simpa using hk) n hn
        exact ⟨x, hx⟩
