/-! THE HEAP OF CELLS: what the small machine's heap is in the machine -/
abbrev ax_C : Type := (Nat × Nat × (Nat → Int32)) ⊕ (Nat × List Value)
abbrev ax_H : Type := List ax_C
/-- what stays as it is in a launch: where our cells begin; the classes' numbers and slots; the classes of int[], byte[], boolean[]; the script (cell, length, ints); the texts' cells, and those of their bytes; a static of the JDK's that is handed on, unread -/
abbrev ax_G : Type := Nat × va_G × (Nat × Nat × Nat) × (Nat × Nat × (Nat → Int32)) × (Nat → Nat) × (Nat → Nat) × Option Nat
def ax_ca (g : ax_G) (t : Nat) : ClassId := match t with
  | 0 => g.2.2.1.1
  | 1 => g.2.2.1.2.1
  | _ => g.2.2.1.2.2
def ax_tt (t : Nat) : FieldType := match t with
  | 0 => .int
  | 1 => .byte
  | _ => .boolean
def ax_tys (g : ax_G) : List (ClassId × FieldType) := [(ax_ca g 0, .int), (ax_ca g 1, .byte), (ax_ca g 2, .boolean)]
def ax_ad (g : ax_G) (a : Nat) : Nat := if a < 1000 then g.1 + a else if a = 1000 then g.2.2.2.1.1 else if a < 1101 then g.2.2.2.2.1 (a - 1001) else g.2.2.2.2.2.1 (a - 1101)
def ax_fm (g : ax_G) : Value := match g.2.2.2.2.2.2 with
  | none => .null
  | some q => .ref q
def ax_vv (g : ax_G) (v : Value) : Value := match v with
  | .ref a => if a < 2000 then .ref (ax_ad g a) else ax_fm g
  | v => v
def ax_ce (g : ax_G) (c : ax_C) : va_E := match c with
  | .inl q => .inl (ax_ca g q.1, q.2.1, .inl q.2.2)
  | .inr q => .inr (q.1, q.2.map (ax_vv g))
def ax_wl (g : ax_G) (h : ax_H) : va_W := h.mapIdx fun i c => (g.1 + i, ax_ce g c)
def ax_A (g : ax_G) : Nat → Prop := fun q => g.1 ≤ q
/-- the slots of a heap, counted -/
def ax_cs (c : ax_C) : Nat := match c with
  | .inl q => q.2.1
  | .inr q => q.2.length
def ax_sz (h : ax_H) : Nat := (h.map ax_cs).sum
def ax_lget (h : ax_H) (a z : Nat) : Option Value := if 4096 ≤ z then (if 1001 ≤ a ∧ a < 1008 then (if z = 4096 then some (.ref (a + 100)) else if z = 4097 then some (.int 0) else none) else none) else match h[a]? with
  | some (.inr q) => if q.1 = z / 64 then q.2[z % 64]? else none
  | _ => none
def ax_rok (v : Value) : Bool := match v with
  | .ref a => decide (a < 2000)
  | _ => true
def ax_lput (h : ax_H) (a z : Nat) (v : Value) : Option ax_H := match h[a]? with
  | some (.inr q) => if q.1 = z / 64 ∧ z % 64 < q.2.length ∧ narrow (ax_ty (z / 64) (z % 64)) v = v ∧ fits (ax_ty (z / 64) (z % 64)) v = true ∧ ax_rok v = true then some (h.set a (.inr (q.1, q.2.set (z % 64) v))) else none
  | _ => none
def ax_lld (xs : Nat → Int32) (n : Nat) (h : ax_H) (a t : Nat) (i : Int32) : Option Int32 := if a = 1000 then (if t = 0 ∧ 0 ≤ i.toInt ∧ i.toInt < n then some (xs i.toNatClampNeg) else none) else if 1101 ≤ a then (if a < 1108 ∧ t = 1 ∧ 0 ≤ i.toInt ∧ i.toInt < (ax_SB.getD (a - 1101) []).length then some ((ax_SB.getD (a - 1101) []).getD i.toNatClampNeg 0) else none) else match h[a]? with
  | some (.inl q) => if (q.1 = 0 ∧ t = 0 ∨ q.1 = 1 ∧ t = 1 ∨ q.1 = 2 ∧ t = 1) ∧ 0 ≤ i.toInt ∧ i.toInt < q.2.1 then some (q.2.2 i.toNatClampNeg) else none
  | _ => none
def ax_na (t : Nat) (x : Int32) : Int32 := match t with
  | 0 => x
  | 1 => x.toInt8.toInt32
  | _ => x &&& 1
def ax_lst (h : ax_H) (a t : Nat) (i x : Int32) : Option ax_H := match h[a]? with
  | some (.inl q) => if (q.1 = 0 ∧ t = 0 ∨ q.1 = 1 ∧ t = 1 ∨ q.1 = 2 ∧ t = 1) ∧ 0 ≤ i.toInt ∧ i.toInt < q.2.1 then some (h.set a (.inl (q.1, q.2.1, upd q.2.2 i.toNatClampNeg (ax_na q.1 x)))) else none
  | _ => none
def ax_lln (n : Nat) (h : ax_H) (a : Nat) : Option Int32 := if a = 1000 then some (Int32.ofNat n) else if 1101 ≤ a then (if a < 1108 then some (Int32.ofNat (ax_SB.getD (a - 1101) []).length) else none) else match h[a]? with
  | some (.inl q) => if q.1 < 3 then some (Int32.ofNat q.2.1) else none
  | _ => none
def ax_lnw (h : ax_H) (ci : Nat) : Option (Nat × ax_H) := match vwCl[ci]? with
  | some q => if h.length < 1000 then some (h.length, h ++ [.inr (ci, (List.range q.2.2).map fun k => defaultValue (ax_ty ci k))]) else none
  | none => none
def ax_at (t : ArrayType) : Nat := match t with
  | .int => 0
  | .byte => 1
  | .boolean => 2
  | _ => 3
def ax_lna (h : ax_H) (t : ArrayType) (n : Int32) : Option (Nat × ax_H) := if ax_at t < 3 ∧ ¬ n < 0 ∧ n.toNatClampNeg ≤ 5000 ∧ h.length < 1000 then some (h.length, h ++ [.inl (ax_at t, n.toNatClampNeg, fun _ => 0)]) else none
def ax_lcp (h : ax_H) (a0 : Nat) (sp : Int32) (a : Nat) (dp n : Int32) : Option ax_H := match h[a0]? with
  | some (.inl q0) => match h[a]? with
    | some (.inl q1) => if q0.1 = 0 ∧ q1.1 = 0 ∧ ¬ sp < 0 ∧ ¬ dp < 0 ∧ ¬ n < 0 ∧ sp.toNatClampNeg + n.toNatClampNeg ≤ q0.2.1 ∧ dp.toNatClampNeg + n.toNatClampNeg ≤ q1.2.1 then some (h.set a (.inl (q1.1, q1.2.1, va_cpy q0.2.2 q1.2.2 sp.toNatClampNeg dp.toNatClampNeg n.toNatClampNeg))) else none
    | _ => none
  | _ => none
def ax_lkl (h : ax_H) (a : Nat) : Option Nat := if 1001 ≤ a then (if a < 1008 then some 15 else none) else match h[a]? with
  | some (.inr q) => some q.1
  | _ => none
/-- the heap of cells: its operations, over a script of n ints xs -/
def ax_lO (xs : Nat → Int32) (n : Nat) : ax_O ax_H := (ax_lget, ax_lput, ax_lld xs n, ax_lst, ax_lln n, ax_lnw, ax_lna, ax_lcp, ax_lkl)
/-- a heap only grows -/
def ax_le (h h' : ax_H) : Prop := h.length ≤ h'.length ∧ ax_sz h ≤ ax_sz h'
theorem ax_le.rf (h : ax_H) : ax_le h h := ⟨Nat.le_refl _, Nat.le_refl _⟩
theorem ax_le.tr {a b c : ax_H} (h1 : ax_le a b) (h2 : ax_le b c) : ax_le a c := ⟨Nat.le_trans h1.1 h2.1, Nat.le_trans h1.2 h2.2⟩
theorem ax_sum_set : ∀ (l : List Nat) (i x y : Nat), l[i]? = some x → (l.set i y).sum + x = l.sum + y
  | [], i, x, y, h => by simp at h
  | a :: l, 0, x, y, h => by
    simp at h
    subst h
    simp only [List.set_cons_zero, List.sum_cons]
    omega
  | a :: l, i + 1, x, y, h => by
    have e := ax_sum_set l i x y (by simpa using h)
    simp only [List.set_cons_succ, List.sum_cons]
    omega
theorem ax_sz_set {h : ax_H} {a : Nat} {c c' : ax_C} (hc : h[a]? = some c) (e : ax_cs c' = ax_cs c) : ax_sz (h.set a c') = ax_sz h := by
  have k := ax_sum_set (h.map ax_cs) a (ax_cs c) (ax_cs c') (by rw [List.getElem?_map, hc]; rfl)
  unfold ax_sz
  rw [List.map_set]
  omega
theorem ax_sz_app (h : ax_H) (c : ax_C) : ax_sz (h ++ [c]) = ax_sz h + ax_cs c := by
  unfold ax_sz
  rw [List.map_append, List.sum_append]
  simp
/-! what the operations say -/
theorem ax_lget_of {h : ax_H} {a z : Nat} {v : Value} (hz : z < 4096) (e : ax_lget h a z = some v) : ∃ fs, h[a]? = some (.inr (z / 64, fs)) ∧ fs[z % 64]? = some v := by
  unfold ax_lget at e
  rw [if_neg (by omega)] at e
  split at e
  · rename_i q hq
    split at e
    · rename_i hz
      exact ⟨q.2, by rw [hq, ← hz], e⟩
    · cases e
  · cases e
theorem ax_lput_of {h h' : ax_H} {a z : Nat} {v : Value} (e : ax_lput h a z v = some h') : ∃ fs, h[a]? = some (.inr (z / 64, fs)) ∧ z % 64 < fs.length ∧ narrow (ax_ty (z / 64) (z % 64)) v = v ∧ fits (ax_ty (z / 64) (z % 64)) v = true ∧ ax_rok v = true ∧ h' = h.set a (.inr (z / 64, fs.set (z % 64) v)) := by
  unfold ax_lput at e
  split at e
  · rename_i q hq
    split at e
    · rename_i hz
      obtain ⟨h1, h2, h3, h4, h5⟩ := hz
      cases e
      exact ⟨q.2, by rw [hq, ← h1], h2, h3, h4, h5, by rw [← h1]⟩
    · cases e
  · cases e
theorem ax_lld_of {xs : Nat → Int32} {n : Nat} {h : ax_H} {a t : Nat} {i x : Int32} (e : ax_lld xs n h a t i = some x) : (a = 1000 ∧ t = 0 ∧ vp_in i n ∧ x = xs i.toNatClampNeg) ∨ (1101 ≤ a ∧ a < 1108 ∧ t = 1 ∧ vp_in i (ax_SB.getD (a - 1101) []).length ∧ x = (ax_SB.getD (a - 1101) []).getD i.toNatClampNeg 0) ∨ (a ≠ 1000 ∧ ∃ ty m f, h[a]? = some (.inl (ty, m, f)) ∧ (ty = 0 ∧ t = 0 ∨ ty = 1 ∧ t = 1 ∨ ty = 2 ∧ t = 1) ∧ vp_in i m ∧ x = f i.toNatClampNeg) := by
  unfold ax_lld at e
  split at e
  · rename_i h1
    split at e
    · rename_i h2
      cases e
      exact Or.inl ⟨h1, h2.1, vp_in_iff.mpr h2.2, rfl⟩
    · cases e
  · rename_i h1
    split at e
    · rename_i h0
      split at e
      · rename_i h2
        exact Or.inr (Or.inl ⟨h0, h2.1, h2.2.1, vp_in_iff.mpr h2.2.2, (Option.some.inj e).symm⟩)
      · cases e
    · split at e
      · rename_i q hq
        split at e
        · rename_i h2
          cases e
          exact Or.inr (Or.inr ⟨h1, q.1, q.2.1, q.2.2, hq, h2.1, vp_in_iff.mpr h2.2, rfl⟩)
        · cases e
      · cases e
theorem ax_lst_of {h h' : ax_H} {a t : Nat} {i x : Int32} (e : ax_lst h a t i x = some h') : ∃ ty m f, h[a]? = some (.inl (ty, m, f)) ∧ (ty = 0 ∧ t = 0 ∨ ty = 1 ∧ t = 1 ∨ ty = 2 ∧ t = 1) ∧ vp_in i m ∧ h' = h.set a (.inl (ty, m, upd f i.toNatClampNeg (ax_na ty x))) := by
  unfold ax_lst at e
  split at e
  · rename_i q hq
    split at e
    · rename_i h2
      cases e
      exact ⟨q.1, q.2.1, q.2.2, hq, h2.1, vp_in_iff.mpr h2.2, rfl⟩
    · cases e
  · cases e
theorem ax_lln_of {n : Nat} {h : ax_H} {a : Nat} {x : Int32} (e : ax_lln n h a = some x) : (a = 1000 ∧ x = Int32.ofNat n) ∨ (1101 ≤ a ∧ a < 1108 ∧ x = Int32.ofNat (ax_SB.getD (a - 1101) []).length) ∨ (a ≠ 1000 ∧ ∃ ty m f, h[a]? = some (.inl (ty, m, f)) ∧ ty < 3 ∧ x = Int32.ofNat m) := by
  unfold ax_lln at e
  split at e
  · rename_i h1
    cases e
    exact Or.inl ⟨h1, rfl⟩
  · rename_i h1
    split at e
    · rename_i h0
      split at e
      · rename_i h2
        exact Or.inr (Or.inl ⟨h0, h2, (Option.some.inj e).symm⟩)
      · cases e
    · split at e
      · rename_i q hq
        split at e
        · rename_i h2
          cases e
          exact Or.inr (Or.inr ⟨h1, q.1, q.2.1, q.2.2, hq, h2, rfl⟩)
        · cases e
      · cases e
theorem ax_lcp_of {h h' : ax_H} {a0 a : Nat} {sp dp n : Int32} (e : ax_lcp h a0 sp a dp n = some h') : ∃ n0 f n1 g, h[a0]? = some (.inl (0, n0, f)) ∧ h[a]? = some (.inl (0, n1, g)) ∧ ¬ sp < 0 ∧ ¬ dp < 0 ∧ ¬ n < 0 ∧ sp.toNatClampNeg + n.toNatClampNeg ≤ n0 ∧ dp.toNatClampNeg + n.toNatClampNeg ≤ n1 ∧ h' = h.set a (.inl (0, n1, va_cpy f g sp.toNatClampNeg dp.toNatClampNeg n.toNatClampNeg)) := by
  unfold ax_lcp at e
  split at e
  · rename_i q0 hq0
    split at e
    · rename_i q1 hq1
      split at e
      · rename_i h2
        obtain ⟨h3, h4, h5, h6, h7, h8, h9⟩ := h2
        cases e
        exact ⟨q0.2.1, q0.2.2, q1.2.1, q1.2.2, by rw [hq0, ← h3], by rw [hq1, ← h4], h5, h6, h7, h8, h9, by rw [← h4]⟩
      · cases e
    · cases e
  · cases e
theorem ax_lkl_of {h : ax_H} {a ci : Nat} (e : ax_lkl h a = some ci) : (1001 ≤ a ∧ a < 1008 ∧ ci = 15) ∨ ∃ fs, h[a]? = some (.inr (ci, fs)) := by
  unfold ax_lkl at e
  split at e
  · rename_i h0
    split at e
    · rename_i h1
      cases e
      exact Or.inl ⟨h0, h1, rfl⟩
    · cases e
  refine Or.inr ?_
  split at e
  · rename_i q hq
    cases e
    exact ⟨q.2, hq⟩
  · cases e
/-! the world of a heap -/
theorem ax_wl_at {g : ax_G} {h : ax_H} {a : Nat} {c : ax_C} (e : h[a]? = some c) : (ax_wl g h)[a]? = some (g.1 + a, ax_ce g c) := by
  unfold ax_wl
  rw [List.getElem?_mapIdx, e]
  rfl
theorem ax_wl_inv {g : ax_G} {h : ax_H} {a : Nat} {q : Nat × va_E} (e : (ax_wl g h)[a]? = some q) : q.1 = g.1 + a := by
  unfold ax_wl at e
  rw [List.getElem?_mapIdx] at e
  cases hc : h[a]? with
  | none => rw [hc] at e; cases e
  | some c => rw [hc] at e; cases e; rfl
theorem ax_wl_set (g : ax_G) (h : ax_H) (a : Nat) (c : ax_C) : (ax_wl g h).set a (g.1 + a, ax_ce g c) = ax_wl g (h.set a c) := by
  unfold ax_wl
  apply List.ext_getElem?
  intro i
  rw [List.getElem?_set, List.getElem?_mapIdx, List.getElem?_mapIdx, List.getElem?_set]
  by_cases hi : a = i
  · subst hi
    simp only [if_true, List.length_mapIdx]
    split <;> simp
  · simp only [if_neg hi]
theorem ax_wl_app (g : ax_G) (h : ax_H) (c : ax_C) : ax_wl g (h ++ [c]) = ax_wl g h ++ [(g.1 + h.length, ax_ce g c)] := by
  unfold ax_wl
  rw [List.mapIdx_append]
  simp
theorem ax_D (g : ax_G) (h : ax_H) : va_D (ax_A g) (ax_wl g h) := by
  refine ⟨fun i j p q hp hq e => ?_, fun k q hk => ?_⟩
  · rw [ax_wl_inv hp, ax_wl_inv hq] at e
    omega
  · rw [ax_wl_inv hk]
    exact Nat.le_add_right _ _
theorem ax_ad_lt {g : ax_G} {a : Nat} (h : a < 1000) : ax_ad g a = g.1 + a := if_pos h
theorem ax_vv_ref {g : ax_G} {a : Nat} (h : a < 2000) : ax_vv g (.ref a) = .ref (ax_ad g a) := if_pos h
theorem ax_nar_vv (g : ax_G) {t : FieldType} {v : Value} (hr : ax_rok v = true) (h : narrow t v = v) : narrow t (ax_vv g v) = ax_vv g v := by
  cases v with
  | ref a =>
    rw [ax_vv_ref (of_decide_eq_true hr)]
    cases t <;> rfl
  | _ => exact h
theorem ax_fit_vv (g : ax_G) {t : FieldType} {v : Value} (hr : ax_rok v = true) (h : fits t v = true) : fits t (ax_vv g v) = true := by
  cases v with
  | ref a =>
    rw [ax_vv_ref (of_decide_eq_true hr)]
    cases t <;> first | exact h | rfl
  | _ => exact h
theorem ax_vv_cat (g : ax_G) (v : Value) : (ax_vv g v).category = v.category := by
  cases v with
  | ref a =>
    unfold ax_vv
    simp only
    split
    · rfl
    · unfold ax_fm
      split <;> rfl
  | _ => rfl
