/-! THE HEAP BY NUMBERS: behind the two constructors the cells stay what they are; only their numbers change -/
def ax_Sh0 : List ((Nat × Nat) ⊕ (Nat × List Nat)) := [.inr (10, [4, 8, 10, 25, 40, 55, 64, 66, 69, 83, 0]), .inr (7, [5, 6, 7]), .inl (0, 8), .inl (0, 8), .inl (0, 320), .inr (9, [9, 0, 0, 0, 1, 0, 0, 0]), .inl (1, 500), .inr (4, [11, 20]), .inr (5, [1, 0, 12, 13, 14, 15, 0, 16, 17, 18, 19, 0, 0, 0, 0]), .inl (0, 16), .inl (0, 16), .inl (0, 16), .inl (0, 16), .inl (0, 8), .inl (0, 8), .inl (0, 8), .inl (0, 8), .inr (1, [0, 21, 22, 23, 24]), .inl (0, 12), .inl (0, 12), .inl (0, 12)]
def ax_Sh1 : List ((Nat × Nat) ⊕ (Nat × List Nat)) := [.inl (0, 132), .inr (4, [26, 35]), .inr (5, [1, 0, 27, 28, 29, 30, 0, 31, 32, 33, 34, 0, 0, 0, 0]), .inl (0, 16), .inl (0, 16), .inl (0, 16), .inl (0, 16), .inl (0, 8), .inl (0, 8), .inl (0, 8), .inl (0, 8), .inr (1, [0, 36, 37, 38, 39]), .inl (0, 12), .inl (0, 12), .inl (0, 12), .inl (0, 132), .inr (4, [41, 50]), .inr (5, [1, 0, 42, 43, 44, 45, 0, 46, 47, 48, 49, 0, 0, 0, 0]), .inl (0, 16), .inl (0, 16), .inl (0, 16)]
def ax_Sh2 : List ((Nat × Nat) ⊕ (Nat × List Nat)) := [.inl (0, 16), .inl (0, 8), .inl (0, 8), .inl (0, 8), .inl (0, 8), .inr (1, [0, 51, 52, 53, 54]), .inl (0, 12), .inl (0, 12), .inl (0, 12), .inl (0, 132), .inr (5, [1, 0, 56, 57, 58, 59, 0, 60, 61, 62, 63, 0, 0, 0, 0]), .inl (0, 16), .inl (0, 16), .inl (0, 16), .inl (0, 16), .inl (0, 8), .inl (0, 8), .inl (0, 8), .inl (0, 8), .inr (6, [0, 0, 65, 0, 1, 1]), .inl (0, 11)]
def ax_Sh3 : List ((Nat × Nat) ⊕ (Nat × List Nat)) := [.inr (8, [67, 68, 0, 0, 0]), .inl (0, 12), .inl (0, 4096), .inr (2, [70, 0, 75, 76, 77, 78, 79, 80, 0, 81, 0, 0, 0, 0, 0, 2, 82]), .inr (3, [0, 71, 72, 73, 74]), .inl (0, 6), .inl (0, 66), .inl (0, 11), .inl (0, 66), .inl (0, 121), .inl (0, 11), .inl (0, 11), .inl (0, 11), .inl (0, 11), .inl (0, 6), .inl (0, 11), .inl (0, 11), .inr (0, [84, 0, 0, 0, 0, 0, 0, 0]), .inl (0, 16), .inr (11, [0, 0, 86, 87, 88, 89, 90, 1, 91, 92, 0, 0, 0, 0, 0, 0, 0, 0, 0, 93, 0, 0, 0, 0, 94, 0, 95, 96, 97, 0, 98, 99, 100, 0, 0, 0, 101, 102, 103, 104, 105, 106, 107, 0]), .inl (0, 8)]
def ax_Sh4 : List ((Nat × Nat) ⊕ (Nat × List Nat)) := [.inl (0, 8), .inl (0, 320), .inl (0, 102), .inl (0, 102), .inl (0, 181), .inl (0, 500), .inl (0, 15), .inl (0, 6), .inl (0, 11), .inl (0, 11), .inl (0, 11), .inl (0, 11), .inl (0, 11), .inl (0, 6), .inl (2, 945), .inl (2, 4096), .inl (0, 12), .inl (2, 2), .inl (0, 204), .inl (0, 362), .inl (0, 16)]
/-- the cells: an array (0 ints, 1 bytes, 2 booleans; length), an object (class, its fields: 0 an int, 1 a boolean, 2 a long, r + 3 the cell r) -/
def ax_Sh : List ((Nat × Nat) ⊕ (Nat × List Nat)) := ax_Sh0 ++ (ax_Sh1 ++ (ax_Sh2 ++ (ax_Sh3 ++ (ax_Sh4))))
/-- the numbers of all cells, and the one long -/
abbrev ax_S : Type := (Nat → Nat → Int32) × Int64
def ax_fl (σ : ax_S) (a k kd : Nat) : Value := match kd with
  | 0 => .int (σ.1 a k)
  | 1 => .int (σ.1 a k)
  | 2 => .long σ.2
  | r + 3 => .ref r
def ax_mc (σ : ax_S) (a : Nat) (q : (Nat × Nat) ⊕ (Nat × List Nat)) : ax_C := match q with
  | .inl p => .inl (p.1, p.2, σ.1 a)
  | .inr p => .inr (p.1, p.2.mapIdx fun k kd => ax_fl σ a k kd)
def ax_mk (σ : ax_S) : ax_H := ax_Sh.mapIdx fun a q => ax_mc σ a q
/-- a cell's numbers put anew -/
def sR (σ : ax_S) (a : Nat) (f : Nat → Int32) : ax_S := (fun x => if x = a then f else σ.1 x, σ.2)
def sI (σ : ax_S) (a k : Nat) (v : Int32) : ax_S := sR σ a (upd (σ.1 a) k v)
def sJ (σ : ax_S) (v : Int64) : ax_S := (σ.1, v)
def ax_sget (σ : ax_S) (a z : Nat) : Option Value := if 4096 ≤ z then (if 1001 ≤ a ∧ a < 1008 then (if z = 4096 then some (.ref (a + 100)) else if z = 4097 then some (.int 0) else none) else none) else match ax_Sh[a]? with
  | some (.inr q) => if q.1 = z / 64 then (match q.2[z % 64]? with
    | some kd => some (ax_fl σ a (z % 64) kd)
    | none => none) else none
  | _ => none
def ax_sput (σ : ax_S) (a z : Nat) (v : Value) : Option ax_S := match ax_Sh[a]? with
  | some (.inr q) => if q.1 = z / 64 then (match q.2[z % 64]?, v with
    | some 0, .int x => some (sI σ a (z % 64) x)
    | some 1, .int x => if x = 0 ∨ x = 1 then some (sI σ a (z % 64) x) else none
    | some 2, .long x => some (sJ σ x)
    | _, _ => none) else none
  | _ => none
/-- in range -/
def inr (i : Int32) (n : Nat) : Prop := 0 ≤ i.toInt ∧ i.toInt < n
def ax_sld (σ : ax_S) (a t : Nat) (i : Int32) : Option Int32 := if 1101 ≤ a then (if a < 1108 ∧ t = 1 ∧ 0 ≤ i.toInt ∧ i.toInt < (ax_SB.getD (a - 1101) []).length then some ((ax_SB.getD (a - 1101) []).getD i.toNatClampNeg 0) else none) else match ax_Sh[a]? with
  | some (.inl q) => if (q.1 = 0 ∧ t = 0 ∨ q.1 = 1 ∧ t = 1 ∨ q.1 = 2 ∧ t = 1) ∧ 0 ≤ i.toInt ∧ i.toInt < q.2 then some (σ.1 a i.toNatClampNeg) else none
  | _ => none
def ax_sst (σ : ax_S) (a t : Nat) (i x : Int32) : Option ax_S := match ax_Sh[a]? with
  | some (.inl q) => if (q.1 = 0 ∧ t = 0 ∨ q.1 = 1 ∧ t = 1 ∨ q.1 = 2 ∧ t = 1) ∧ 0 ≤ i.toInt ∧ i.toInt < q.2 then some (sI σ a i.toNatClampNeg (ax_na q.1 x)) else none
  | _ => none
def ax_sln (_ : ax_S) (a : Nat) : Option Int32 := if 1101 ≤ a then (if a < 1108 then some (Int32.ofNat (ax_SB.getD (a - 1101) []).length) else none) else match ax_Sh[a]? with
  | some (.inl q) => if q.1 < 3 then some (Int32.ofNat q.2) else none
  | _ => none
def ax_scp (σ : ax_S) (a0 : Nat) (sp : Int32) (a : Nat) (dp n : Int32) : Option ax_S := match ax_Sh[a0]? with
  | some (.inl q0) => match ax_Sh[a]? with
    | some (.inl q1) => if q0.1 = 0 ∧ q1.1 = 0 ∧ ¬ sp < 0 ∧ ¬ dp < 0 ∧ ¬ n < 0 ∧ sp.toNatClampNeg + n.toNatClampNeg ≤ q0.2 ∧ dp.toNatClampNeg + n.toNatClampNeg ≤ q1.2 then some (sR σ a (va_cpy (σ.1 a0) (σ.1 a) sp.toNatClampNeg dp.toNatClampNeg n.toNatClampNeg)) else none
    | _ => none
  | _ => none
def ax_skl (_ : ax_S) (a : Nat) : Option Nat := if 1001 ≤ a then (if a < 1008 then some 15 else none) else match ax_Sh[a]? with
  | some (.inr q) => some q.1
  | _ => none
def sO : ax_O ax_S := (ax_sget, ax_sput, ax_sld, ax_sst, ax_sln, fun _ _ => none, fun _ _ _ => none, ax_scp, ax_skl)
theorem ax_mk_at {σ : ax_S} {a : Nat} {q : (Nat × Nat) ⊕ (Nat × List Nat)} (h : ax_Sh[a]? = some q) : (ax_mk σ)[a]? = some (ax_mc σ a q) := by
  unfold ax_mk
  rw [List.getElem?_mapIdx, h]
  rfl
theorem ax_Sh_len : ax_Sh.length = 105 := by decide +kernel
theorem ax_Sh_lt {a : Nat} {q : (Nat × Nat) ⊕ (Nat × List Nat)} (h : ax_Sh[a]? = some q) : a < 105 := by
  rw [← ax_Sh_len]
  exact (List.getElem?_eq_some_iff.mp h).1
def ax_shb (a : Nat) (q : (Nat × Nat) ⊕ (Nat × List Nat)) : Bool := match q with
  | .inl _ => true
  | .inr p => (p.2.mapIdx fun k kd => match kd with
    | 0 => decide (ax_ty p.1 k = .int)
    | 1 => decide (ax_ty p.1 k = .boolean)
    | 2 => decide (ax_ty p.1 k = .long ∧ a = 66 ∧ k = 15)
    | _ => true).all id
theorem ax_Sh_b : ((ax_Sh.mapIdx fun a q => ax_shb a q).all id) = true := by decide +kernel
theorem ax_Sh_kd {a ci k kd : Nat} {ks : List Nat} (h : ax_Sh[a]? = some (.inr (ci, ks))) (hk : ks[k]? = some kd) : (kd = 0 → ax_ty ci k = .int) ∧ (kd = 1 → ax_ty ci k = .boolean) ∧ (kd = 2 → ax_ty ci k = .long ∧ a = 66 ∧ k = 15) := by
  have h1 : ax_shb a (.inr (ci, ks)) = true := by
    have := List.all_eq_true.mp ax_Sh_b (ax_shb a (.inr (ci, ks))) (List.mem_of_getElem? (i := a) (by rw [List.getElem?_mapIdx, h]; rfl))
    exact this
  unfold ax_shb at h1
  have h2 := List.all_eq_true.mp h1 _ (List.mem_of_getElem? (i := k) (by rw [List.getElem?_mapIdx, hk]; rfl))
  refine ⟨fun e => ?_, fun e => ?_, fun e => ?_⟩
  · subst e; exact of_decide_eq_true h2
  · subst e; exact of_decide_eq_true h2
  · subst e; exact of_decide_eq_true h2
theorem ax_mc_ne {σ : ax_S} {a x : Nat} {f : Nat → Int32} (q : (Nat × Nat) ⊕ (Nat × List Nat)) (h : x ≠ a) : ax_mc (sR σ a f) x q = ax_mc σ x q := by
  have e : (sR σ a f).1 x = σ.1 x := if_neg h
  cases q with
  | inl p => show (Sum.inl (p.1, p.2, (sR σ a f).1 x) : ax_C) = .inl (p.1, p.2, σ.1 x); rw [e]
  | inr p =>
    show (Sum.inr (p.1, p.2.mapIdx fun k kd => ax_fl (sR σ a f) x k kd) : ax_C) = .inr (p.1, p.2.mapIdx fun k kd => ax_fl σ x k kd)
    have e2 : (fun k kd => ax_fl (sR σ a f) x k kd) = (fun k kd => ax_fl σ x k kd) := by
      funext k kd
      unfold ax_fl
      split
      · rw [e]
      · rw [e]
      · rfl
      · rfl
    rw [e2]
theorem ax_mk_sR {σ : ax_S} {a : Nat} {q : (Nat × Nat) ⊕ (Nat × List Nat)} {f : Nat → Int32} (h : ax_Sh[a]? = some q) : ax_mk (sR σ a f) = (ax_mk σ).set a (ax_mc (sR σ a f) a q) := by
  unfold ax_mk
  apply List.ext_getElem?
  intro i
  rw [List.getElem?_set, List.getElem?_mapIdx, List.getElem?_mapIdx]
  by_cases hi : a = i
  · subst hi
    rw [if_pos rfl, h, List.length_mapIdx, if_pos (List.getElem?_eq_some_iff.mp h).1]
    rfl
  · rw [if_neg hi]
    cases ax_Sh[i]? with
    | none => rfl
    | some c => exact congrArg some (ax_mc_ne c (fun e => hi e.symm))
theorem ax_fl_set {σ : ax_S} {a k : Nat} {ks : List Nat} {x : Int32} {kd : Nat} (hk : ks[k]? = some kd) (h01 : kd = 0 ∨ kd = 1) : (ks.mapIdx fun j kd => ax_fl (sI σ a k x) a j kd) = (ks.mapIdx fun j kd => ax_fl σ a j kd).set k (.int x) := by
  have e : (sI σ a k x).1 a = upd (σ.1 a) k x := if_pos rfl
  apply List.ext_getElem?
  intro i
  rw [List.getElem?_set, List.getElem?_mapIdx, List.getElem?_mapIdx]
  by_cases hi : k = i
  · subst hi
    rw [if_pos rfl, hk, List.length_mapIdx, if_pos (List.getElem?_eq_some_iff.mp hk).1]
    show some (ax_fl (sI σ a k x) a k kd) = _
    rcases h01 with rfl | rfl
    · show some (Value.int ((sI σ a k x).1 a k)) = _
      rw [e, upd, if_pos rfl]
    · show some (Value.int ((sI σ a k x).1 a k)) = _
      rw [e, upd, if_pos rfl]
  · rw [if_neg hi]
    cases ks[i]? with
    | none => rfl
    | some c =>
      show some (ax_fl (sI σ a k x) a i c) = some (ax_fl σ a i c)
      have e2 : (sI σ a k x).1 a i = σ.1 a i := by rw [e, upd, if_neg (fun q => hi q.symm)]
      unfold ax_fl
      split
      · rw [e2]
      · rw [e2]
      · rfl
      · rfl
theorem sim_get {σ : ax_S} {a z : Nat} {v : Value} (e : ax_sget σ a z = some v) : ax_lget (ax_mk σ) a z = some v := by
  unfold ax_sget at e
  unfold ax_lget
  split at e
  · rename_i hz
    rw [if_pos hz]
    exact e
  · rename_i hz
    rw [if_neg hz]
    split at e
    · rename_i q hq
      rw [ax_mk_at hq]
      split at e
      · rename_i hc
        show (if q.1 = z / 64 then (q.2.mapIdx fun k kd => ax_fl σ a k kd)[z % 64]? else none) = _
        rw [if_pos hc, List.getElem?_mapIdx]
        split at e
        · rename_i kd hk
          rw [hk]
          exact e
        · cases e
      · cases e
    · cases e
theorem sim_put {σ σ' : ax_S} {a z : Nat} {v : Value} (e : ax_sput σ a z v = some σ') : ax_lput (ax_mk σ) a z v = some (ax_mk σ') := by
  unfold ax_sput at e
  split at e
  · rename_i q hq
    obtain ⟨ci, ks⟩ := q
    split at e
    · rename_i hc
      have hc : ci = z / 64 := hc
      subst hc
      have at1 : (ax_mk σ)[a]? = some (.inr (z / 64, ks.mapIdx fun k kd => ax_fl σ a k kd)) := ax_mk_at hq
      unfold ax_lput
      rw [at1]
      simp only
      split at e
      · rename_i x hk
        have hk : ks[z % 64]? = some 0 := hk
        have kd := ax_Sh_kd hq hk
        have ht := kd.1 rfl
        cases e
        rw [if_pos ⟨trivial, by rw [List.length_mapIdx]; exact (List.getElem?_eq_some_iff.mp hk).1, by rw [ht]; rfl, by rw [ht]; rfl, rfl⟩]
        unfold sI
        rw [ax_mk_sR hq]
        show _ = some ((ax_mk σ).set a (.inr (z / 64, ks.mapIdx fun j kd => ax_fl (sI σ a (z % 64) x) a j kd)))
        rw [ax_fl_set hk (Or.inl rfl)]
      · rename_i x hk
        have hk : ks[z % 64]? = some 1 := hk
        have kd := ax_Sh_kd hq hk
        have ht := kd.2.1 rfl
        split at e
        · rename_i h01
          cases e
          rw [if_pos ⟨trivial, by rw [List.length_mapIdx]; exact (List.getElem?_eq_some_iff.mp hk).1, by rw [ht]; rcases h01 with rfl | rfl <;> rfl, by rw [ht]; rcases h01 with rfl | rfl <;> rfl, rfl⟩]
          unfold sI
          rw [ax_mk_sR hq]
          show _ = some ((ax_mk σ).set a (.inr (z / 64, ks.mapIdx fun j kd => ax_fl (sI σ a (z % 64) x) a j kd)))
          rw [ax_fl_set hk (Or.inr rfl)]
        · cases e
      · rename_i x hk
        have hk : ks[z % 64]? = some 2 := hk
        have kd := ax_Sh_kd hq hk
        obtain ⟨ht, ha, hz⟩ := kd.2.2 rfl
        cases e
        rw [if_pos ⟨trivial, by rw [List.length_mapIdx]; exact (List.getElem?_eq_some_iff.mp hk).1, by rw [ht]; rfl, by rw [ht]; rfl, rfl⟩]
        refine congrArg some ?_
        unfold ax_mk
        apply List.ext_getElem?
        intro i
        rw [List.getElem?_set, List.getElem?_mapIdx, List.getElem?_mapIdx]
        by_cases hi : a = i
        · subst hi
          rw [if_pos rfl, hq, List.length_mapIdx, if_pos (List.getElem?_eq_some_iff.mp hq).1]
          show some (Sum.inr (z / 64, (ks.mapIdx fun k kd => ax_fl σ a k kd).set (z % 64) (.long x)) : ax_C) = some (.inr (z / 64, ks.mapIdx fun k kd => ax_fl (sJ σ x) a k kd))
          refine congrArg (fun l => some (Sum.inr (z / 64, l) : ax_C)) ?_
          apply List.ext_getElem?
          intro j
          rw [List.getElem?_set, List.getElem?_mapIdx, List.getElem?_mapIdx]
          by_cases hj : z % 64 = j
          · subst hj
            rw [if_pos rfl, hk, List.length_mapIdx, if_pos (List.getElem?_eq_some_iff.mp hk).1]
            rfl
          · rw [if_neg hj]
            cases hc : ks[j]? with
            | none => rfl
            | some c =>
              show some (ax_fl σ a j c) = some (ax_fl (sJ σ x) a j c)
              unfold ax_fl
              split
              · rfl
              · rfl
              · have := ((ax_Sh_kd hq hc).2.2 rfl).2.2
                omega
              · rfl
        · rw [if_neg hi]
          cases hc : ax_Sh[i]? with
          | none => rfl
          | some c =>
            refine congrArg some ?_
            cases c with
            | inl p => rfl
            | inr p =>
              show (Sum.inr (p.1, p.2.mapIdx fun k kd => ax_fl σ i k kd) : ax_C) = .inr (p.1, p.2.mapIdx fun k kd => ax_fl (sJ σ x) i k kd)
              refine congrArg (fun l => (Sum.inr (p.1, l) : ax_C)) ?_
              apply List.ext_getElem?
              intro j
              rw [List.getElem?_mapIdx, List.getElem?_mapIdx]
              cases hj : p.2[j]? with
              | none => rfl
              | some kk =>
                show some (ax_fl σ i j kk) = some (ax_fl (sJ σ x) i j kk)
                unfold ax_fl
                split
                · rfl
                · rfl
                · have := ((ax_Sh_kd (ci := p.1) (ks := p.2) hc hj).2.2 rfl).2.1
                  omega
                · rfl
      · cases e
    · cases e
  · cases e
theorem sim_ld {xs : Nat → Int32} {n : Nat} {σ : ax_S} {a t : Nat} {i x : Int32} (e : ax_sld σ a t i = some x) : ax_lld xs n (ax_mk σ) a t i = some x := by
  unfold ax_sld at e
  unfold ax_lld
  split at e
  · rename_i ha
    rw [if_neg (by omega), if_pos ha]
    exact e
  · rename_i ha
    split at e
    · rename_i q hq
      have hl := ax_Sh_lt hq
      rw [if_neg (by omega), if_neg ha, ax_mk_at hq]
      exact e
    · cases e
theorem sim_st {σ σ' : ax_S} {a t : Nat} {i x : Int32} (e : ax_sst σ a t i x = some σ') : ax_lst (ax_mk σ) a t i x = some (ax_mk σ') := by
  unfold ax_sst at e
  unfold ax_lst
  split at e
  · rename_i q hq
    rw [ax_mk_at hq]
    split at e
    · rename_i hc
      cases e
      show (if (q.1 = 0 ∧ t = 0 ∨ q.1 = 1 ∧ t = 1 ∨ q.1 = 2 ∧ t = 1) ∧ 0 ≤ i.toInt ∧ i.toInt < q.2 then _ else none) = _
      rw [if_pos hc]
      unfold sI
      rw [ax_mk_sR hq]
      refine congrArg some ?_
      show _ = (ax_mk σ).set a (.inl (q.1, q.2, (sR σ a _).1 a))
      rw [show (sR σ a (upd (σ.1 a) i.toNatClampNeg (ax_na q.1 x))).1 a = upd (σ.1 a) i.toNatClampNeg (ax_na q.1 x) from if_pos rfl]
    · cases e
  · cases e
theorem sim_ln {n : Nat} {σ : ax_S} {a : Nat} {x : Int32} (e : ax_sln σ a = some x) : ax_lln n (ax_mk σ) a = some x := by
  unfold ax_sln at e
  unfold ax_lln
  split at e
  · rename_i ha
    rw [if_neg (by omega), if_pos ha]
    exact e
  · rename_i ha
    split at e
    · rename_i q hq
      have hl := ax_Sh_lt hq
      rw [if_neg (by omega), if_neg ha, ax_mk_at hq]
      exact e
    · cases e
theorem sim_cp {σ σ' : ax_S} {a0 a : Nat} {sp dp n : Int32} (e : ax_scp σ a0 sp a dp n = some σ') : ax_lcp (ax_mk σ) a0 sp a dp n = some (ax_mk σ') := by
  unfold ax_scp at e
  unfold ax_lcp
  split at e
  · rename_i q0 hq0
    rw [ax_mk_at hq0]
    simp only [ax_mc]
    split at e
    · rename_i q1 hq1
      rw [ax_mk_at hq1]
      simp only [ax_mc]
      split at e
      · rename_i hc
        cases e
        rw [if_pos hc]
        rw [ax_mk_sR hq1]
        refine congrArg some ?_
        show _ = (ax_mk σ).set a (.inl (q1.1, q1.2, (sR σ a _).1 a))
        rw [show (sR σ a (va_cpy (σ.1 a0) (σ.1 a) sp.toNatClampNeg dp.toNatClampNeg n.toNatClampNeg)).1 a = va_cpy (σ.1 a0) (σ.1 a) sp.toNatClampNeg dp.toNatClampNeg n.toNatClampNeg from if_pos rfl]
      · cases e
    · cases e
  · cases e
theorem sim_kl {σ : ax_S} {a ci : Nat} (e : ax_skl σ a = some ci) : ax_lkl (ax_mk σ) a = some ci := by
  unfold ax_skl at e
  unfold ax_lkl
  split at e
  · rename_i ha
    rw [if_pos ha]
    exact e
  · rename_i ha
    rw [if_neg ha]
    split at e
    · rename_i q hq
      rw [ax_mk_at hq]
      exact e
    · cases e
