/-! ONE PLAIN INSTRUCTION of the small machine, in the machine -/
def ax_isN (w : Jvm.Cond) : Bool := match w with
  | .fieldLinkNest _ _ _ _ _ _ => true
  | .methodLinkNest _ _ _ _ => true
  | _ => false
/-- what holds of the launch in a state, whatever our cells hold -/
def ax_E (g : ax_G) (s : State) : Prop := va_K g.2.1 vwCl (ax_tys g) s ∧ (∀ w ∈ lw_tbl, ax_isN w = true → va_Nw w s) ∧ (∀ (j : Nat) (q : String × Nat × String), ax_SK[j]? = some q → vk_R q.1 q.2.1 q.2.2 (g.2.2.2.2.1 j) s) ∧ vk_S 7 (ax_SB.map List.length) ax_SB g.2.2.2.2.1 g.2.2.2.2.2.1 (ax_A g) s s.heap ∧ va_X g.2.2.2.1.1 g.2.2.2.1.2.1 g.2.2.2.1.2.2 s s.heap ∧ g.2.2.2.1.1 < g.1 ∧ va_Z "java/lang/String" "COMPACT_STRINGS" "Z" (.int 1) (ax_A g) s s.heap ∧ va_Z "jdk/internal/util/Preconditions" "SIOOBE_FORMATTER" "Ljava/util/function/BiFunction;" (ax_fm g) (ax_A g) s s.heap
theorem ax_E.eq {g : ax_G} {u U : State} (hv : U.vm = u.vm) (hh : U.heap = u.heap) (h : ax_E g u) : ax_E g U := by
  obtain ⟨h1, h2, h3, h4, h5, h6, h7, h8⟩ := h
  have al : u.vm.Alike U.vm := by rw [hv]; exact Vm.Alike.refl _
  refine ⟨h1.moved al, fun w hw hn => ?_, fun j q hq => (h3 j q hq).same hv, ?_, ?_, h6, ?_, ?_⟩
  · have k := h2 w hw hn
    cases w <;> first | exact va_Nw.same rfl hv.symm k | cases hn
  · rw [hh]
    exact h4.moved al
  · rw [hh]
    exact h5.moved al
  · rw [hh]
    exact h7.moved al
  · rw [hh]
    exact h8.moved al
theorem ax_E.go {g : ax_G} {s U : State} {H : Heap} {locs : List Loc} (h : ax_E g s) (hS : va_S (ax_A g) s.heap H locs) (hW : s.WarmedH U.vm) (hU : U.heap = H) (hb : g.1 ≤ s.heap.size) : ax_E g U := by
  obtain ⟨h1, h2, h3, h4, h5, h6, h7, h8⟩ := h
  refine ⟨h1.moved hW.alike, fun w hw hn => ?_, fun j q hq => (h3 j q hq).warm hW, ?_, ?_, h6, ?_, ?_⟩
  · have k := h2 w hw hn
    cases w <;> first | exact va_Nw.warmF hW k | exact va_Nw.warmM hW k | cases hn
  · rw [hU]
    exact (h4.kept hS.2.1).moved hW.alike
  · rw [hU]
    exact (h5.kept (hS.2.1 _ (Nat.lt_of_lt_of_le h6 hb) (Nat.not_le.mpr h6))).moved hW.alike
  · rw [hU]
    exact (h7.kept hS.2.1).moved hW.alike
  · rw [hU]
    exact (h8.kept hS.2.1).moved hW.alike
/-- a method's body, in the machine: method row r, d calls deep at most -/
def ax_K (g : ax_G) (p : Program) (R : Room) (s : State) (mI : MethodId) (args : Array Value) (meth : Method) (c : Code) (d : Nat) (r : ax_R) : Prop :=
  p.tables.exec = Jvm.exec ∧ c.code = r.2.1 ∧ c.maxLocals = r.2.2.1 ∧ s.vm.findClass (ax_cn r.2.2.2.2.1) = some mI.cls ∧ (∀ w ∈ ax_TB, w.before args s = true) ∧ ax_E g s ∧ (r.1.name = "<init>" → meth.name = "<init>") ∧ meth.sig.returnType = r.2.2.2.1 ∧ meth.locks = false ∧ d + 6 ≤ R.frames ∧ 60 * (d + 8) ≤ R.locals
/-- the heap h of cells in the machine's heap H; so many cells have been made since s -/
def ax_P (g : ax_G) (h : ax_H) (s : State) (H : Heap) (locs : List Loc) (cells : Nat) : Prop := va_P g.2.1 vwCl (ax_wl g h) H ∧ h.length ≤ 1000 ∧ va_S (ax_A g) s.heap H locs ∧ s.heap.size + cells = g.1 + h.length ∧ g.1 ≤ s.heap.size
/-- the places: those that are known hold what they are said to hold -/
def ax_LL (g : ax_G) (ls : Array Slot) (nL : Nat) (L : List Value) : Prop := ls.size = nL ∧ lv_wf ls ∧ L.length = nL ∧ ∀ (i : Nat) (v : Value), L[i]? = some v → v ≠ .null → ls[i]? = some (.val (ax_vv g v))
def ax_lp (g : ax_G) (L : List Value) : List (Nat × Value) := (L.mapIdx fun i v => (i, v)).filterMap fun q => if q.2 = .null then none else some (q.1, ax_vv g q.2)
theorem ax_lp_mem {g : ax_G} {L : List Value} {q : Nat × Value} : q ∈ ax_lp g L ↔ ∃ v, L[q.1]? = some v ∧ v ≠ .null ∧ q.2 = ax_vv g v := by
  unfold ax_lp
  rw [List.mem_filterMap]
  constructor
  · rintro ⟨a, ha, hq⟩
    obtain ⟨i, hi⟩ := List.getElem?_of_mem ha
    rw [List.getElem?_mapIdx] at hi
    cases hl : L[i]? with
    | none => rw [hl] at hi; cases hi
    | some v =>
      rw [hl] at hi
      cases hi
      split at hq
      · cases hq
      · rename_i hn
        cases hq
        exact ⟨v, hl, hn, rfl⟩
  · rintro ⟨v, hl, hn, e⟩
    refine ⟨(q.1, v), List.mem_of_getElem? (i := q.1) (by rw [List.getElem?_mapIdx, hl]; rfl), ?_⟩
    rw [if_neg hn, ← e]
theorem ax_LL.has {g : ax_G} {ls : Array Slot} {nL : Nat} {L : List Value} (h : ax_LL g ls nL L) : lv_has ls nL (ax_lp g L) := by
  refine ⟨h.1, h.2.1, fun q hq => ?_⟩
  obtain ⟨v, h1, h2, h3⟩ := ax_lp_mem.mp hq
  rw [h3]
  exact h.2.2.2 _ _ h1 h2
theorem ax_drp_len (L : List Value) (k : Nat) : (ax_drp L k).length = L.length := by
  cases k with
  | zero => rfl
  | succ j =>
    rw [ax_drp]
    split
    · split
      · simp
      · rfl
    · rfl
theorem ax_drp_at {L : List Value} {k i : Nat} {v : Value} (h : (ax_drp L k)[i]? = some v) (hn : v ≠ .null) : L[i]? = some v ∧ (i + 1 = k → v.category ≠ 2) := by
  cases k with
  | zero => exact ⟨h, fun e => by omega⟩
  | succ j =>
    rw [ax_drp] at h
    by_cases hj : i = j
    · subst hj
      cases hl : L[i]? with
      | none =>
        rw [hl] at h
        simp only at h
        rw [hl] at h
        cases h
      | some w =>
        rw [hl] at h
        simp only at h
        split at h
        · have hlt : i < L.length := (List.getElem?_eq_some_iff.mp hl).1
          rw [List.getElem?_set, if_pos rfl, if_pos hlt] at h
          cases h
          exact absurd rfl hn
        · rename_i hc
          rw [hl] at h
          cases h
          exact ⟨rfl, fun _ => hc⟩
    · refine ⟨?_, fun e => absurd (by omega) hj⟩
      split at h
      · split at h
        · rw [List.getElem?_set, if_neg (fun e => hj e.symm)] at h
          exact h
        · exact h
      · exact h
theorem ax_LL.st1 {g : ax_G} {ls ls1 : Array Slot} {nL : Nat} {L : List Value} {k : Nat} {v : Value} (h : ax_LL g ls nL L) (hn : v ≠ .null) (h1 : lv_has ls1 nL ((k, ax_vv g v) :: (ax_lp g L).filter (fun q => !(q.1 == k) && !(q.1 + 1 == k && q.2.category == 2)))) : ax_LL g ls1 nL (ax_st1 L k v) := by
  refine ⟨h1.1, h1.2.1, by rw [ax_st1, List.length_set, ax_drp_len]; exact h.2.2.1, fun i w hw hwn => ?_⟩
  rw [ax_st1] at hw
  by_cases hi : k = i
  · subst hi
    rw [List.getElem?_set, if_pos rfl] at hw
    split at hw
    · cases hw
      exact h1.2.2 _ List.mem_cons_self
    · cases hw
  · rw [List.getElem?_set, if_neg hi] at hw
    obtain ⟨h2, h3⟩ := ax_drp_at hw hwn
    refine h1.2.2 (i, ax_vv g w) (List.mem_cons_of_mem _ (List.mem_filter.mpr ⟨ax_lp_mem.mpr ⟨w, h2, hwn, rfl⟩, ?_⟩))
    have e1 : (i == k) = false := by simpa using fun e => hi e.symm
    have e2 : (i + 1 == k && (ax_vv g w).category == 2) = false := by
      rw [ax_vv_cat]
      by_cases hk : i + 1 = k
      · simp [h3 hk]
      · simp [hk]
    simp only [e1, e2, Bool.not_false, Bool.and_self]
theorem ax_LL.st2 {g : ax_G} {ls ls1 : Array Slot} {nL : Nat} {L : List Value} {k : Nat} {v : Value} (h : ax_LL g ls nL L) (hn : v ≠ .null) (h1 : lv_has ls1 nL ((k, ax_vv g v) :: (ax_lp g L).filter (fun q => !(q.1 == k) && (!(q.1 == k + 1) && !(q.1 + 1 == k && q.2.category == 2))))) : ax_LL g ls1 nL (ax_st2 L k v) := by
  refine ⟨h1.1, h1.2.1, by rw [ax_st2, List.length_set, List.length_set, ax_drp_len]; exact h.2.2.1, fun i w hw hwn => ?_⟩
  rw [ax_st2] at hw
  by_cases hj : k + 1 = i
  · rw [List.getElem?_set, if_pos hj] at hw
    split at hw
    · cases hw
      exact absurd rfl hwn
    · cases hw
  · rw [List.getElem?_set, if_neg hj] at hw
    by_cases hi : k = i
    · subst hi
      rw [List.getElem?_set, if_pos rfl] at hw
      split at hw
      · cases hw
        exact h1.2.2 _ List.mem_cons_self
      · cases hw
    · rw [List.getElem?_set, if_neg hi] at hw
      obtain ⟨h2, h3⟩ := ax_drp_at hw hwn
      refine h1.2.2 (i, ax_vv g w) (List.mem_cons_of_mem _ (List.mem_filter.mpr ⟨ax_lp_mem.mpr ⟨w, h2, hwn, rfl⟩, ?_⟩))
      have e1 : (i == k) = false := by simpa using fun e => hi e.symm
      have e3 : (i == k + 1) = false := by simpa using fun e => hj e.symm
      have e2 : (i + 1 == k && (ax_vv g w).category == 2) = false := by
        rw [ax_vv_cat]
        by_cases hk : i + 1 = k
        · simp [h3 hk]
        · simp [hk]
      simp only [e1, e2, e3, Bool.not_false, Bool.and_self]
theorem ax_ri_of {α : Type} {st : List Value} {k : Int32 → List Value → Option α} {u : α} (h : ax_ri st k = some u) : ∃ x r, st = .int x :: r ∧ k x r = some u := by
  unfold ax_ri at h
  split at h
  · exact ⟨_, _, rfl, h⟩
  · cases h
theorem ax_rl_of {α : Type} {st : List Value} {k : Int64 → List Value → Option α} {u : α} (h : ax_rl st k = some u) : ∃ x r, st = .long x :: r ∧ k x r = some u := by
  unfold ax_rl at h
  split at h
  · exact ⟨_, _, rfl, h⟩
  · cases h
theorem ax_ra_of {α : Type} {st : List Value} {k : Nat → List Value → Option α} {u : α} (h : ax_ra st k = some u) : ∃ x r, st = .ref x :: r ∧ k x r = some u := by
  unfold ax_ra at h
  split at h
  · exact ⟨_, _, rfl, h⟩
  · cases h
theorem ax_rv_of {α : Type} {st : List Value} {k : Value → List Value → Option α} {u : α} (h : ax_rv st k = some u) : ∃ x r, st = x :: r ∧ k x r = some u := by
  unfold ax_rv at h
  split at h
  · exact ⟨_, _, rfl, h⟩
  · cases h
theorem ax_tl {o : Option Value} {v : Value} {r : List Value} (h : o.toList = v :: r) : o = some v := by
  cases o with
  | none => cases h
  | some w => cases h; rfl
theorem ax_sub7 {a : Nat} (h1 : 1101 ≤ a) (h2 : a < 1108) : a - 1101 < 7 := by omega
theorem ax_len {a len : Nat} (h : a = 0 ∨ a = len) (ha : a ≠ 0) : a = len := h.resolve_left ha
theorem ax_lq_of {α : Type} {l : List (Nat × α × Nat)} {oc i : Nat} {v : α × Nat} (h : ax_lq l oc i = some v) : (oc * 2048 + i, v) ∈ l ∧ (oc * 2048 + i) / 2048 = oc ∧ (oc * 2048 + i) % 2048 = i := by
  unfold ax_lq at h
  split at h
  · exact ⟨ax_lk_mem h, by omega, by omega⟩
  · cases h
theorem ax_Tf_of {oc i : Nat} {q : Nat × Nat} (h : ax_lq ax_Tf oc i = some q) : ∃ c, vwCl[q.1 / 64]? = some c ∧ q.1 % 64 < c.2.2 ∧ (c.2.1 (q.1 % 64)).1 = c.1 ∧ Jvm.Cond.fieldLink (ax_cn oc) i c.1 (c.2.1 (q.1 % 64)).2.1 (c.2.1 (q.1 % 64)).2.2.1 ∈ ax_TB := by
  obtain ⟨h1, h2, h3⟩ := ax_lq_of h
  have k := List.all_eq_true.mp ax_Tf_b _ h1
  unfold ax_bf at k
  rw [h2, h3] at k
  split at k
  · rename_i c hc
    simp only [decide_eq_true_eq] at k
    exact ⟨c, hc, k.1, k.2.1, ax_in k.2.2 rfl⟩
  · cases k
theorem ax_Tg_of {oc i : Nat} {q : Nat × Nat} (h : ax_lq ax_Tg oc i = some q) : ∃ c, vwCl[q.1 / 64]? = some c ∧ q.1 % 64 < c.2.2 ∧ (c.2.1 (q.1 % 64)).1 = c.1 ∧ Jvm.Cond.fieldLinkNest (ax_cn oc) i c.1 (c.2.1 (q.1 % 64)).2.1 (c.2.1 (q.1 % 64)).2.2.1 "CakeCards" ∈ lw_tbl := by
  obtain ⟨h1, h2, h3⟩ := ax_lq_of h
  have k := List.all_eq_true.mp ax_Tg_b _ h1
  unfold ax_bg at k
  rw [h2, h3] at k
  split at k
  · rename_i c hc
    simp only [decide_eq_true_eq] at k
    exact ⟨c, hc, k.1, k.2.1, ax_w_in k.2.2⟩
  · cases k
theorem ax_Tc_of {oc i : Nat} {q : Int × Nat} (h : ax_lq ax_Tc oc i = some q) : Jvm.Cond.constant (ax_cn oc) i (Int32.ofInt q.1) ∈ ax_TB := by
  obtain ⟨h1, h2, h3⟩ := ax_lq_of h
  have k := List.all_eq_true.mp ax_Tc_b _ h1
  unfold ax_bc at k
  rw [h2, h3] at k
  simp only [decide_eq_true_eq] at k
  exact ax_in k rfl
theorem ax_Tl_of {oc i : Nat} {q : Nat × Nat} (h : ax_lq ax_Tl oc i = some q) : Jvm.Cond.constantLong (ax_cn oc) i (ax_LC.getD q.1 0) ∈ ax_TB := by
  obtain ⟨h1, h2, h3⟩ := ax_lq_of h
  have k := List.all_eq_true.mp ax_Tl_b _ h1
  unfold ax_bl at k
  rw [h2, h3] at k
  simp only [decide_eq_true_eq] at k
  exact ax_in k rfl
theorem ax_Ts_of {oc i : Nat} {q : Nat × Nat} (h : ax_lq ax_Ts oc i = some q) : ∃ t, ax_SK[q.1]? = some t ∧ ax_cn oc = t.1 ∧ i = t.2.1 := by
  obtain ⟨h1, h2, h3⟩ := ax_lq_of h
  have k := List.all_eq_true.mp ax_Ts_b _ h1
  unfold ax_bs at k
  rw [h2, h3] at k
  split at k
  · rename_i c hc
    simp only [decide_eq_true_eq] at k
    exact ⟨c, hc, k.2.1, k.2.2.1⟩
  · cases k
theorem ax_To_of {oc i : Nat} {q : Nat × Nat} (h : ax_lq ax_To oc i = some q) : ∃ c, vwCl[q.1]? = some c ∧ Jvm.Cond.classLink (ax_cn oc) i c.1 ∈ ax_TB := by
  obtain ⟨h1, h2, h3⟩ := ax_lq_of h
  have k := List.all_eq_true.mp ax_To_b _ h1
  unfold ax_bo at k
  rw [h2, h3] at k
  split at k
  · rename_i c hc
    simp only [decide_eq_true_eq] at k
    exact ⟨c, hc, ax_in k rfl⟩
  · cases k
theorem ax_Ti_of {oc i : Nat} {q : Nat × Nat} (h : ax_lq ax_Ti oc i = some q) : q.1 ≤ 6 ∧ Jvm.Cond.methodLink (ax_cn oc) i (ax_iN q.1) ∈ ax_TB := by
  obtain ⟨h1, h2, h3⟩ := ax_lq_of h
  have k := List.all_eq_true.mp ax_Ti_b _ h1
  unfold ax_bi at k
  rw [h2, h3] at k
  simp only [decide_eq_true_eq] at k
  exact ⟨k.1, ax_in k.2 rfl⟩
theorem ax_Tx_of {oc i : Nat} {q : Nat × Nat} (h : ax_lq ax_Tx oc i = some q) : q.1 ≤ 3 ∧ Jvm.Cond.fieldLink (ax_cn oc) i (ax_xf q.1).1 (ax_xf q.1).2.1 (ax_xf q.1).2.2 ∈ ax_TB := by
  obtain ⟨h1, h2, h3⟩ := ax_lq_of h
  have k := List.all_eq_true.mp ax_Tx_b _ h1
  unfold ax_bx at k
  rw [h2, h3] at k
  simp only [decide_eq_true_eq] at k
  exact ⟨k.1, ax_in k.2 rfl⟩
theorem ax_ow_in {w : Jvm.Cond} (h : w ∈ ax_ow) : w ∈ ax_TB := by
  have k := List.all_eq_true.mp ax_ow_b w h
  simp only [Bool.and_eq_true, decide_eq_true_eq] at k
  exact List.mem_filter.mpr k
theorem ax_cI_in {ci : Nat} {q : vw_C} (h : vwCl[ci]? = some q) : Jvm.Cond.instantiable q.1 q.2.2 ∈ ax_TB ∧ Jvm.Cond.initialized q.1 ∈ ax_TB := by
  have k := List.all_eq_true.mp ax_cI_b q (List.mem_of_getElem? h)
  unfold ax_bI at k
  simp only [decide_eq_true_eq] at k
  exact ⟨List.mem_filter.mpr ⟨k.1, rfl⟩, List.mem_filter.mpr ⟨k.2, rfl⟩⟩
section AXS
variable {g : ax_G} {p : Program} {l : Launch} {e : Env} {R : Room} {s : State} {mI : MethodId} {args : Array Value} {below : List Frame} {meth : Method} {c : Code} {d : Nat} {r : ax_R} {H : Heap} {locs : List Loc} {cells slots : Nat} {Q : State → Prop}
theorem ax_sized {gg : JFrame} (k : H.size ≤ s.heap.size + cells → W p l e R s mI args below meth c H locs cells slots Q gg) : W p l e R s mI args below meth c H locs cells slots Q gg := by
  intro T hT X
  exact k (by rw [← hT]; exact X.heapSize) T hT X
theorem ax_P.size {h : ax_H} (hP : ax_P g h s H locs cells) (hz : H.size ≤ s.heap.size + cells) : H.size = g.1 + h.length := by
  obtain ⟨h1, h2, h3, h4, h5⟩ := hP
  refine Nat.le_antisymm (by omega) ?_
  rcases Nat.eq_zero_or_pos h.length with q | q
  · have := h3.1
    omega
  · have hl : h.length - 1 < h.length := by omega
    have e1 := ax_wl_at (g := g) (List.getElem?_eq_getElem hl)
    have e2 := (h1 _ _ e1).lt
    simp only at e2
    omega
theorem ax_P.lt {h : ax_H} (hP : ax_P g h s H locs cells) {a : Nat} {x : ax_C} (ha : h[a]? = some x) : a < 1000 := Nat.lt_of_lt_of_le (List.getElem?_eq_some_iff.mp ha).1 hP.2.1
theorem ax_P.put {h : ax_H} (hP : ax_P g h s H locs cells) {a : Nat} {x y : ax_C} (ha : h[a]? = some x) {H1 : Heap} {locs1 : List Loc} (h1 : va_P g.2.1 vwCl ((ax_wl g h).set a (g.1 + a, ax_ce g y)) H1) (h2 : va_S (ax_A g) s.heap H1 locs1) : ax_P g (h.set a y) s H1 locs1 cells := by
  refine ⟨by rw [← ax_wl_set]; exact h1, by rw [List.length_set]; exact hP.2.1, h2, by rw [List.length_set]; exact hP.2.2.2.1, hP.2.2.2.2⟩
theorem ax_ms_ref {a : Nat} {st : List Value} (ha : a < 1000) : (Value.ref a :: st).map (ax_vv g) = .ref (g.1 + a) :: st.map (ax_vv g) := by
  rw [List.map_cons]
  rw [ax_vv_ref (by omega), ax_ad_lt ha]
theorem ax_msum {st : List Value} : ((st.map (ax_vv g)).map fun v => v.category).sum = (st.map fun v => v.category).sum := by
  rw [List.map_map]
  congr 1
  apply List.map_congr_left
  intro v _
  exact ax_vv_cat g v
set_option maxHeartbeats 2000000 in
theorem ax_intrS (hx : p.tables.exec = Jvm.exec) (hb : c.code = r.2.1) {ls : Array Slot} (hcl : c.maxLocals = ls.size) (hown : s.vm.findClass (ax_cn r.2.2.2.2.1) = some mI.cls) (hts : ∀ w ∈ ax_TB, w.before args s = true) (hE : ax_E g s) (hRf : d + 6 ≤ R.frames) (hRl : 60 * (d + 8) ≤ R.locals) {pc i j : Nat} (hI : decode r.2.1 pc = .ok (.invokestatic i, 3)) (hw : Jvm.Cond.methodLink (ax_cn r.2.2.2.2.1) i (ax_iN j) ∈ ax_TB) (hj : j ≤ 3) {L st : List Value} {h : ax_H} {u : Nat × List Value × List Value × ax_H} (hu : ax_step (ax_lO g.2.2.2.1.2.2 g.2.2.2.1.2.1) (.invokedynamic j) (pc + 3) L st h = some u) (hP : ax_P g h s H locs cells) (hcr : cells ≤ R.cells) (hsr : slots ≤ R.slots) (hL : ax_LL g ls r.2.2.1 L)
    (k0 : ∀ (pc' : Nat) (L' st' : List Value) (ls1 : Array Slot), u = (pc', L', st', h) → ax_LL g ls1 r.2.2.1 L' → W p l e R s mI args below meth c H locs cells slots Q (F0 mI pc' ls1 (st'.map (ax_vv g))))
    (k1 : ∀ (pc' : Nat) (st' : List Value) (h' : ax_H) (H1 : Heap) (locs1 : List Loc), u = (pc', L, st', h') → h'.length = h.length → ax_sz h' = ax_sz h → ax_P g h' s H1 locs1 cells → W p l e R s mI args below meth c H1 locs1 cells slots Q (F0 mI pc' ls (st'.map (ax_vv g)))) :
    W p l e R s mI args below meth c H locs cells slots Q (F0 mI pc ls (st.map (ax_vv g))) := by
  match j, hj, hw, hu with
  | 0, _, hw, hu =>
    obtain ⟨y, r1, rfl, h1⟩ := ax_ri_of hu
    obtain ⟨x, r2, rfl, h2⟩ := ax_ri_of h1
    split at h2
    · rename_i hst
      cases h2
      exact va_mmax hx hb hcl hown (hts _ hw) (hts _ (ax_ow_in (List.mem_of_getElem? (i := 3) rfl))) (hts _ (ax_ow_in (List.mem_of_getElem? (i := 6) rfl))) (hts _ (ax_ow_in (List.mem_of_getElem? (i := 7) rfl))) (by omega) (by rw [ax_msum]; omega) hcr hsr hI (k0 _ _ _ _ rfl hL)
    · cases h2
  | 1, _, hw, hu =>
    obtain ⟨y, r1, rfl, h1⟩ := ax_ri_of hu
    obtain ⟨x, r2, rfl, h2⟩ := ax_ri_of h1
    split at h2
    · rename_i hst
      cases h2
      exact va_mmin hx hb hcl hown (hts _ hw) (hts _ (ax_ow_in (List.mem_of_getElem? (i := 4) rfl))) (hts _ (ax_ow_in (List.mem_of_getElem? (i := 6) rfl))) (hts _ (ax_ow_in (List.mem_of_getElem? (i := 8) rfl))) (by omega) (by rw [ax_msum]; omega) hcr hsr hI (k0 _ _ _ _ rfl hL)
    · cases h2
  | 2, _, hw, hu =>
    obtain ⟨x, r1, rfl, h2⟩ := ax_ri_of hu
    split at h2
    · rename_i hst
      cases h2
      exact va_mabs hx hb hcl hown (hts _ hw) (hts _ (ax_ow_in (List.mem_of_getElem? (i := 5) rfl))) (hts _ (ax_ow_in (List.mem_of_getElem? (i := 6) rfl))) (hts _ (ax_ow_in (List.mem_of_getElem? (i := 9) rfl))) (by omega) (by rw [ax_msum]; omega) hcr hsr hI (k0 _ _ _ _ rfl hL)
    · cases h2
  | 3, _, hw, hu =>
    obtain ⟨n, r1, rfl, h1⟩ := ax_ri_of hu
    obtain ⟨dp, r2, rfl, h2⟩ := ax_ri_of h1
    obtain ⟨a, r3, rfl, h3⟩ := ax_ra_of h2
    obtain ⟨sp, r4, rfl, h4⟩ := ax_ri_of h3
    obtain ⟨a0, r5, rfl, h5⟩ := ax_ra_of h4
    split at h5
    · rename_i hst
      obtain ⟨h9, hv, rfl⟩ := Option.map_eq_some_iff.mp h5
      obtain ⟨n0, f, n1, f1, e0, e1, q1, q2, q3, q4, q5, rfl⟩ := ax_lcp_of hv
      have hsz : ax_sz (h.set a (.inl (0, n1, va_cpy f f1 sp.toNatClampNeg dp.toNatClampNeg n.toNatClampNeg))) = ax_sz h := ax_sz_set e1 rfl
      rw [List.map_cons, List.map_cons, ax_ms_ref (hP.lt e1), List.map_cons, ax_ms_ref (hP.lt e0)]
      have hnf : nativeFrameWords "java/lang/System" "arraycopy" 5 ≤ 100 := by decide
      have hlo : (((r5.map (ax_vv g)).map fun v => v.category).sum + (nativeFrameWords "java/lang/System" "arraycopy" 5 + 11)) ≤ R.locals := by rw [ax_msum]; omega
      exact va_copyi hx hb hcl hown (hts _ hw) (hts _ (ax_ow_in (List.mem_of_getElem? (i := 10) rfl))) (hts _ (ax_ow_in (List.mem_of_getElem? (i := 11) rfl))) (hts _ (ax_ow_in (List.mem_of_getElem? (i := 12) rfl))) hE.1 hP.1 (ax_D g h) hP.2.2.1 a0 a 0 0 (ax_wl_at e0) (ax_wl_at e1) rfl rfl rfl q1 q2 q3 q4 q5 (fun _ _ => rfl) (by omega) hlo hI (fun H1 locs1 P1 _ S1 => k1 _ _ _ H1 locs1 rfl (List.length_set ..) hsz (hP.put e1 P1 S1))
    · cases h5
set_option maxHeartbeats 2000000 in
theorem ax_intrI (hx : p.tables.exec = Jvm.exec) (hb : c.code = r.2.1) {ls : Array Slot} (hcl : c.maxLocals = ls.size) (hown : s.vm.findClass (ax_cn r.2.2.2.2.1) = some mI.cls) (hts : ∀ w ∈ ax_TB, w.before args s = true) (hE : ax_E g s) (hRf : d + 6 ≤ R.frames) (hRl : 60 * (d + 8) ≤ R.locals) {pc i j : Nat} (hI : decode r.2.1 pc = .ok (.invokespecial i, 3)) (hw : Jvm.Cond.methodLink (ax_cn r.2.2.2.2.1) i (ax_iN j) ∈ ax_TB) (hj : j = 6) {L st : List Value} {h : ax_H} {u : Nat × List Value × List Value × ax_H} (hu : ax_step (ax_lO g.2.2.2.1.2.2 g.2.2.2.1.2.1) (.invokedynamic j) (pc + 3) L st h = some u) (hP : ax_P g h s H locs cells) (hcr : cells ≤ R.cells) (hsr : slots ≤ R.slots) (hL : ax_LL g ls r.2.2.1 L)
    (k0 : ∀ (pc' : Nat) (L' st' : List Value) (ls1 : Array Slot), u = (pc', L', st', h) → ax_LL g ls1 r.2.2.1 L' → W p l e R s mI args below meth c H locs cells slots Q (F0 mI pc' ls1 (st'.map (ax_vv g))))
    (k1 : ∀ (pc' : Nat) (st' : List Value) (h' : ax_H) (H1 : Heap) (locs1 : List Loc), u = (pc', L, st', h') → h'.length = h.length → ax_sz h' = ax_sz h → ax_P g h' s H1 locs1 cells → W p l e R s mI args below meth c H1 locs1 cells slots Q (F0 mI pc' ls (st'.map (ax_vv g)))) :
    W p l e R s mI args below meth c H locs cells slots Q (F0 mI pc ls (st.map (ax_vv g))) := by
  subst hj
  obtain ⟨a, r1, rfl, h2⟩ := ax_ra_of hu
  split at h2
  · rename_i hst
    cases h2
    have hst2 : (((r1.map (ax_vv g)).map fun v => v.category).sum) ≤ 8 := by rw [ax_msum]; exact hst.1
    rw [List.map_cons, ax_vv_ref hst.2]
    have hlo : 2 * (F0 mI pc ls (.ref (ax_ad g a) :: r1.map (ax_vv g))).monitorRoom + ((r1.map (ax_vv g)).map fun v => v.category).sum ≤ 8 := lv_room hst2
    have k := k0 _ _ _ ls rfl hL
    refine W.objInit (g := F0 mI pc ls (.ref (ax_ad g a) :: r1.map (ax_vv g))) (a := ax_ad g a) (rest := r1.map (ax_vv g)) hx hb hown (hts _ hw) (hts _ (ax_ow_in (List.mem_of_getElem? (i := 13) rfl))) (hts _ (ax_ow_in (List.mem_of_getElem? (i := 14) rfl))) rfl hcl.symm rfl hI (by omega) (by omega) ?_
    exact k
  · cases h2
set_option maxHeartbeats 4000000 in
set_option maxRecDepth 20000 in
theorem ax_go1 (C : ax_K g p R s mI args meth c d r) {I J : Instr} {pc len : Nat} (hI : decode r.2.1 pc = .ok (I, len)) (hln : ax_ln I = 0 ∨ ax_ln I = len) (hJ : ax_nrm r.2.2.2.2.1 pc I = some J) (hfin : ax_fin r J = true) (hkd : ax_kd J = 0) {L st : List Value} {h : ax_H} {u : Nat × List Value × List Value × ax_H} (hu : ax_step (ax_lO g.2.2.2.1.2.2 g.2.2.2.1.2.1) J (pc + len) L st h = some u) {ls : Array Slot} (hP : ax_P g h s H locs cells) (hL : ax_LL g ls r.2.2.1 L) (hc : cells + (u.2.2.2.length - h.length) ≤ R.cells) (hs : slots + (ax_sz u.2.2.2 - ax_sz h) ≤ R.slots)
    (kk : ∀ (H1 : Heap) (locs1 : List Loc) (ls1 : Array Slot), ax_P g u.2.2.2 s H1 locs1 (cells + (u.2.2.2.length - h.length)) → ax_LL g ls1 r.2.2.1 u.2.1 → W p l e R s mI args below meth c H1 locs1 (cells + (u.2.2.2.length - h.length)) (slots + (ax_sz u.2.2.2 - ax_sz h)) Q (F0 mI u.1 ls1 (u.2.2.1.map (ax_vv g)))) :
    W p l e R s mI args below meth c H locs cells slots Q (F0 mI pc ls (st.map (ax_vv g))) := by
  obtain ⟨hx, hb, hml, hown, hts, hE, hnm, hrt, hlk, hRf, hRl⟩ := C
  have hK := hE.1
  have hS := hP.2.2.1
  have hA : ∀ q : Nat, s.heap.size ≤ q → ax_A g q := fun q hq => Nat.le_trans hP.2.2.2.2 hq
  have hcl : c.maxLocals = ls.size := hml.trans hL.1.symm
  have hcr : cells ≤ R.cells := by omega
  have hsr : slots ≤ R.slots := by omega
  have k0 : ∀ (pc' : Nat) (L' st' : List Value) (ls1 : Array Slot), u = (pc', L', st', h) → ax_LL g ls1 r.2.2.1 L' → W p l e R s mI args below meth c H locs cells slots Q (F0 mI pc' ls1 (st'.map (ax_vv g))) := by
    intro pc' L' st' ls1 eu hl
    subst eu
    have k := kk H locs ls1 (by simp only [Nat.sub_self, Nat.add_zero]; exact hP) hl
    simp only [Nat.sub_self, Nat.add_zero] at k
    exact k
  have k1 : ∀ (pc' : Nat) (st' : List Value) (h' : ax_H) (H1 : Heap) (locs1 : List Loc), u = (pc', L, st', h') → h'.length = h.length → ax_sz h' = ax_sz h → ax_P g h' s H1 locs1 cells → W p l e R s mI args below meth c H1 locs1 cells slots Q (F0 mI pc' ls (st'.map (ax_vv g))) := by
    intro pc' st' h' H1 locs1 eu e1 e2 hl
    subst eu
    have k := kk H1 locs1 ls (by simp only [e1, Nat.sub_self, Nat.add_zero]; exact hl) hL
    simp only [e1, e2, Nat.sub_self, Nat.add_zero] at k
    exact k
  cases I with
  | getstatic i =>
    rw [ax_nrm] at hJ
    obtain rfl : 3 = len := ax_len hln (by decide)
    obtain ⟨q, hq, h9⟩ := Option.bind_eq_some_iff.mp hJ
    split at h9
    · rename_i hj
      cases h9
      have hw := (ax_Tx_of hq).2
      rcases hj with hj | hj
      · rw [hj] at hu hw
        cases hu
        exact va_gets hx hb hE.2.2.2.2.2.2.1 hS hown (hts _ hw) (fun y hy => hy) hI (k0 _ _ _ _ rfl hL)
      · rw [hj] at hu hw
        cases hu
        exact va_gets hx hb hE.2.2.2.2.2.2.2 hS hown (hts _ hw) (fun y hy => hy) hI (k0 _ _ _ _ rfl hL)
    · cases h9
  | iconst n =>
    cases hJ
    obtain rfl : 1 = len := ax_len hln (by decide)
    cases hu
    exact lv_iconst hx hb hI rfl (k0 _ _ _ _ rfl hL)
  | bipush n =>
    cases hJ
    obtain rfl : 2 = len := ax_len hln (by decide)
    cases hu
    exact lv_bipush hx hb hI (Int32.ofInt_toInt _).symm (k0 _ _ _ _ rfl hL)
  | sipush n =>
    cases hJ
    obtain rfl : 3 = len := ax_len hln (by decide)
    cases hu
    exact lv_sipush hx hb hI (Int32.ofInt_toInt _).symm (k0 _ _ _ _ rfl hL)
  | lconst n =>
    cases hJ
    obtain rfl : 1 = len := ax_len hln (by decide)
    cases hu
    exact lv_lconst hx hb hI rfl (k0 _ _ _ _ rfl hL)
  | ldc i =>
    rw [ax_nrm] at hJ
    obtain rfl : 2 = len := ax_len hln (by decide)
    split at hJ
    · rename_i q hq
      cases hJ
      cases hu
      exact lv_ldc hx hb hown (hts _ (ax_Tc_of hq)) hI (k0 _ _ _ _ rfl hL)
    · obtain ⟨q, hq, rfl⟩ := Option.map_eq_some_iff.mp hJ
      cases hu
      obtain ⟨t, ht, ho, hi⟩ := ax_Ts_of hq
      subst hi
      have hZ := hE.2.2.1 _ _ ht
      rw [← ho] at hZ
      refine va_ldcS hx hb hown hZ hI ?_
      have k := k0 _ _ _ ls rfl hL
      rw [List.map_cons] at k
      have e1 : ax_vv g (.ref (1001 + q.1)) = .ref (g.2.2.2.2.1 q.1) := by
        have hj : q.1 < 7 := (List.getElem?_eq_some_iff.mp ht).1
        rw [ax_vv_ref (by omega)]
        unfold ax_ad
        rw [if_neg (by omega), if_neg (by omega), if_pos (by omega), Nat.add_sub_cancel_left]
      rw [e1] at k
      exact k
  | ldc_w i =>
    rw [ax_nrm] at hJ
    obtain rfl : 3 = len := ax_len hln (by decide)
    obtain ⟨q, hq, rfl⟩ := Option.map_eq_some_iff.mp hJ
    cases hu
    exact lv_ldcw hx hb hown (hts _ (ax_Tc_of hq)) hI (k0 _ _ _ _ rfl hL)
  | ldc2_w i =>
    rw [ax_nrm] at hJ
    obtain rfl : 3 = len := ax_len hln (by decide)
    obtain ⟨q, hq, rfl⟩ := Option.map_eq_some_iff.mp hJ
    cases hu
    exact lv_ldc2 hx hb hown (hts _ (ax_Tl_of hq)) hI (k0 _ _ _ _ rfl hL)
  | aload k =>
    cases hJ
    obtain rfl : 2 = len := ax_len hln (by decide)
    obtain ⟨x, r1, e1, h1⟩ := ax_ra_of hu
    split at h1
    · rename_i hx2
      cases h1
      have k := k0 _ _ _ ls rfl hL
      rw [List.map_cons, ax_vv_ref hx2] at k
      exact lv_aload hx hb hI (by rw [← ax_vv_ref hx2]; exact hL.2.2.2 _ _ (ax_tl e1) (fun q => by cases q)) k
    · cases h1
  | astore k =>
    cases hJ
    obtain rfl : 2 = len := ax_len hln (by decide)
    obtain ⟨x, r1, rfl, h1⟩ := ax_ra_of hu
    split at h1
    · rename_i hk
      cases h1
      rw [List.map_cons, ax_vv_ref hk.2]
      exact lv_astore hx hb hI hL.has (by rw [← hL.2.2.1]; exact hk.1) rfl (fun ls1 q => k0 _ _ _ _ rfl (hL.st1 (fun z => by cases z) (by rw [ax_vv_ref hk.2]; exact q)))
    · cases h1
  | aload_n k =>
    cases hJ
    obtain rfl : 1 = len := ax_len hln (by decide)
    obtain ⟨x, r1, e1, h1⟩ := ax_ra_of hu
    split at h1
    · rename_i hx2
      cases h1
      have k := k0 _ _ _ ls rfl hL
      rw [List.map_cons, ax_vv_ref hx2] at k
      exact lv_aload_n hx hb hI rfl (by rw [← ax_vv_ref hx2]; exact hL.2.2.2 _ _ (ax_tl e1) (fun q => by cases q)) k
    · cases h1
  | astore_n k =>
    cases hJ
    obtain rfl : 1 = len := ax_len hln (by decide)
    obtain ⟨x, r1, rfl, h1⟩ := ax_ra_of hu
    split at h1
    · rename_i hk
      cases h1
      rw [List.map_cons, ax_vv_ref hk.2]
      exact lv_astore_n hx hb hI rfl hL.has (by rw [← hL.2.2.1]; exact hk.1) rfl (fun ls1 q => k0 _ _ _ _ rfl (hL.st1 (fun z => by cases z) (by rw [ax_vv_ref hk.2]; exact q)))
    · cases h1
  | iload k =>
    cases hJ
    obtain rfl : 2 = len := ax_len hln (by decide)
    obtain ⟨x, r1, e1, h1⟩ := ax_ri_of hu
    cases h1
    exact lv_iload hx hb hI (hL.2.2.2 _ _ (ax_tl e1) (fun q => by cases q)) (k0 _ _ _ _ rfl hL)
  | iload_n k =>
    cases hJ
    obtain rfl : 1 = len := ax_len hln (by decide)
    obtain ⟨x, r1, e1, h1⟩ := ax_ri_of hu
    cases h1
    exact lv_iload_n hx hb hI rfl (hL.2.2.2 _ _ (ax_tl e1) (fun q => by cases q)) (k0 _ _ _ _ rfl hL)
  | lload k =>
    cases hJ
    obtain rfl : 2 = len := ax_len hln (by decide)
    obtain ⟨x, r1, e1, h1⟩ := ax_rl_of hu
    cases h1
    exact lv_lload hx hb hI (hL.2.2.2 _ _ (ax_tl e1) (fun q => by cases q)) (k0 _ _ _ _ rfl hL)
  | lload_n k =>
    cases hJ
    obtain rfl : 1 = len := ax_len hln (by decide)
    obtain ⟨x, r1, e1, h1⟩ := ax_rl_of hu
    cases h1
    exact lv_lload_n hx hb hI rfl (hL.2.2.2 _ _ (ax_tl e1) (fun q => by cases q)) (k0 _ _ _ _ rfl hL)
  | istore k =>
    cases hJ
    obtain rfl : 2 = len := ax_len hln (by decide)
    obtain ⟨x, r1, rfl, h1⟩ := ax_ri_of hu
    split at h1
    · rename_i hk
      cases h1
      exact lv_istore hx hb hI hL.has (by rw [← hL.2.2.1]; exact hk) rfl (fun ls1 q => k0 _ _ _ _ rfl (hL.st1 (fun z => by cases z) q))
    · cases h1
  | istore_n k =>
    cases hJ
    obtain rfl : 1 = len := ax_len hln (by decide)
    obtain ⟨x, r1, rfl, h1⟩ := ax_ri_of hu
    split at h1
    · rename_i hk
      cases h1
      exact lv_istore_n hx hb hI rfl hL.has (by rw [← hL.2.2.1]; exact hk) rfl (fun ls1 q => k0 _ _ _ _ rfl (hL.st1 (fun z => by cases z) q))
    · cases h1
  | lstore k =>
    cases hJ
    obtain rfl : 2 = len := ax_len hln (by decide)
    obtain ⟨x, r1, rfl, h1⟩ := ax_rl_of hu
    split at h1
    · rename_i hk
      cases h1
      exact lv_lstore hx hb hI hL.has (by rw [← hL.2.2.1]; exact hk) rfl (fun ls1 q => k0 _ _ _ _ rfl (hL.st2 (fun z => by cases z) q))
    · cases h1
  | lstore_n k =>
    cases hJ
    obtain rfl : 1 = len := ax_len hln (by decide)
    obtain ⟨x, r1, rfl, h1⟩ := ax_rl_of hu
    split at h1
    · rename_i hk
      cases h1
      exact lv_lstore_n hx hb hI rfl hL.has (by rw [← hL.2.2.1]; exact hk) rfl (fun ls1 q => k0 _ _ _ _ rfl (hL.st2 (fun z => by cases z) q))
    · cases h1
  | iinc k n =>
    cases hJ
    obtain rfl : 3 = len := ax_len hln (by decide)
    obtain ⟨x, r1, e1, h1⟩ := ax_ri_of hu
    cases h1
    have e2 := ax_tl e1
    have hm : (k, ax_vv g (.int x)) ∈ ax_lp g L := ax_lp_mem.mpr ⟨_, e2, (fun q => by cases q), rfl⟩
    obtain ⟨j, hj⟩ := List.getElem?_of_mem hm
    exact lv_iinc hx hb hI hL.has hj rfl (by rw [← hL.2.2.1]; exact (List.getElem?_eq_some_iff.mp e2).1) rfl (fun ls1 q => k0 _ _ _ _ rfl (hL.st1 (fun z => by cases z) q))
  | iadd =>
    cases hJ
    obtain rfl : 1 = len := ax_len hln (by decide)
    obtain ⟨y, r1, rfl, h1⟩ := ax_ri_of hu
    obtain ⟨x, r2, rfl, h2⟩ := ax_ri_of h1
    cases h2
    exact lv_iadd hx hb hI (k0 _ _ _ _ rfl hL)
  | isub =>
    cases hJ
    obtain rfl : 1 = len := ax_len hln (by decide)
    obtain ⟨y, r1, rfl, h1⟩ := ax_ri_of hu
    obtain ⟨x, r2, rfl, h2⟩ := ax_ri_of h1
    cases h2
    exact lv_isub hx hb hI (k0 _ _ _ _ rfl hL)
  | imul =>
    cases hJ
    obtain rfl : 1 = len := ax_len hln (by decide)
    obtain ⟨y, r1, rfl, h1⟩ := ax_ri_of hu
    obtain ⟨x, r2, rfl, h2⟩ := ax_ri_of h1
    cases h2
    exact lv_imul hx hb hI (k0 _ _ _ _ rfl hL)
  | iand =>
    cases hJ
    obtain rfl : 1 = len := ax_len hln (by decide)
    obtain ⟨y, r1, rfl, h1⟩ := ax_ri_of hu
    obtain ⟨x, r2, rfl, h2⟩ := ax_ri_of h1
    cases h2
    exact lv_iand hx hb hI (k0 _ _ _ _ rfl hL)
  | ior =>
    cases hJ
    obtain rfl : 1 = len := ax_len hln (by decide)
    obtain ⟨y, r1, rfl, h1⟩ := ax_ri_of hu
    obtain ⟨x, r2, rfl, h2⟩ := ax_ri_of h1
    cases h2
    exact lv_ior hx hb hI (k0 _ _ _ _ rfl hL)
  | ixor =>
    cases hJ
    obtain rfl : 1 = len := ax_len hln (by decide)
    obtain ⟨y, r1, rfl, h1⟩ := ax_ri_of hu
    obtain ⟨x, r2, rfl, h2⟩ := ax_ri_of h1
    cases h2
    exact lv_ixor hx hb hI (k0 _ _ _ _ rfl hL)
  | ishl =>
    cases hJ
    obtain rfl : 1 = len := ax_len hln (by decide)
    obtain ⟨y, r1, rfl, h1⟩ := ax_ri_of hu
    obtain ⟨x, r2, rfl, h2⟩ := ax_ri_of h1
    cases h2
    exact lv_ishl hx hb hI (k0 _ _ _ _ rfl hL)
  | ishr =>
    cases hJ
    obtain rfl : 1 = len := ax_len hln (by decide)
    obtain ⟨y, r1, rfl, h1⟩ := ax_ri_of hu
    obtain ⟨x, r2, rfl, h2⟩ := ax_ri_of h1
    cases h2
    exact lv_ishr hx hb hI (k0 _ _ _ _ rfl hL)
  | iushr =>
    cases hJ
    obtain rfl : 1 = len := ax_len hln (by decide)
    obtain ⟨y, r1, rfl, h1⟩ := ax_ri_of hu
    obtain ⟨x, r2, rfl, h2⟩ := ax_ri_of h1
    cases h2
    exact lv_iushr hx hb hI rfl (k0 _ _ _ _ rfl hL)
  | idiv =>
    cases hJ
    obtain rfl : 1 = len := ax_len hln (by decide)
    obtain ⟨y, r1, rfl, h1⟩ := ax_ri_of hu
    obtain ⟨x, r2, rfl, h2⟩ := ax_ri_of h1
    split at h2
    · cases h2
    · rename_i hy
      cases h2
      exact lv_idiv hx hb hI hy (k0 _ _ _ _ rfl hL)
  | irem =>
    cases hJ
    obtain rfl : 1 = len := ax_len hln (by decide)
    obtain ⟨y, r1, rfl, h1⟩ := ax_ri_of hu
    obtain ⟨x, r2, rfl, h2⟩ := ax_ri_of h1
    split at h2
    · cases h2
    · rename_i hy
      cases h2
      exact lv_irem hx hb hI hy (k0 _ _ _ _ rfl hL)
  | ladd =>
    cases hJ
    obtain rfl : 1 = len := ax_len hln (by decide)
    obtain ⟨y, r1, rfl, h1⟩ := ax_rl_of hu
    obtain ⟨x, r2, rfl, h2⟩ := ax_rl_of h1
    cases h2
    exact lv_ladd hx hb hI (k0 _ _ _ _ rfl hL)
  | lsub =>
    cases hJ
    obtain rfl : 1 = len := ax_len hln (by decide)
    obtain ⟨y, r1, rfl, h1⟩ := ax_rl_of hu
    obtain ⟨x, r2, rfl, h2⟩ := ax_rl_of h1
    cases h2
    exact lv_lsub hx hb hI (k0 _ _ _ _ rfl hL)
  | lmul =>
    cases hJ
    obtain rfl : 1 = len := ax_len hln (by decide)
    obtain ⟨y, r1, rfl, h1⟩ := ax_rl_of hu
    obtain ⟨x, r2, rfl, h2⟩ := ax_rl_of h1
    cases h2
    exact lv_lmul hx hb hI (k0 _ _ _ _ rfl hL)
  | land =>
    cases hJ
    obtain rfl : 1 = len := ax_len hln (by decide)
    obtain ⟨y, r1, rfl, h1⟩ := ax_rl_of hu
    obtain ⟨x, r2, rfl, h2⟩ := ax_rl_of h1
    cases h2
    exact lv_land hx hb hI (k0 _ _ _ _ rfl hL)
  | lor =>
    cases hJ
    obtain rfl : 1 = len := ax_len hln (by decide)
    obtain ⟨y, r1, rfl, h1⟩ := ax_rl_of hu
    obtain ⟨x, r2, rfl, h2⟩ := ax_rl_of h1
    cases h2
    exact lv_lor hx hb hI (k0 _ _ _ _ rfl hL)
  | lshl =>
    cases hJ
    obtain rfl : 1 = len := ax_len hln (by decide)
    obtain ⟨y, r1, rfl, h1⟩ := ax_ri_of hu
    obtain ⟨x, r2, rfl, h2⟩ := ax_rl_of h1
    cases h2
    exact lv_lshl hx hb hI rfl (k0 _ _ _ _ rfl hL)
  | lshr =>
    cases hJ
    obtain rfl : 1 = len := ax_len hln (by decide)
    obtain ⟨y, r1, rfl, h1⟩ := ax_ri_of hu
    obtain ⟨x, r2, rfl, h2⟩ := ax_rl_of h1
    cases h2
    exact lv_lshr hx hb hI rfl (k0 _ _ _ _ rfl hL)
  | lcmp =>
    cases hJ
    obtain rfl : 1 = len := ax_len hln (by decide)
    obtain ⟨y, r1, rfl, h1⟩ := ax_rl_of hu
    obtain ⟨x, r2, rfl, h2⟩ := ax_rl_of h1
    cases h2
    exact W.lcmp hx hb hI (k0 _ _ _ _ rfl hL)
  | ineg =>
    cases hJ
    obtain rfl : 1 = len := ax_len hln (by decide)
    obtain ⟨x, r1, rfl, h1⟩ := ax_ri_of hu
    cases h1
    exact lv_ineg hx hb hI (k0 _ _ _ _ rfl hL)
  | i2l =>
    cases hJ
    obtain rfl : 1 = len := ax_len hln (by decide)
    obtain ⟨x, r1, rfl, h1⟩ := ax_ri_of hu
    cases h1
    exact lv_i2l hx hb hI rfl (k0 _ _ _ _ rfl hL)
  | i2b =>
    cases hJ
    obtain rfl : 1 = len := ax_len hln (by decide)
    obtain ⟨x, r1, rfl, h1⟩ := ax_ri_of hu
    cases h1
    exact lv_i2b hx hb hI rfl (k0 _ _ _ _ rfl hL)
  | i2s =>
    cases hJ
    obtain rfl : 1 = len := ax_len hln (by decide)
    obtain ⟨x, r1, rfl, h1⟩ := ax_ri_of hu
    cases h1
    exact lv_i2s hx hb hI rfl (k0 _ _ _ _ rfl hL)
  | i2c =>
    cases hJ
    obtain rfl : 1 = len := ax_len hln (by decide)
    obtain ⟨x, r1, rfl, h1⟩ := ax_ri_of hu
    cases h1
    exact lv_i2c hx hb hI rfl (k0 _ _ _ _ rfl hL)
  | l2i =>
    cases hJ
    obtain rfl : 1 = len := ax_len hln (by decide)
    obtain ⟨x, r1, rfl, h1⟩ := ax_rl_of hu
    cases h1
    exact lv_l2i hx hb hI rfl (k0 _ _ _ _ rfl hL)
  | dup =>
    cases hJ
    obtain rfl : 1 = len := ax_len hln (by decide)
    obtain ⟨x, r1, rfl, h1⟩ := ax_rv_of hu
    split at h1
    · rename_i hk
      cases h1
      exact lv_dup hx hb hI (by rw [ax_vv_cat]; exact hk) (k0 _ _ _ _ rfl hL)
    · cases h1
  | dup2 =>
    cases hJ
    obtain rfl : 1 = len := ax_len hln (by decide)
    obtain ⟨x, r1, rfl, h1⟩ := ax_rv_of hu
    obtain ⟨y, r2, rfl, h2⟩ := ax_rv_of h1
    split at h2
    · rename_i hk
      cases h2
      exact lv_dup2_11 hx hb hI (by rw [ax_vv_cat]; exact hk.1) (by rw [ax_vv_cat]; exact hk.2) (k0 _ _ _ _ rfl hL)
    · cases h2
  | pop =>
    cases hJ
    obtain rfl : 1 = len := ax_len hln (by decide)
    obtain ⟨x, r1, rfl, h1⟩ := ax_rv_of hu
    split at h1
    · rename_i hk
      cases h1
      exact lv_pop hx hb hI (by rw [ax_vv_cat]; exact hk) (k0 _ _ _ _ rfl hL)
    · cases h1
  | goto o =>
    cases hJ
    obtain rfl : 3 = len := ax_len hln (by decide)
    rw [ax_step] at hu
    split at hu
    · rename_i hn
      cases hu
      exact lv_goto hx hb hI (tgt := (pc + o).toNat) (by omega) (k0 _ _ _ _ rfl hL)
    · cases hu
  | if_icmp q o =>
    cases hJ
    obtain rfl : 3 = len := ax_len hln (by decide)
    obtain ⟨y, r1, rfl, h1⟩ := ax_ri_of hu
    obtain ⟨x, r2, rfl, h2⟩ := ax_ri_of h1
    split at h2
    · rename_i hn
      have ht : (pc : Int) + o = ((pc + o).toNat : Int) := by omega
      cases q with
      | eq =>
        refine lv_icmp_eq hx hb hI ht (fun z => ?_) (fun z => ?_)
        · rw [if_pos (by simpa [ax_cnd] using z)] at h2
          cases h2
          exact k0 _ _ _ _ rfl hL
        · rw [if_neg (by simpa [ax_cnd] using z)] at h2
          cases h2
          exact k0 _ _ _ _ rfl hL
      | ne =>
        refine lv_icmp_ne hx hb hI ht (fun z => ?_) (fun z => ?_)
        · rw [if_pos (by simpa [ax_cnd] using z)] at h2
          cases h2
          exact k0 _ _ _ _ rfl hL
        · rw [if_neg (by simpa [ax_cnd] using z)] at h2
          cases h2
          exact k0 _ _ _ _ rfl hL
      | lt =>
        refine lv_icmp_lt hx hb hI ht (fun z => ?_) (fun z => ?_)
        · rw [if_pos (by simpa [ax_cnd] using z)] at h2
          cases h2
          exact k0 _ _ _ _ rfl hL
        · rw [if_neg (by simpa [ax_cnd] using z)] at h2
          cases h2
          exact k0 _ _ _ _ rfl hL
      | ge =>
        refine lv_icmp_ge hx hb hI ht (fun z => ?_) (fun z => ?_)
        · rw [if_pos (by simpa [ax_cnd] using z)] at h2
          cases h2
          exact k0 _ _ _ _ rfl hL
        · rw [if_neg (by simpa [ax_cnd] using z)] at h2
          cases h2
          exact k0 _ _ _ _ rfl hL
      | gt =>
        refine lv_icmp_gt hx hb hI ht (fun z => ?_) (fun z => ?_)
        · rw [if_pos (by simpa [ax_cnd] using z)] at h2
          cases h2
          exact k0 _ _ _ _ rfl hL
        · rw [if_neg (by simpa [ax_cnd] using z)] at h2
          cases h2
          exact k0 _ _ _ _ rfl hL
      | le =>
        refine lv_icmp_le hx hb hI ht (fun z => ?_) (fun z => ?_)
        · rw [if_pos (by simpa [ax_cnd] using z)] at h2
          cases h2
          exact k0 _ _ _ _ rfl hL
        · rw [if_neg (by simpa [ax_cnd] using z)] at h2
          cases h2
          exact k0 _ _ _ _ rfl hL
    · cases h2
  | ifCond q o =>
    cases hJ
    obtain rfl : 3 = len := ax_len hln (by decide)
    obtain ⟨x, r1, rfl, h1⟩ := ax_ri_of hu
    split at h1
    · rename_i hn
      have ht : (pc : Int) + o = ((pc + o).toNat : Int) := by omega
      cases q with
      | eq =>
        refine lv_if_eq hx hb hI ht (fun z => ?_) (fun z => ?_)
        · rw [if_pos (by simpa [ax_cnd] using z)] at h1
          cases h1
          exact k0 _ _ _ _ rfl hL
        · rw [if_neg (by simpa [ax_cnd] using z)] at h1
          cases h1
          exact k0 _ _ _ _ rfl hL
      | ne =>
        refine lv_if_ne hx hb hI ht (fun z => ?_) (fun z => ?_)
        · rw [if_pos (by simpa [ax_cnd] using z)] at h1
          cases h1
          exact k0 _ _ _ _ rfl hL
        · rw [if_neg (by simpa [ax_cnd] using z)] at h1
          cases h1
          exact k0 _ _ _ _ rfl hL
      | lt =>
        refine lv_if_lt hx hb hI ht (fun z => ?_) (fun z => ?_)
        · rw [if_pos (by simpa [ax_cnd] using z)] at h1
          cases h1
          exact k0 _ _ _ _ rfl hL
        · rw [if_neg (by simpa [ax_cnd] using z)] at h1
          cases h1
          exact k0 _ _ _ _ rfl hL
      | ge =>
        refine lv_if_ge hx hb hI ht (fun z => ?_) (fun z => ?_)
        · rw [if_pos (by simpa [ax_cnd] using z)] at h1
          cases h1
          exact k0 _ _ _ _ rfl hL
        · rw [if_neg (by simpa [ax_cnd] using z)] at h1
          cases h1
          exact k0 _ _ _ _ rfl hL
      | gt =>
        refine lv_if_gt hx hb hI ht (fun z => ?_) (fun z => ?_)
        · rw [if_pos (by simpa [ax_cnd] using z)] at h1
          cases h1
          exact k0 _ _ _ _ rfl hL
        · rw [if_neg (by simpa [ax_cnd] using z)] at h1
          cases h1
          exact k0 _ _ _ _ rfl hL
      | le =>
        refine lv_if_le hx hb hI ht (fun z => ?_) (fun z => ?_)
        · rw [if_pos (by simpa [ax_cnd] using z)] at h1
          cases h1
          exact k0 _ _ _ _ rfl hL
        · rw [if_neg (by simpa [ax_cnd] using z)] at h1
          cases h1
          exact k0 _ _ _ _ rfl hL
    · cases h1
  | tableswitch d0 lo hi os =>
    cases hJ
    obtain ⟨x, r1, rfl, h1⟩ := ax_ri_of hu
    split at h1
    · rename_i hn
      cases h1
      unfold ax_swt at hn k0
      by_cases hq : x.toInt < lo ∨ hi < x.toInt
      · rw [if_pos hq] at hn
        refine lv_tableOut hx hb hI hq (tgt := ((pc : Int) + d0).toNat) (by omega) ?_
        have k := k0 _ _ _ ls rfl hL
        rw [if_pos hq] at k
        exact k
      · rw [if_neg hq] at hn
        have k := k0 _ _ _ ls rfl hL
        rw [if_neg hq] at k
        cases ho : os[(x.toInt - lo).toNat]? with
        | none =>
          exact absurd hn.2 (by
            rw [Array.size_map]
            have := Array.getElem?_eq_none_iff.mp ho
            have hq2 := not_or.mp hq
            omega)
        | some o =>
          rw [Array.getD_eq_getD_getElem?, Array.getElem?_map, ho] at hn k
          exact lv_tableIn hx hb hI (fun z => hq (Or.inl z)) (fun z => hq (Or.inr z)) ho (tgt := ((pc : Int) + o).toNat) (by simp only [Option.map_some, Option.getD_some] at hn; omega) k
    · cases h1
  | getfield i =>
    rw [ax_nrm] at hJ
    obtain rfl : 3 = len := ax_len hln (by decide)
    split at hJ
    · rename_i q hq
      cases hJ
      obtain ⟨a, r1, rfl, h1⟩ := ax_ra_of hu
      obtain ⟨v, hv, rfl⟩ := Option.map_eq_some_iff.mp h1
      obtain ⟨cc, hcc, hk, hdec, hw⟩ := ax_Tf_of hq
      have hz : q.1 < 4096 := by have : q.1 / 64 < 12 := (List.getElem?_eq_some_iff.mp hcc).1; omega
      obtain ⟨fs, hf, hf2⟩ := ax_lget_of hz hv
      rw [ax_ms_ref (hP.lt hf)]
      exact va_get hx hb hts (ax_cl_in hcc) hown hK hP.1 a (ax_wl_at hf) hcc (q.1 % 64) hk (hts _ hw) (fun y hy => by rw [hdec] at hy; exact hy) (v := ax_vv g v) (by rw [List.getElem?_map, hf2]; rfl) hI (k0 _ _ _ _ rfl hL)
    · split at hJ
      · rename_i q hq
        cases hJ
        obtain ⟨a, r1, rfl, h1⟩ := ax_ra_of hu
        obtain ⟨v, hv, rfl⟩ := Option.map_eq_some_iff.mp h1
        obtain ⟨cc, hcc, hk, hdec, hw⟩ := ax_Tg_of hq
        have hz : q.1 < 4096 := by have : q.1 / 64 < 12 := (List.getElem?_eq_some_iff.mp hcc).1; omega
        obtain ⟨fs, hf, hf2⟩ := ax_lget_of hz hv
        rw [ax_ms_ref (hP.lt hf)]
        exact va_getN hx hb hts (ax_cl_in hcc) hown hK hP.1 a (ax_wl_at hf) hcc (q.1 % 64) hk (va_Nw.use rfl (hE.2.1 _ hw rfl)) (fun y hy => by rw [hdec] at hy; exact hy) (v := ax_vv g v) (by rw [List.getElem?_map, hf2]; rfl) hI (k0 _ _ _ _ rfl hL)
      · obtain ⟨q, hq, h9⟩ := Option.bind_eq_some_iff.mp hJ
        split at h9
        · rename_i hj
          cases h9
          have hw := (ax_Tx_of hq).2
          obtain ⟨a, r1, rfl, h1⟩ := ax_ra_of hu
          obtain ⟨v, hv, rfl⟩ := Option.map_eq_some_iff.mp h1
          have hv : ax_lget h a (4096 + q.1) = some v := hv
          unfold ax_lget at hv
          rw [if_pos (by omega)] at hv
          split at hv
          · rename_i ha
            have ea : ax_ad g a = g.2.2.2.2.1 (a - 1001) := by
              unfold ax_ad
              rw [if_neg (by omega), if_neg (by omega), if_pos (by omega)]
            have hS1 := hE.2.2.2.1.1 (a - 1001) (by omega)
            rw [List.map_cons, ax_vv_ref (by omega), ea]
            rcases Nat.eq_zero_or_pos q.1 with hq0 | hq1
            · rw [if_pos (by omega)] at hv
              cases hv
              rw [hq0] at hw
              have k := k0 _ _ _ ls rfl hL
              rw [List.map_cons, ax_vv_ref (by omega)] at k
              have eb : ax_ad g (a + 100) = g.2.2.2.2.2.1 (a - 1001) := by
                unfold ax_ad
                rw [if_neg (by omega), if_neg (by omega), if_neg (by omega)]
                congr 1
              rw [eb] at k
              exact vk_getf hx hb hS1.2.2.1 hS hown (hts _ hw) (fun y hy => hy) hI k
            · rw [if_neg (by omega), if_pos (by omega)] at hv
              cases hv
              rw [show q.1 = 1 by omega] at hw
              exact vk_getf hx hb hS1.2.1 hS hown (hts _ hw) (fun y hy => hy) hI (k0 _ _ _ _ rfl hL)
          · cases hv
        · cases h9
  | putfield i =>
    rw [ax_nrm] at hJ
    obtain rfl : 3 = len := ax_len hln (by decide)
    obtain ⟨q, hq, rfl⟩ := Option.map_eq_some_iff.mp hJ
    obtain ⟨v, r1, rfl, h0⟩ := ax_rv_of hu
    obtain ⟨a, r2, rfl, h1⟩ := ax_ra_of h0
    obtain ⟨h9, hv, rfl⟩ := Option.map_eq_some_iff.mp h1
    obtain ⟨fs, hf, h2, h3, h4, hro, rfl⟩ := ax_lput_of hv
    obtain ⟨cc, hcc, hk, hdec, hw⟩ := ax_Tf_of hq
    rw [List.map_cons, ax_ms_ref (hP.lt hf)]
    have hset : ∀ (H1 : Heap) (locs1 : List Loc), va_P g.2.1 vwCl ((ax_wl g h).set a (g.1 + a, .inr (q.1 / 64, (fs.map (ax_vv g)).set (q.1 % 64) (ax_vv g v)))) H1 → va_S (ax_A g) s.heap H1 locs1 → ax_P g (h.set a (.inr (q.1 / 64, fs.set (q.1 % 64) v))) s H1 locs1 cells := by
      intro H1 locs1 P1 S1
      refine hP.put hf ?_ S1
      show va_P g.2.1 vwCl ((ax_wl g h).set a (g.1 + a, .inr (q.1 / 64, (fs.set (q.1 % 64) v).map (ax_vv g)))) H1
      rw [List.map_set]
      exact P1
    have hsz : ax_sz (h.set a (.inr (q.1 / 64, fs.set (q.1 % 64) v))) = ax_sz h := ax_sz_set hf (by simp [ax_cs])
    simp only [ax_fin, hcc, Bool.or_eq_true, Bool.not_eq_true', Bool.and_eq_true, decide_eq_true_eq] at hfin
    rcases hfin with hf0 | ⟨hf1, hf2⟩
    · refine va_put hx hb hts (ax_cl_in hcc) (ax_ty (q.1 / 64)) (ax_cl_ok hcc).2.1 (ax_cl_ok hcc).1 hown hK hP.1 (ax_D g h) hS a (ax_wl_at hf) hcc (q.1 % 64) hk (hts _ hw) (fun y hy => by rw [hdec] at hy; exact hy) hf0 (ty := ax_ty (q.1 / 64) (q.1 % 64)) ((ax_cl_ok hcc).2.1 _ hk) (ax_nar_vv g hro h3) (ax_fit_vv g hro h4) (by rw [List.length_map]; exact h2) hI (fun H1 locs1 P1 _ S1 => ?_)
      exact k1 _ _ _ H1 locs1 rfl (List.length_set ..) hsz (hset H1 locs1 P1 S1)
    · by_cases hf0 : (cc.2.1 (q.1 % 64)).2.2.2 = true
      · refine va_putF hx hb hts (ax_cl_in hcc) (ax_ty (q.1 / 64)) (ax_cl_ok hcc).2.1 (ax_cl_ok hcc).1 hown hK hP.1 (ax_D g h) hS a (ax_wl_at hf) hcc (q.1 % 64) hk (hts _ hw) (fun y hy => by rw [hdec] at hy; exact hy) hf0 (hnm hf1) (hdec.trans hf2) (ty := ax_ty (q.1 / 64) (q.1 % 64)) ((ax_cl_ok hcc).2.1 _ hk) (ax_nar_vv g hro h3) (ax_fit_vv g hro h4) (by rw [List.length_map]; exact h2) hI (fun H1 locs1 P1 _ S1 => ?_)
        exact k1 _ _ _ H1 locs1 rfl (List.length_set ..) hsz (hset H1 locs1 P1 S1)
      · refine va_put hx hb hts (ax_cl_in hcc) (ax_ty (q.1 / 64)) (ax_cl_ok hcc).2.1 (ax_cl_ok hcc).1 hown hK hP.1 (ax_D g h) hS a (ax_wl_at hf) hcc (q.1 % 64) hk (hts _ hw) (fun y hy => by rw [hdec] at hy; exact hy) (by simpa using hf0) (ty := ax_ty (q.1 / 64) (q.1 % 64)) ((ax_cl_ok hcc).2.1 _ hk) (ax_nar_vv g hro h3) (ax_fit_vv g hro h4) (by rw [List.length_map]; exact h2) hI (fun H1 locs1 P1 _ S1 => ?_)
        exact k1 _ _ _ H1 locs1 rfl (List.length_set ..) hsz (hset H1 locs1 P1 S1)
  | iaload =>
    cases hJ
    obtain rfl : 1 = len := ax_len hln (by decide)
    obtain ⟨i, r1, rfl, h0⟩ := ax_ri_of hu
    obtain ⟨a, r2, rfl, h1⟩ := ax_ra_of h0
    obtain ⟨v, hv, rfl⟩ := Option.map_eq_some_iff.mp h1
    rcases ax_lld_of hv with ⟨rfl, -, hin, rfl⟩ | ⟨-, -, q, -⟩ | ⟨-, ty, n, f, hf, ht, hin, rfl⟩
    · exact va_sld hx hb hE.2.2.2.2.1 (Nat.lt_of_lt_of_le hE.2.2.2.2.2.1 hP.2.2.2.2) (Nat.not_le.mpr hE.2.2.2.2.2.1) hS hin hI (k0 _ _ _ _ rfl hL)
    · cases q
    · rcases ht with ⟨rfl, -⟩ | ⟨-, q⟩ | ⟨-, q⟩
      · rw [List.map_cons, ax_ms_ref (hP.lt hf)]
        exact va_iald hx hb hK hP.1 a 0 (ax_wl_at hf) rfl hin hI (k0 _ _ _ _ rfl hL)
      · cases q
      · cases q
  | baload =>
    cases hJ
    obtain rfl : 1 = len := ax_len hln (by decide)
    obtain ⟨i, r1, rfl, h0⟩ := ax_ri_of hu
    obtain ⟨a, r2, rfl, h1⟩ := ax_ra_of h0
    obtain ⟨v, hv, rfl⟩ := Option.map_eq_some_iff.mp h1
    rcases ax_lld_of hv with ⟨rfl, q, hin, rfl⟩ | ⟨ha1, ha2, -, hin, rfl⟩ | ⟨-, ty, n, f, hf, ht, hin, rfl⟩
    · cases q
    · have hj := ax_sub7 ha1 ha2
      have hT := (hE.2.2.2.1.1 (a - 1101) hj).2.2.2
      have ea : ax_ad g a = g.2.2.2.2.2.1 (a - 1101) := by
        unfold ax_ad
        rw [if_neg (by omega), if_neg (by omega), if_neg (by omega)]
      have el : (ax_SB.map List.length).getD (a - 1101) 0 = (ax_SB.getD (a - 1101) []).length := by rw [List.getD_eq_getElem?_getD, List.getD_eq_getElem?_getD, List.getElem?_map]; cases ax_SB[a - 1101]? <;> rfl
      rw [List.map_cons, List.map_cons, ax_vv_ref (by omega), ea]
      exact va_tb hx hb hT hS (by rw [el]; exact hin) rfl hI (k0 _ _ _ _ rfl hL)
    · rcases ht with ⟨-, q⟩ | ⟨rfl, -⟩ | ⟨rfl, -⟩
      · cases q
      · rw [List.map_cons, ax_ms_ref (hP.lt hf)]
        exact va_bald hx hb hK hP.1 a 1 (ax_wl_at hf) rfl hin hI (k0 _ _ _ _ rfl hL)
      · rw [List.map_cons, ax_ms_ref (hP.lt hf)]
        exact va_zald hx hb hK hP.1 a 2 (ax_wl_at hf) rfl hin hI (k0 _ _ _ _ rfl hL)
  | iastore =>
    cases hJ
    obtain rfl : 1 = len := ax_len hln (by decide)
    obtain ⟨x, r0, rfl, h9⟩ := ax_ri_of hu
    obtain ⟨i, r1, rfl, h0⟩ := ax_ri_of h9
    obtain ⟨a, r2, rfl, h1⟩ := ax_ra_of h0
    obtain ⟨h8, hv, rfl⟩ := Option.map_eq_some_iff.mp h1
    obtain ⟨ty, n, f, hf, ht, hin, rfl⟩ := ax_lst_of hv
    rcases ht with ⟨rfl, -⟩ | ⟨-, q⟩ | ⟨-, q⟩
    · rw [List.map_cons, List.map_cons, ax_ms_ref (hP.lt hf)]
      exact va_iast hx hb hK hP.1 (ax_D g h) hS a 0 (ax_wl_at hf) rfl hin hI (fun H1 locs1 P1 _ S1 => k1 _ _ _ H1 locs1 rfl (List.length_set ..) (ax_sz_set hf rfl) (hP.put hf P1 S1))
    · cases q
    · cases q
  | bastore =>
    cases hJ
    obtain rfl : 1 = len := ax_len hln (by decide)
    obtain ⟨x, r0, rfl, h9⟩ := ax_ri_of hu
    obtain ⟨i, r1, rfl, h0⟩ := ax_ri_of h9
    obtain ⟨a, r2, rfl, h1⟩ := ax_ra_of h0
    obtain ⟨h8, hv, rfl⟩ := Option.map_eq_some_iff.mp h1
    obtain ⟨ty, n, f, hf, ht, hin, rfl⟩ := ax_lst_of hv
    rcases ht with ⟨-, q⟩ | ⟨rfl, -⟩ | ⟨rfl, -⟩
    · cases q
    · rw [List.map_cons, List.map_cons, ax_ms_ref (hP.lt hf)]
      exact va_bast hx hb hK hP.1 (ax_D g h) hS a 1 (ax_wl_at hf) rfl hin hI (fun H1 locs1 P1 _ S1 => k1 _ _ _ H1 locs1 rfl (List.length_set ..) (ax_sz_set hf rfl) (hP.put hf P1 S1))
    · rw [List.map_cons, List.map_cons, ax_ms_ref (hP.lt hf)]
      exact va_zast hx hb hK hP.1 (ax_D g h) hS a 2 (ax_wl_at hf) rfl hin hI (fun H1 locs1 P1 _ S1 => k1 _ _ _ H1 locs1 rfl (List.length_set ..) (ax_sz_set hf rfl) (hP.put hf P1 S1))
  | arraylength =>
    cases hJ
    obtain rfl : 1 = len := ax_len hln (by decide)
    obtain ⟨a, r2, rfl, h1⟩ := ax_ra_of hu
    obtain ⟨v, hv, rfl⟩ := Option.map_eq_some_iff.mp h1
    rcases ax_lln_of hv with ⟨rfl, rfl⟩ | ⟨ha1, ha2, rfl⟩ | ⟨-, ty, n, f, hf, ht, rfl⟩
    · exact va_slen hx hb hE.2.2.2.2.1 (Nat.lt_of_lt_of_le hE.2.2.2.2.2.1 hP.2.2.2.2) (Nat.not_le.mpr hE.2.2.2.2.2.1) hS hI (k0 _ _ _ _ rfl hL)
    · have hj := ax_sub7 ha1 ha2
      have hT := (hE.2.2.2.1.1 (a - 1101) hj).2.2.2
      have ea : ax_ad g a = g.2.2.2.2.2.1 (a - 1101) := by
        unfold ax_ad
        rw [if_neg (by omega), if_neg (by omega), if_neg (by omega)]
      have el : (ax_SB.map List.length).getD (a - 1101) 0 = (ax_SB.getD (a - 1101) []).length := by rw [List.getD_eq_getElem?_getD, List.getD_eq_getElem?_getD, List.getElem?_map]; cases ax_SB[a - 1101]? <;> rfl
      rw [List.map_cons, ax_vv_ref (by omega), ea]
      exact va_tlen hx hb hT hS (by rw [el]) hI (k0 _ _ _ _ rfl hL)
    · rw [ax_ms_ref (hP.lt hf)]
      match ty, ht, hf with
      | 0, _, hf => exact va_alen hx hb hK hP.1 a 0 (ax_wl_at hf) rfl rfl hI (k0 _ _ _ _ rfl hL)
      | 1, _, hf => exact va_alen hx hb hK hP.1 a 1 (ax_wl_at hf) rfl rfl hI (k0 _ _ _ _ rfl hL)
      | 2, _, hf => exact va_alen hx hb hK hP.1 a 2 (ax_wl_at hf) rfl rfl hI (k0 _ _ _ _ rfl hL)
      | n + 3, q, _ => omega
  | new i =>
    rw [ax_nrm] at hJ
    obtain rfl : 3 = len := ax_len hln (by decide)
    obtain ⟨q, hq, rfl⟩ := Option.map_eq_some_iff.mp hJ
    obtain ⟨w, hw, rfl⟩ := Option.map_eq_some_iff.mp hu
    obtain ⟨cc, hcc, hwl⟩ := ax_To_of hq
    have hw : ax_lnw h q.1 = some w := hw
    unfold ax_lnw at hw
    rw [hcc] at hw
    simp only at hw
    split at hw
    · rename_i hlt
      cases hw
      refine ax_sized (fun hz => ?_)
      have hsz := hP.size hz
      have hKn := hK.1 q.1 _ hcc
      have hc1 : cells + 1 ≤ R.cells := by simp only [List.length_append, List.length_singleton] at hc; omega
      have hs1 : slots + cc.2.2 ≤ R.slots := by simp only [ax_sz_app, ax_cs, List.length_map, List.length_range] at hs; omega
      refine W.newcK hx hb hown (hts _ hwl) (hts _ (ax_cI_in hcc).1) (hts _ (ax_cI_in hcc).2) rfl hI hc1 hs1 hKn.2.1 rfl (fun H1 kC hkC e1 z1 o1 => ?_)
      have hk : ∀ (k : Nat) (y : Nat × va_E), (ax_wl g h)[k]? = some y → H1[y.1]? = H[y.1]? := fun k y hy => o1 y.1 ((hP.1 k y hy).lt)
      have hP1 : ax_P g (h ++ [.inr (q.1, (List.range cc.2.2).map fun k => defaultValue (ax_ty q.1 k))]) s H1 locs (cells + 1) := by
        refine ⟨?_, by simp only [List.length_append, List.length_singleton]; omega, ⟨Nat.le_trans hS.1 (by omega), fun y y1 y2 => (o1 y (Nat.lt_of_lt_of_le y1 hS.1)).trans (hS.2.1 y y1 y2), hS.2.2⟩, by simp only [List.length_append, List.length_singleton]; have := hP.2.2.2.1; omega, hP.2.2.2.2⟩
        rw [ax_wl_app]
        refine (hP.1.kept hk).app (fun k y hy => ?_)
        have hz1 : k < 1 := (List.getElem?_eq_some_iff.mp hy).1
        rw [show k = 0 by omega] at hy
        cases hy
        refine ⟨_, hcc, ?_⟩
        have hb1 := u_born (ax_ty q.1) hts (ax_cl_in hcc) hKn hkC e1 (ax_cl_ok hcc).2.1
        rw [hsz] at hb1
        refine hb1.to (fun j hj => ?_)
        show defaultValue (ax_ty q.1 j) = vp_V (((List.range cc.2.2).map fun k => defaultValue (ax_ty q.1 k)).map (ax_vv g)) j
        unfold vp_V
        rw [List.getD_eq_getElem?_getD, List.getElem?_map, List.getElem?_map, List.getElem?_range hj]
        simp only [Option.map_some, Option.getD_some]
        generalize ax_ty q.1 j = ty
        cases ty <;> rfl
      have k := kk H1 locs ls (by simp only [List.length_append, List.length_singleton, Nat.add_sub_cancel_left]; exact hP1) hL
      simp only [List.length_append, List.length_singleton, Nat.add_sub_cancel_left, ax_sz_app, ax_cs, List.length_map, List.length_range] at k
      rw [ax_ms_ref hlt] at k
      rw [hsz]
      exact k
    · cases hw
  | newarray t =>
    cases hJ
    obtain rfl : 2 = len := ax_len hln (by decide)
    obtain ⟨n, r1, rfl, h0⟩ := ax_ri_of hu
    obtain ⟨w, hw, rfl⟩ := Option.map_eq_some_iff.mp h0
    have hw : ax_lna h t n = some w := hw
    unfold ax_lna at hw
    split at hw
    · rename_i hq
      obtain ⟨ht, hn0, hn1, hlt⟩ := hq
      cases hw
      refine ax_sized (fun hz => ?_)
      have hsz := hP.size hz
      have hc1 : cells + 1 ≤ R.cells := by simp only [List.length_append, List.length_singleton] at hc; omega
      have hs1 : slots + n.toNatClampNeg ≤ R.slots := by simp only [ax_sz_app, ax_cs] at hs; omega
      have hfin : ∀ (ty : FieldType), newarray.typeOf t = ty → (ax_tt (ax_at t) = ty) → (∀ cA : ClassId, s.vm.findClass ("[" ++ (newarray.typeOf t).toString) = some cA → cA = ax_ca g (ax_at t)) → componentBytes ty ≤ 4 → (Jvm.Cond.arrayClass (newarray.typeOf t)).before args s = true → defaultValue ty = .int 0 → W p l e R s mI args below meth c H locs cells slots Q (F0 mI pc ls ((Value.int n :: r1).map (ax_vv g))) := by
        intro ty hty htt hca hcb har hdv
        subst hty
        refine va_newaK hx hb har rfl hI rfl hn0 rfl (Nat.le_trans (Nat.mul_le_mul hn1 hcb) (Nat.le_of_ble_eq_true rfl)) hc1 hs1 rfl (fun H1 cA e1 z1 o1 hAr hNm => ?_)
        have hk : ∀ (k : Nat) (y : Nat × va_E), (ax_wl g h)[k]? = some y → H1[y.1]? = H[y.1]? := fun k y hy => o1 y.1 ((hP.1 k y hy).lt)
        obtain rfl := hca cA hNm
        have hP1 : ax_P g (h ++ [.inl (ax_at t, n.toNatClampNeg, fun _ => 0)]) s H1 locs (cells + 1) := by
          refine ⟨?_, by simp only [List.length_append, List.length_singleton]; omega, ⟨Nat.le_trans hS.1 (by omega), fun y y1 y2 => (o1 y (Nat.lt_of_lt_of_le y1 hS.1)).trans (hS.2.1 y y1 y2), hS.2.2⟩, by simp only [List.length_append, List.length_singleton]; have := hP.2.2.2.1; omega, hP.2.2.2.2⟩
          rw [ax_wl_app]
          refine (hP.1.kept hk).app (fun k y hy => ?_)
          have hz1 : k < 1 := (List.getElem?_eq_some_iff.mp hy).1
          rw [show k = 0 by omega] at hy
          cases hy
          show H1[g.1 + h.length]? = some (arrV (ax_ca g (ax_at t)) n.toNatClampNeg (fun _ => .int 0))
          rw [← hsz, e1, hdv]
        have k := kk H1 locs ls (by simp only [List.length_append, List.length_singleton, Nat.add_sub_cancel_left]; exact hP1) hL
        simp only [List.length_append, List.length_singleton, Nat.add_sub_cancel_left, ax_sz_app, ax_cs] at k
        rw [ax_ms_ref hlt] at k
        rw [hsz]
        exact k
      cases t with
      | int =>
        refine hfin .int rfl rfl (fun cA hNm => ?_) (by decide) (hts _ (ax_ow_in (List.mem_of_getElem? (i := 0) rfl))) rfl
        exact Option.some.inj (hNm.symm.trans (hK.2 0 _ rfl).2)
      | byte =>
        refine hfin .byte rfl rfl (fun cA hNm => ?_) (by decide) (hts _ (ax_ow_in (List.mem_of_getElem? (i := 1) rfl))) rfl
        exact Option.some.inj (hNm.symm.trans (hK.2 1 _ rfl).2)
      | boolean =>
        refine hfin .boolean rfl rfl (fun cA hNm => ?_) (by decide) (hts _ (ax_ow_in (List.mem_of_getElem? (i := 2) rfl))) rfl
        exact Option.some.inj (hNm.symm.trans (hK.2 2 _ rfl).2)
      | _ => exact absurd ht (by decide)
    · cases hw
  | invokestatic i =>
    rw [ax_nrm] at hJ
    obtain rfl : 3 = len := ax_len hln (by decide)
    split at hJ
    · cases hJ
      cases hkd
    · split at hJ
      · cases hJ
        cases hkd
      · obtain ⟨q, hq, h9⟩ := Option.bind_eq_some_iff.mp hJ
        split at h9
        · rename_i hj
          cases h9
          exact ax_intrS hx hb hcl hown hts hE hRf hRl hI (ax_Ti_of hq).2 hj hu hP hcr hsr hL k0 k1
        · cases h9
  | invokevirtual i =>
    rw [ax_nrm] at hJ
    obtain ⟨q, hq, rfl⟩ := Option.map_eq_some_iff.mp hJ
    cases hkd
  | invokespecial i =>
    rw [ax_nrm] at hJ
    obtain rfl : 3 = len := ax_len hln (by decide)
    split at hJ
    · cases hJ
      cases hkd
    · split at hJ
      · cases hJ
        cases hkd
      · obtain ⟨q, hq, h9⟩ := Option.bind_eq_some_iff.mp hJ
        split at h9
        · rename_i hj
          cases h9
          exact ax_intrI hx hb hcl hown hts hE hRf hRl hI (ax_Ti_of hq).2 hj hu hP hcr hsr hL k0 k1
        · cases h9
  | ireturn =>
    cases hJ
    cases hkd
  | lreturn =>
    cases hJ
    cases hkd
  | areturn =>
    cases hJ
    cases hkd
  | return_ =>
    cases hJ
    cases hkd
  | _ => cases hJ
end AXS
