/-! THE LAW'S START: what the tables give of the launch; the law, out of a run of the small machine-/
def ax_tm (i : Nat) : Term := match i with
  | 0 => .string "CakeCards$Kitchen" 70
  | 1 => .string "CakeCards$Kitchen" 80
  | 2 => .string "CakeCards$Kitchen" 110
  | 3 => .string "CakeCards$Page" 51
  | 4 => .string "CakeCards$Page" 78
  | 5 => .string "CakeCards$Page" 87
  | _ => .string "CakeCards$Page" 93
theorem ax_t1 {args : Array Value} {s : State} (h : (Jvm.Cond.and given_1 narrow_1).before args s = true) : ∀ i : Nat, i < 7 → (Cond.exactly (ax_tm i) "java/lang/String").before args s = true := by
  have hs := flat_of_before _ h
  intro i hi
  match i, hi with
  | 0, _ => exact hs _ (by decide +kernel)
  | 1, _ => exact hs _ (by decide +kernel)
  | 2, _ => exact hs _ (by decide +kernel)
  | 3, _ => exact hs _ (by decide +kernel)
  | 4, _ => exact hs _ (by decide +kernel)
  | 5, _ => exact hs _ (by decide +kernel)
  | 6, _ => exact hs _ (by decide +kernel)
  | n + 7, hi => omega
theorem ax_t2 {args : Array Value} {s : State} (h : (Jvm.Cond.and given_1 narrow_1).before args s = true) : ∀ i : Nat, i < 7 → (Cond.eq (.field (ax_tm i) "java/lang/String" "coder" "B") (.int 0)).before args s = true := by
  have hs := flat_of_before _ h
  intro i hi
  match i, hi with
  | 0, _ => exact hs _ (by decide +kernel)
  | 1, _ => exact hs _ (by decide +kernel)
  | 2, _ => exact hs _ (by decide +kernel)
  | 3, _ => exact hs _ (by decide +kernel)
  | 4, _ => exact hs _ (by decide +kernel)
  | 5, _ => exact hs _ (by decide +kernel)
  | 6, _ => exact hs _ (by decide +kernel)
  | n + 7, hi => omega
theorem ax_t3 {args : Array Value} {s : State} (h : (Jvm.Cond.and given_1 narrow_1).before args s = true) : ∀ i : Nat, i < 7 → (Cond.arrayOf (.field (ax_tm i) "java/lang/String" "value" "[B") .byte).before args s = true := by
  have hs := flat_of_before _ h
  intro i hi
  match i, hi with
  | 0, _ => exact hs _ (by decide +kernel)
  | 1, _ => exact hs _ (by decide +kernel)
  | 2, _ => exact hs _ (by decide +kernel)
  | 3, _ => exact hs _ (by decide +kernel)
  | 4, _ => exact hs _ (by decide +kernel)
  | 5, _ => exact hs _ (by decide +kernel)
  | 6, _ => exact hs _ (by decide +kernel)
  | n + 7, hi => omega
theorem ax_t4 {args : Array Value} {s : State} (h : (Jvm.Cond.and given_1 narrow_1).before args s = true) : ∀ i : Nat, i < 7 → (Cond.eq (.length (.field (ax_tm i) "java/lang/String" "value" "[B")) (.int (Int32.ofNat ((ax_SB.map List.length).getD i 0)))).before args s = true := by
  have hs := flat_of_before _ h
  intro i hi
  match i, hi with
  | 0, _ => exact hs _ (by decide +kernel)
  | 1, _ => exact hs _ (by decide +kernel)
  | 2, _ => exact hs _ (by decide +kernel)
  | 3, _ => exact hs _ (by decide +kernel)
  | 4, _ => exact hs _ (by decide +kernel)
  | 5, _ => exact hs _ (by decide +kernel)
  | 6, _ => exact hs _ (by decide +kernel)
  | n + 7, hi => omega
theorem ax_t5 {args : Array Value} {s : State} (h : (Jvm.Cond.and given_1 narrow_1).before args s = true) : ∀ i : Nat, i < 7 → ∀ j : Nat, j < (ax_SB.map List.length).getD i 0 → (Cond.eq (.elem (.field (ax_tm i) "java/lang/String" "value" "[B") (.int (Int32.ofNat j))) (.int ((ax_SB.getD i []).getD j 0))).before args s = true := by
  have hs := flat_of_before _ h
  intro i hi
  match i, hi with
  | 0, _ =>
    intro j hj
    have hj : j < 7 := hj
    match j, hj with
    | 0, _ => exact hs _ (by decide +kernel)
    | 1, _ => exact hs _ (by decide +kernel)
    | 2, _ => exact hs _ (by decide +kernel)
    | 3, _ => exact hs _ (by decide +kernel)
    | 4, _ => exact hs _ (by decide +kernel)
    | 5, _ => exact hs _ (by decide +kernel)
    | 6, _ => exact hs _ (by decide +kernel)
    | k + 7, hj => omega
  | 1, _ =>
    intro j hj
    have hj : j < 6 := hj
    match j, hj with
    | 0, _ => exact hs _ (by decide +kernel)
    | 1, _ => exact hs _ (by decide +kernel)
    | 2, _ => exact hs _ (by decide +kernel)
    | 3, _ => exact hs _ (by decide +kernel)
    | 4, _ => exact hs _ (by decide +kernel)
    | 5, _ => exact hs _ (by decide +kernel)
    | k + 6, hj => omega
  | 2, _ =>
    intro j hj
    have hj : j < 4 := hj
    match j, hj with
    | 0, _ => exact hs _ (by decide +kernel)
    | 1, _ => exact hs _ (by decide +kernel)
    | 2, _ => exact hs _ (by decide +kernel)
    | 3, _ => exact hs _ (by decide +kernel)
    | k + 4, hj => omega
  | 3, _ =>
    intro j hj
    have hj : j < 4 := hj
    match j, hj with
    | 0, _ => exact hs _ (by decide +kernel)
    | 1, _ => exact hs _ (by decide +kernel)
    | 2, _ => exact hs _ (by decide +kernel)
    | 3, _ => exact hs _ (by decide +kernel)
    | k + 4, hj => omega
  | 4, _ =>
    intro j hj
    have hj : j < 3 := hj
    match j, hj with
    | 0, _ => exact hs _ (by decide +kernel)
    | 1, _ => exact hs _ (by decide +kernel)
    | 2, _ => exact hs _ (by decide +kernel)
    | k + 3, hj => omega
  | 5, _ =>
    intro j hj
    have hj : j < 4 := hj
    match j, hj with
    | 0, _ => exact hs _ (by decide +kernel)
    | 1, _ => exact hs _ (by decide +kernel)
    | 2, _ => exact hs _ (by decide +kernel)
    | 3, _ => exact hs _ (by decide +kernel)
    | k + 4, hj => omega
  | 6, _ =>
    intro j hj
    have hj : j < 4 := hj
    match j, hj with
    | 0, _ => exact hs _ (by decide +kernel)
    | 1, _ => exact hs _ (by decide +kernel)
    | 2, _ => exact hs _ (by decide +kernel)
    | 3, _ => exact hs _ (by decide +kernel)
    | k + 4, hj => omega
  | n + 7, hi => omega
theorem ax_t6 {args : Array Value} {s : State} (h : (Jvm.Cond.and given_1 narrow_1).before args s = true) : ∀ i j : Nat, i < 7 → j < 7 → i ≠ j → (Cond.not (Cond.eq (ax_tm i) (ax_tm j))).before args s = true ∨ (Cond.not (Cond.eq (ax_tm j) (ax_tm i))).before args s = true := by
  have hs := flat_of_before _ h
  have k : ∀ i j : Nat, i < 7 → j < i → (Cond.not (Cond.eq (ax_tm j) (ax_tm i))).before args s = true := by
    intro i j hi hj
    match i, hi with
    | 0, _ =>
      match j, hj with
      | k, hj => omega
    | 1, _ =>
      match j, hj with
      | 0, _ => exact hs _ (by decide +kernel)
      | k + 1, hj => omega
    | 2, _ =>
      match j, hj with
      | 0, _ => exact hs _ (by decide +kernel)
      | 1, _ => exact hs _ (by decide +kernel)
      | k + 2, hj => omega
    | 3, _ =>
      match j, hj with
      | 0, _ => exact hs _ (by decide +kernel)
      | 1, _ => exact hs _ (by decide +kernel)
      | 2, _ => exact hs _ (by decide +kernel)
      | k + 3, hj => omega
    | 4, _ =>
      match j, hj with
      | 0, _ => exact hs _ (by decide +kernel)
      | 1, _ => exact hs _ (by decide +kernel)
      | 2, _ => exact hs _ (by decide +kernel)
      | 3, _ => exact hs _ (by decide +kernel)
      | k + 4, hj => omega
    | 5, _ =>
      match j, hj with
      | 0, _ => exact hs _ (by decide +kernel)
      | 1, _ => exact hs _ (by decide +kernel)
      | 2, _ => exact hs _ (by decide +kernel)
      | 3, _ => exact hs _ (by decide +kernel)
      | 4, _ => exact hs _ (by decide +kernel)
      | k + 5, hj => omega
    | 6, _ =>
      match j, hj with
      | 0, _ => exact hs _ (by decide +kernel)
      | 1, _ => exact hs _ (by decide +kernel)
      | 2, _ => exact hs _ (by decide +kernel)
      | 3, _ => exact hs _ (by decide +kernel)
      | 4, _ => exact hs _ (by decide +kernel)
      | 5, _ => exact hs _ (by decide +kernel)
      | k + 6, hj => omega
    | n + 7, hi => omega
  intro i j hi hj hn
  rcases Nat.lt_or_gt_of_ne hn with q | q
  · exact Or.inl (k j i hj q)
  · exact Or.inr (k i j hi q)
theorem ax_t7 {args : Array Value} {s : State} (h : (Jvm.Cond.and given_1 narrow_1).before args s = true) : (Cond.eq (.static "java/lang/String" "COMPACT_STRINGS" "Z") (.int 1)).before args s = true := by
  have hs := flat_of_before _ h
  exact hs _ (by decide +kernel)
theorem ax_t8 {args : Array Value} {s : State} (h : (Jvm.Cond.and given_1 narrow_1).before args s = true) : (Cond.isRef (.static "jdk/internal/util/Preconditions" "SIOOBE_FORMATTER" "Ljava/util/function/BiFunction;")).before args s = true := by
  have hs := flat_of_before _ h
  exact hs _ (by decide +kernel)
def ax_sw : List Jvm.Cond := [.laysStatic "java/lang/String" "COMPACT_STRINGS" "Z", .laysStatic "jdk/internal/util/Preconditions" "SIOOBE_FORMATTER" "Ljava/util/function/BiFunction;", .initialized "java/lang/String", .initialized "jdk/internal/util/Preconditions"]
theorem ax_sw_b : (ax_sw.all fun w => decide (w ∈ lw_tbl)) = true := by decide +kernel
theorem ax_sw_in {w : Jvm.Cond} (h : w ∈ ax_sw) : w ∈ lw_tbl := of_decide_eq_true (List.all_eq_true.mp ax_sw_b w h)
theorem ax_ar {s : State} {args : Array Value} {t : FieldType} (h : (Jvm.Cond.arrayClass t).before args s = true) (ht : va_RA s = va_RA s) : ∃ cA : ClassId, ArrOfT s cA t ∧ s.vm.findClass ("[" ++ t.toString) = some cA := by
  obtain ⟨cA, kA, comp, h1, h2, h3⟩ := Cond.arrayClass_spec h
  exact ⟨cA, fun n z => ⟨fun k h => (by cases h), kA, h2, comp, h3⟩, h1⟩
theorem ax_Ts_w {j : Nat} {q : String × Nat × String} (h : ax_SK[j]? = some q) : Jvm.Cond.stringRef q.1 q.2.1 q.2.2 ∈ lw_tbl ∧ ax_tm j = .string q.1 q.2.1 ∧ j < 7 := by
  have hl : j < 7 := (List.getElem?_eq_some_iff.mp h).1
  match j, hl, h with
  | 0, _, h => cases h; exact ⟨ax_w_in (i := 715) (by decide +kernel), rfl, by decide⟩
  | 1, _, h => cases h; exact ⟨ax_w_in (i := 806) (by decide +kernel), rfl, by decide⟩
  | 2, _, h => cases h; exact ⟨ax_w_in (i := 815) (by decide +kernel), rfl, by decide⟩
  | 3, _, h => cases h; exact ⟨ax_w_in (i := 877) (by decide +kernel), rfl, by decide⟩
  | 4, _, h => cases h; exact ⟨ax_w_in (i := 887) (by decide +kernel), rfl, by decide⟩
  | 5, _, h => cases h; exact ⟨ax_w_in (i := 908) (by decide +kernel), rfl, by decide⟩
  | 6, _, h => cases h; exact ⟨ax_w_in (i := 913) (by decide +kernel), rfl, by decide⟩
set_option maxHeartbeats 4000000 in
theorem ax_launch {s : State} {b L : Nat} {xs : Nat → Int32} (hts : ∀ w ∈ lw_tbl, w.before #[Value.ref b] s = true) (hX : va_X b L xs s s.heap) (hbl : b < s.heap.size) (hgv : (Jvm.Cond.and given_1 narrow_1).before #[Value.ref b] s = true) : ∃ g : ax_G, g.1 = s.heap.size ∧ g.2.2.2.1 = (b, L, xs) ∧ ax_E g s := by
  have htb : ∀ w ∈ ax_TB, w.before #[Value.ref b] s = true := fun w hw => hts w (List.mem_filter.mp hw).1
  have hA : ∀ a : Nat, a < s.heap.size → ¬ s.heap.size ≤ a := fun a ha => Nat.not_le.mpr ha
  have h0 : ∀ k : Nat, ∃ q : ClassId × (Nat → Nat), ∀ c, vwCl[k]? = some c → u_Kn s c.1 c.2.1 c.2.2 q.1 q.2 := by
    intro k
    cases hk : vwCl[k]? with
    | none => exact ⟨(0, fun _ => 0), fun c hc => by cases hc⟩
    | some c =>
      obtain ⟨cC, iS, h⟩ := u_known (C := c.1) (T := c.2.1) (N := c.2.2) (n := c.2.2) htb (ax_cl_in hk) (htb _ (ax_cI_in hk).1)
      exact ⟨(cC, iS), fun c' hc => by cases hc; exact h⟩
  obtain ⟨f, hf⟩ := Classical.axiomOfChoice h0
  obtain ⟨cI, aI, nI1⟩ := ax_ar (htb (.arrayClass .int) (ax_ow_in (List.mem_of_getElem? (i := 0) rfl))) rfl
  obtain ⟨cB, aB, nB1⟩ := ax_ar (htb (.arrayClass .byte) (ax_ow_in (List.mem_of_getElem? (i := 1) rfl))) rfl
  obtain ⟨cZ, aZ, nZ1⟩ := ax_ar (htb (.arrayClass .boolean) (ax_ow_in (List.mem_of_getElem? (i := 2) rfl))) rfl
  obtain ⟨adK, adV, hVS, hev⟩ := vk_Sof (tm := ax_tm) (len := ax_SB.map List.length) (byt := ax_SB) (N := 7) (A := fun q => s.heap.size ≤ q) (by decide) (ax_t1 hgv) (ax_t2 hgv) (ax_t3 hgv) (ax_t4 hgv) (ax_t5 hgv) (ax_t6 hgv) hA
  obtain ⟨v, hv, hvr⟩ := Cond.isRef_spec (args := #[Value.ref b]) (first := s) (o := none) (s := s) (idx := []) (ax_t8 hgv)
  have hv2 : ∃ fm : Option Nat, v = (match fm with
      | none => .null
      | some q => .ref q) := by
    cases v with
    | null => exact ⟨none, rfl⟩
    | ref a => exact ⟨some a, rfl⟩
    | _ => cases hvr
  obtain ⟨fm, rfl⟩ := hv2
  refine ⟨(s.heap.size, (fun k => (f k).1, fun k => (f k).2), (cI, cB, cZ), (b, L, xs), adK, adV, fm), rfl, rfl, ⟨fun k c hc => hf k c hc, fun k q hq => ?_⟩, fun w hw hn => ?_, fun j q hq => ?_, hVS, hX, hbl, ?_, ?_⟩
  · match k, hq with
    | 0, hq => cases hq; exact ⟨aI, nI1⟩
    | 1, hq => cases hq; exact ⟨aB, nB1⟩
    | 2, hq => cases hq; exact ⟨aZ, nZ1⟩
    | k + 3, hq => simp [ax_tys] at hq
  · have k := hts w hw
    cases w <;> first | exact va_Nw.of rfl k | cases hn
  · obtain ⟨h1, h2, h3⟩ := ax_Ts_w hq
    have k := hev j h3
    rw [h2] at k
    exact vk_R.of (hts _ h1) k
  · exact va_Zof (hts _ (ax_sw_in (List.mem_of_getElem? (i := 0) rfl))) (hts _ (ax_sw_in (List.mem_of_getElem? (i := 2) rfl))) (va_eqt (ax_t7 hgv)) hA
  · exact va_Zof (hts _ (ax_sw_in (List.mem_of_getElem? (i := 1) rfl))) (hts _ (ax_sw_in (List.mem_of_getElem? (i := 3) rfl))) hv hA
