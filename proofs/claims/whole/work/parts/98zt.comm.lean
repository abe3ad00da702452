/-! TREES: marks that never change -/
theorem andC_b (W : Nat → Int32) {b : Nat} (hb : b < 32) : ∀ e, bt (andC W e) b = true ↔ ∀ j, j < e → bt (W j) b = true
  | 0 => by
    show bt (-1) b = true ↔ _
    rw [bt_m1 hb]
    exact ⟨fun _ j hj => absurd hj (Nat.not_lt_zero j), fun _ => rfl⟩
  | e + 1 => by
    show bt (andC W e &&& W e) b = true ↔ _
    rw [bt_and, Bool.and_eq_true, andC_b W hb e]
    constructor
    · rintro ⟨h1, h2⟩ j hj
      by_cases q : j = e
      · rw [q]; exact h2
      · exact h1 j (by omega)
    · intro h
      exact ⟨fun j hj => h j (by omega), h e (by omega)⟩
theorem orC_b (W : Nat → Int32) (b : Nat) : ∀ e, bt (orC W e) b = true ↔ ∃ j, j < e ∧ bt (W j) b = true
  | 0 => by
    show bt 0 b = true ↔ _
    rw [bt_0]
    exact ⟨fun z => absurd z (by decide), fun ⟨j, hj, _⟩ => absurd hj (Nat.not_lt_zero j)⟩
  | e + 1 => by
    show bt (orC W e ||| W e) b = true ↔ _
    rw [bt_or, Bool.or_eq_true, orC_b W b e]
    constructor
    · rintro (⟨j, h1, h2⟩ | h)
      · exact ⟨j, by omega, h2⟩
      · exact ⟨e, by omega, h⟩
    · rintro ⟨j, h1, h2⟩
      by_cases q : j = e
      · rw [q] at h2; exact Or.inr h2
      · exact Or.inl ⟨j, by omega, h2⟩
theorem bt_some {x : Int32} (h : x ≠ 0) : ∃ b, b < 32 ∧ bt x b = true := by
  apply Classical.byContradiction
  intro z
  refine h (bt_ext (fun b hb => ?_))
  rw [bt_0]
  cases q : bt x b
  · rfl
  · exact absurd ⟨b, hb, q⟩ z
theorem bt_nz {x : Int32} {b : Nat} (h : bt x b = true) : x ≠ 0 := fun z => by
  rw [z, bt_0] at h
  cases h
abbrev fA (a b : Int32) : Int32 := a &&& b
theorem rn_one {b : Nat} : ∀ (L : List (Nat × Nat × Nat)) (V : Nat → Int32), (∀ n, bt (V n) b = true) → rnN fF L V = 0 ∧ rnV fF L V = rnV fA L V
  | [], _, _ => ⟨rfl, rfl⟩
  | p :: xs, V, h => by
    have hb : bt (V p.2.1 &&& V p.2.2) b = true := by rw [bt_and, h, h]; rfl
    have hn : ¬ (V p.2.1 &&& V p.2.2) = 0 := bt_nz hb
    have hf : fF (V p.2.1) (V p.2.2) = V p.2.1 &&& V p.2.2 := if_neg hn
    obtain ⟨h1, h2⟩ := rn_one (b := b) xs (upd V p.1 (V p.2.1 &&& V p.2.2)) (fun n => by
      by_cases q : n = p.1
      · rw [q, upd_1]; exact hb
      · rw [upd_n _ _ q]; exact h n)
    refine ⟨?_, ?_⟩
    · show (if V p.2.1 &&& V p.2.2 = 0 then 1 else 0) + rnN fF xs (upd V p.1 (fF (V p.2.1) (V p.2.2))) = 0
      rw [if_neg hn, hf, h1]
    · show rnV fF xs (upd V p.1 (fF (V p.2.1) (V p.2.2))) = rnV fA xs (upd V p.1 (V p.2.1 &&& V p.2.2))
      rw [hf, h2]
theorem em_and {V : Nat → Int32} {b : Nat} : ∀ (x : Tr) (s : List Int32), (∀ v, v ∈ evT fA x V s → bt v b = true) ↔ ((∀ v, v ∈ s → bt v b = true) ∧ ∀ n, n ∈ x → n ≠ 200 → bt (V n) b = true)
  | [], s => ⟨fun h => ⟨h, fun n hn => by cases hn⟩, fun h => h.1⟩
  | a :: xs, s => by
    have ih := fun s => em_and (V := V) (b := b) xs s
    show (∀ v, v ∈ evT fA xs V (if a = 200 then _ else V a :: s) → bt v b = true) ↔ _
    by_cases q : a = 200
    · rw [if_pos q, ih]
      have tail : (∀ n, n ∈ a :: xs → n ≠ 200 → bt (V n) b = true) ↔ ∀ n, n ∈ xs → n ≠ 200 → bt (V n) b = true := by
        constructor
        · exact fun h n hn => h n (List.mem_cons_of_mem _ hn)
        · intro h n hn h2
          rcases List.mem_cons.mp hn with z | z
          · exact absurd (z.trans q) h2
          · exact h n z h2
      rw [tail]
      match s with
      | [] => exact Iff.rfl
      | [c] => exact Iff.rfl
      | c :: e :: r =>
        have : (∀ v, v ∈ (e &&& c) :: r → bt v b = true) ↔ ∀ v, v ∈ c :: e :: r → bt v b = true := by
          constructor
          · intro h v hv
            have h0 := h _ (List.mem_cons_self ..)
            rw [bt_and, Bool.and_eq_true] at h0
            rcases List.mem_cons.mp hv with z | z
            · rw [z]; exact h0.2
            · rcases List.mem_cons.mp z with y | y
              · rw [y]; exact h0.1
              · exact h v (List.mem_cons_of_mem _ y)
          · intro h v hv
            rcases List.mem_cons.mp hv with z | z
            · rw [z, bt_and, h e (List.mem_cons_of_mem _ (List.mem_cons_self ..)), h c (List.mem_cons_self ..)]
              rfl
            · exact h v (List.mem_cons_of_mem _ (List.mem_cons_of_mem _ z))
        exact and_congr this Iff.rfl
    · rw [if_neg q, ih]
      constructor
      · rintro ⟨h1, h2⟩
        refine ⟨fun v hv => h1 v (List.mem_cons_of_mem _ hv), fun n hn hn2 => ?_⟩
        rcases List.mem_cons.mp hn with z | z
        · rw [z]; exact h1 _ (List.mem_cons_self ..)
        · exact h2 n z hn2
      · rintro ⟨h1, h2⟩
        refine ⟨fun v hv => ?_, fun n hn => h2 n (List.mem_cons_of_mem _ hn)⟩
        rcases List.mem_cons.mp hv with z | z
        · rw [z]; exact h2 a (List.mem_cons_self ..) q
        · exact h1 v z
theorem nT_common {e t : Nat} {W : Nat → Int32} (h2 : 2 ≤ e) (h6 : e ≤ 6) (ht : t < allN e) (hC : andC W e ≠ 0) : nT e t W = 0 ∧ tpT e t W = andC W e := by
  obtain ⟨b0, hb0, hb1⟩ := bt_some hC
  obtain ⟨V, hV⟩ : ∃ V : Nat → Int32, V = fun n => if (n + 1) / 2 < e then W ((n + 1) / 2) else -1 := ⟨_, rfl⟩
  have hVb : ∀ n, bt (V n) b0 = true := fun n => by
    rw [hV]
    by_cases q : (n + 1) / 2 < e
    · (try simp only)
      rw [if_pos q]
      exact (andC_b W hb0 e).mp hb1 _ q
    · (try simp only)
      rw [if_neg q]
      exact bt_m1 hb0
  obtain ⟨c1', c2⟩ := cls_tree h2 h6 ht V W (fun n _ _ hn => by
    rw [hV]
    (try simp only)
    rw [if_pos hn])
  obtain ⟨o1, o2⟩ := rn_one (cProg (cTree e t)) V hVb
  refine ⟨by rw [← c1', o1], ?_⟩
  obtain ⟨d1, -, d3, d4, -, -⟩ := chd_of h2 h6 ht
  obtain ⟨r1, r2, r3, -⟩ := rn_sym fA V (fun n => n < 11) (cProg (cTree e t)) (fun n => [n]) V (fun n hn => okT_at fA V (by omega)) (fun p hp => ⟨(d1 p hp).1.2, (d1 p hp).2⟩)
  have hl : (cProg (cTree e t)).length = e - 1 := by
    show (List.map _ _).length = _
    rw [List.length_map]
    exact d4
  have hp := cP_g (g := cTree e t) (k := e - 2) (by rw [d4]; omega)
  have hls : (cSym e t).length = e - 1 := r2.trans hl
  obtain ⟨x, hx⟩ : ∃ x, (cSym e t)[e - 2]? = some x := ⟨_, List.getElem?_eq_getElem (by rw [hls]; omega)⟩
  have o := r3 (e - 2) _ x hp hx
  rw [show e - 2 + 1 = e - 1 by omega, List.take_of_length_le (by rw [hl]; exact Nat.le_refl _)] at o
  have hg : (cSym e t).getLast? = some x := by
    rw [List.getLast?_eq_getElem?, hls, show e - 1 - 1 = e - 2 by omega, hx]
  rw [← c2, o2]
  have o := o []
  generalize rnV fA (cProg (cTree e t)) V (gN (cTree e t).2.2.2 (e - 2)) = v at o
  refine bt_eq (fun b hb => ?_)
  have h := em_and (V := V) (b := b) x []
  rw [o] at h
  have h3 : bt v b = true ↔ ∀ n, n ∈ x → n ≠ 200 → bt (V n) b = true := by
    constructor
    · intro z
      exact (h.mp (fun w hw => by rw [List.mem_singleton.mp hw]; exact z)).2
    · intro z
      exact h.mpr ⟨fun w hw => absurd hw (List.not_mem_nil), z⟩ v (List.mem_singleton.mpr rfl)
  rw [h3, andC_b W hb]
  constructor
  · intro z j hj
    have hm := chf_of h2 h6 ht hj
    rw [hg] at hm
    have hlj := leafN_h j
    have := z (leafN j) hm (by omega)
    rw [hV] at this
    simp only at this
    rw [hlj.1, if_pos hj] at this
    exact this
  · intro z n hn hn2
    obtain y | ⟨y1, y2⟩ := d3 x (List.mem_of_getElem? hx) n hn
    · exact absurd y hn2
    · rw [hV]
      (try simp only)
      rw [if_pos y2]
      exact z _ y2
theorem em_bits {V : Nat → Int32} {b : Nat} : ∀ (x : Tr) (s : List Int32), (∃ v, v ∈ evT fF x V s ∧ bt v b = true) → (∃ v, v ∈ s ∧ bt v b = true) ∨ ∃ n, n ∈ x ∧ n ≠ 200 ∧ bt (V n) b = true
  | [], s, h => Or.inl h
  | a :: xs, s, h => by
    have ih := fun s => em_bits (V := V) (b := b) xs s
    have h : ∃ v, v ∈ evT fF xs V (if a = 200 then (match s with
      | b :: a :: r => fF a b :: r
      | s => s) else V a :: s) ∧ bt v b = true := h
    by_cases q : a = 200
    · rw [if_pos q] at h
      obtain z | ⟨n, z1, z2⟩ := ih _ h
      · match s, z with
        | [], z => exact Or.inl z
        | [c], z => exact Or.inl z
        | c :: e :: r, ⟨v, hv, hb⟩ =>
          rcases List.mem_cons.mp hv with y | y
          · have hce : bt e b = true ∨ bt c b = true := by
              rw [y] at hb
              have hb : bt (if e &&& c = 0 then e ||| c else e &&& c) b = true := hb
              by_cases w : e &&& c = 0
              · rw [if_pos w, bt_or, Bool.or_eq_true] at hb
                exact hb
              · rw [if_neg w, bt_and, Bool.and_eq_true] at hb
                exact Or.inl hb.1
            obtain w | w := hce
            · exact Or.inl ⟨e, List.mem_cons_of_mem _ (List.mem_cons_self ..), w⟩
            · exact Or.inl ⟨c, List.mem_cons_self .., w⟩
          · exact Or.inl ⟨v, List.mem_cons_of_mem _ (List.mem_cons_of_mem _ y), hb⟩
      · exact Or.inr ⟨n, List.mem_cons_of_mem _ z1, z2⟩
    · rw [if_neg q] at h
      obtain ⟨v, hv, hb⟩ | ⟨n, z1, z2⟩ := ih _ h
      · rcases List.mem_cons.mp hv with y | y
        · exact Or.inr ⟨a, List.mem_cons_self .., q, by rw [← y]; exact hb⟩
        · exact Or.inl ⟨v, y, hb⟩
      · exact Or.inr ⟨n, List.mem_cons_of_mem _ z1, z2⟩
theorem tpT_b {e t b : Nat} {W : Nat → Int32} (h2 : 2 ≤ e) (h6 : e ≤ 6) (ht : t < allN e) (h : bt (tpT e t W) b = true) : ∃ j, j < e ∧ bt (W j) b = true := by
  obtain ⟨-, -, d3, -⟩ := chd_of h2 h6 ht
  unfold tpT at h
  cases hg : (cSym e t).getLast? with
  | none =>
    rw [hg] at h
    have h : bt 0 b = true := h
    rw [bt_0] at h
    cases h
  | some x =>
    rw [hg] at h
    have h : bt ((evT fF x (VL W) []).headD 0) b = true := h
    cases he : evT fF x (VL W) [] with
    | nil =>
      rw [he] at h
      have h : bt 0 b = true := h
      rw [bt_0] at h
      cases h
    | cons v r =>
      rw [he] at h
      obtain ⟨w, hw, -⟩ | ⟨n, z1, z2, z3⟩ := em_bits (V := VL W) (b := b) x [] ⟨v, by rw [he]; exact List.mem_cons_self .., h⟩
      · cases hw
      · obtain y | ⟨y1, y2⟩ := d3 x (List.mem_of_getLast? hg) n z1
        · exact absurd y z2
        · exact ⟨_, y2, z3⟩
/-- both count the same -/
theorem vy_K {e m : Nat} {K : Nat → Nat} {F : Nat → Nat → Nat} {u cd : Nat → Nat → Int32} (h2 : 2 ≤ e) (hR : RV (K m) (F m) (u m) e) (hcd : ∀ j, j < e → cd m j = encF (F m) (u m j) (K m)) : (K m = 0 → andC (cd m) e = 0 ∧ orC (cd m) e = 0) ∧ (K m ≠ 0 → orC (cd m) e ≠ 0) := by
  refine ⟨fun z => ?_, fun z => ?_⟩
  · have h0 : ∀ j, j < e → cd m j = 0 := fun j hj => by rw [hcd j hj, z]; rfl
    refine ⟨bt_ext (fun b hb => ?_), bt_ext (fun b _ => ?_)⟩
    · rw [bt_0]
      cases q : bt (andC (cd m) e) b
      · rfl
      · have := (andC_b (cd m) hb e).mp q 0 (by omega)
        rw [h0 0 (by omega), bt_0] at this
        cases this
    · rw [bt_0]
      cases q : bt (orC (cd m) e) b
      · rfl
      · obtain ⟨j, j1, j2⟩ := (orC_b (cd m) b e).mp q
        rw [h0 j j1, bt_0] at j2
        cases j2
  · obtain ⟨r1, r2, r3, r4⟩ := hR
    obtain ⟨w1, x, x1, x2⟩ := r3 0 (by omega)
    refine bt_nz (b := 0) ((orC_b (cd m) 0 e).mpr ⟨x, x1, ?_⟩)
    rw [hcd x x1, x2, enc_val r2 (fun i hi => (r3 i hi).1) (show 0 < K m by omega) (K m) (Nat.le_refl _), if_neg (by omega)]
    rfl
theorem nA_nB {e t : Nat} {K : Nat → Nat} {F : Nat → Nat → Nat} {u cd : Nat → Nat → Int32} (h2 : 2 ≤ e) (h6 : e ≤ 6) (ht : t < allN e) (hR : ∀ m, m < 11 → RV (K m) (F m) (u m) e) (hcd : ∀ m, m < 11 → ∀ j, j < e → cd m j = encF (F m) (u m j) (K m)) : nA e cd t = nB e K cd t := by
  unfold nA nB
  rw [nS_vl (fun x => nT e t (cd x))]
  refine nS_c 11 (fun m hm => ?_)
  obtain ⟨k1, k2⟩ := vy_K h2 (hR m hm) (hcd m hm)
  by_cases q : vyB cd e m = true
  · have hq : andC (cd m) e = 0 ∧ orC (cd m) e ≠ 0 := of_decide_eq_true q
    rw [if_pos q, if_neg (fun z => hq.2 (k1 z).2)]
  · rw [if_neg q]
    by_cases z : K m = 0
    · rw [if_pos z]
    · rw [if_neg z, (nT_common h2 h6 ht (fun y => q (decide_eq_true ⟨y, k2 z⟩))).1]
