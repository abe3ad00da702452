/-! TREES: joins as sets of cards -/
theorem mkN_B {E : Nat → Nat} {m B : Nat} : ∀ j, (∀ i, i < j → E i < B) → mkN E m j < 2 ^ B
  | 0, _ => Nat.pow_pos (by omega)
  | j + 1, h => by
    have ih := mkN_B (E := E) (m := m) (B := B) j (fun i hi => h i (by omega))
    show (if m.testBit j then mkN E m j ||| 2 ^ E j else mkN E m j) < 2 ^ B
    by_cases q : m.testBit j = true
    · rw [if_pos q]
      exact Nat.or_lt_two_pow ih (Nat.pow_lt_pow_right (by omega) (h j (by omega)))
    · rw [if_neg q]
      exact ih
theorem mkN_mono {E : Nat → Nat} {a b : Nat} : ∀ j, (∀ i k, i < k → k < j → E i < E k) → (a % 2 ^ j < b % 2 ^ j → mkN E a j < mkN E b j) ∧ (a % 2 ^ j = b % 2 ^ j → mkN E a j = mkN E b j)
  | 0, _ => ⟨fun h => by rw [Nat.pow_zero, Nat.mod_one, Nat.mod_one] at h; omega, fun _ => rfl⟩
  | j + 1, h => by
    obtain ⟨i1, i2⟩ := mkN_mono (E := E) (a := a) (b := b) j (fun i k h1 h2 => h i k h1 (by omega))
    have ha : a % 2 ^ j < 2 ^ j := Nat.mod_lt _ (Nat.pow_pos (by omega))
    have hb : b % 2 ^ j < 2 ^ j := Nat.mod_lt _ (Nat.pow_pos (by omega))
    have lo : ∀ m, mkN E m j < 2 ^ E j := fun m => mkN_B j (fun i hi => h i j hi (by omega))
    have tw : ∀ m, m.testBit j = true → mkN E m (j + 1) = mkN E m j + 2 ^ E j := fun m hm => by
      show (if m.testBit j then mkN E m j ||| 2 ^ E j else mkN E m j) = _
      rw [if_pos hm, Nat.or_comm]
      have := Nat.two_pow_add_eq_or_of_lt (lo m) 1
      rw [Nat.mul_one] at this
      omega
    have fw : ∀ m, ¬ m.testBit j = true → mkN E m (j + 1) = mkN E m j := fun m hm => by
      show (if m.testBit j then mkN E m j ||| 2 ^ E j else mkN E m j) = _
      rw [if_neg hm]
    have md : ∀ m, m % 2 ^ (j + 1) = m % 2 ^ j + 2 ^ j * (m.testBit j).toNat := fun m => by
      rw [Nat.toNat_testBit, Nat.mod_pow_succ]
    rw [md a, md b]
    by_cases qa : a.testBit j = true
    · by_cases qb : b.testBit j = true
      · rw [qa, qb, tw a qa, tw b qb]
        exact ⟨fun z => by have := i1 (by omega); omega, fun z => by have := i2 (by omega); omega⟩
      · have qb' : b.testBit j = false := by simpa using qb
        rw [qa, qb', show (true).toNat = 1 from rfl, show (false).toNat = 0 from rfl]
        exact ⟨fun z => by omega, fun z => by omega⟩
    · have qa' : a.testBit j = false := by simpa using qa
      by_cases qb : b.testBit j = true
      · rw [qb, qa', show (true).toNat = 1 from rfl, show (false).toNat = 0 from rfl, tw b qb, fw a qa]
        have := lo a
        exact ⟨fun z => by omega, fun z => by omega⟩
      · have qb' : b.testBit j = false := by simpa using qb
        rw [qa', qb', fw a qa, fw b qb]
        exact ⟨fun z => i1 (by omega), fun z => i2 (by omega)⟩
theorem mkN_lt2 {E : Nat → Nat} {a b e : Nat} (hE : ∀ i k, i < k → k < e → E i < E k) (hb : b < 2 ^ e) (h : a < b) : mkN E a e < mkN E b e := (mkN_mono e hE).1 (by rw [Nat.mod_eq_of_lt hb, Nat.mod_eq_of_lt (by omega)]; exact h)
theorem mkN_inj {E : Nat → Nat} {a b e : Nat} (hE : ∀ i k, i < k → k < e → E i < E k) (ha : a < 2 ^ e) (hb : b < 2 ^ e) (h : mkN E a e = mkN E b e) : a = b := by
  by_cases q : a < b
  · have := mkN_lt2 hE hb q
    omega
  · by_cases y : b < a
    · have := mkN_lt2 hE ha y
      omega
    · omega
/-- all ends are all cards -/
theorem mkN_full {X n : Nat} (hX : X < 2 ^ n) : mkN (gN (enL X n)) (2 ^ (enL X n).length - 1) (enL X n).length = X := by
  refine Nat.eq_of_testBit_eq (fun o => ?_)
  have h := mkN_b (E := gN (enL X n)) (m := 2 ^ (enL X n).length - 1) (o := o) (enL X n).length
  have h2 : (∃ j, j < (enL X n).length ∧ (2 ^ (enL X n).length - 1).testBit j = true ∧ gN (enL X n) j = o) ↔ X.testBit o = true := by
    constructor
    · rintro ⟨j, j1, -, j3⟩
      rw [← j3]
      exact (vlP_lt j1).2
    · intro z
      have ho : o < n := by
        by_cases q : o < n
        · exact q
        · rw [Nat.testBit_lt_two_pow (Nat.lt_of_lt_of_le hX (Nat.pow_le_pow_right (by omega) (show n ≤ o by omega)))] at z
          cases z
      obtain ⟨j, j1, j2⟩ := gN_x ((vlP_m (fun j => X.testBit j) n o).mpr ⟨ho, z⟩)
      refine ⟨j, j1, ?_, j2⟩
      rw [Nat.testBit_two_pow_sub_one]
      exact decide_eq_true j1
  rw [h2] at h
  cases ha : (mkN (gN (enL X n)) (2 ^ (enL X n).length - 1) (enL X n).length).testBit o <;> cases hb : X.testBit o <;> simp_all
theorem inc_eq : ∀ (l1 l2 : List Nat), l1.Pairwise (· < ·) → l2.Pairwise (· < ·) → (∀ x, x ∈ l1 ↔ x ∈ l2) → l1 = l2
  | [], [], _, _, _ => rfl
  | [], b :: l2, _, _, h => by
    have := (h b).mpr (List.mem_cons_self ..)
    cases this
  | a :: l1, [], _, _, h => by
    have := (h a).mp (List.mem_cons_self ..)
    cases this
  | a :: l1, b :: l2, p1, p2, h => by
    obtain ⟨a1, a2⟩ := List.pairwise_cons.mp p1
    obtain ⟨b1', b2⟩ := List.pairwise_cons.mp p2
    have hab : a = b := by
      rcases List.mem_cons.mp ((h a).mp (List.mem_cons_self ..)) with z | z
      · exact z
      · rcases List.mem_cons.mp ((h b).mpr (List.mem_cons_self ..)) with y | y
        · exact y.symm
        · have := a1 b y
          have := b1' a z
          omega
    subst hab
    rw [inc_eq l1 l2 a2 b2 (fun x => by
      have hx := h x
      rw [List.mem_cons, List.mem_cons] at hx
      constructor
      · intro z
        rcases hx.mp (Or.inr z) with y | y
        · have := a1 x z
          omega
        · exact y
      · intro z
        rcases hx.mpr (Or.inr z) with y | y
        · have := b1' x z
          omega
        · exact y)]
theorem vlP_pw (P : Nat → Bool) : ∀ m, (vlP P m).Pairwise (· < ·)
  | 0 => List.Pairwise.nil
  | m + 1 => by
    by_cases q : P m = true
    · rw [vlP_t q, List.pairwise_append]
      refine ⟨vlP_pw P m, List.pairwise_singleton _ _, fun a ha b hb => ?_⟩
      rw [List.mem_singleton.mp hb]
      exact ((vlP_m P m a).mp ha).1
    · rw [vlP_f q]
      exact vlP_pw P m
theorem gN_map {l : List Nat} {f : Nat → Nat} {i : Nat} (h : i < l.length) : gN (l.map f) i = f (gN l i) := by
  unfold gN
  rw [List.getD_eq_getElem?_getD, List.getD_eq_getElem?_getD, List.getElem?_map, List.getElem?_eq_getElem h]
  rfl
theorem sjv_map {l : List Nat} {f : Nat → Nat} {g h : Nat → Int64} {i : Int32} (h1 : ¬ i < -1) (he : ∀ x, x ∈ l → h (f x) = g x) : sjv (l.map f) h i = sjv l g i := by
  unfold sjv
  rw [List.length_map]
  by_cases q : i = -1
  · rw [if_pos q, if_pos q]
  · rw [if_neg q, if_neg q]
    by_cases z : i.toInt < l.length
    · have h3 : 0 ≤ i.toInt := by
        rw [i_lt, show (-1 : Int32).toInt = -1 from rfl] at h1
        rw [i_eq, show (-1 : Int32).toInt = -1 from rfl] at q
        omega
      obtain ⟨c, hc, e, e2⟩ := i_nI h3
      have hcl : c < l.length := by omega
      rw [if_pos z, if_pos z, e, nI_c hc, gN_map hcl, he _ (gN_m hcl)]
    · rw [if_neg z, if_neg z]
/-- the reference's joins of a tree -/
theorem m_isJoin (d : Nat) {σ : ax_S} {e t s n : Nat} {E : Nat → Nat} (hn : n ≤ 12) (he1 : 1 ≤ e) (he : e ≤ 6) (hs : s < 4096) (hL : MLay σ e t) (h25 : σ.1 82 25 = nI e) (hE : EC (σ.1 91) E e n) : ∃ v : Int32, cI sO d 267 [.ref 82, .int (nI s)] σ = some (v, σ) ∧ (v = 0 ∨ v = 1) ∧ (v = 1 ↔ ∃ x, x ∈ mJ e t ∧ mkN E x e = s) := by
  have h12 : ∀ j, j < e → E j < 12 := fun j hj => by have := (hE.1 j hj).2; omega
  have h95 : ∀ i, i < e - 1 → σ.1 95 (6 + i) = nI (mkN E (abvP (mTree e t).1 (6 + i) e) e) := fun i hi => by
    rw [hL.2 (6 + i) (by omega)]
    exact mkE_n e (fun j hj => ⟨(hE.1 j hj).1, h12 j hj⟩)
  have eq : ∀ i, i < e - 1 → (σ.1 95 (6 + i) = nI s ↔ mkN E (abvP (mTree e t).1 (6 + i) e) e = s) := fun i hi => by
    rw [h95 i hi]
    exact ⟨fun z => nI_inj (by have := mkN_lt (m := abvP (mTree e t).1 (6 + i) e) e h12; omega) (by omega) z, fun z => by rw [z]⟩
  obtain ⟨v, ⟨p1, p2⟩, a1⟩ := loop_P (E := fun k (v : Int32) => ev sO d 267 5 [.ref 82, .int (nI s), .int v, .int (nI (6 + k))] [] σ) (N := e - 1) (P := fun k v => (v = 0 ∨ v = 1) ∧ (v = 1 ↔ ∃ i, i < k ∧ mkN E (abvP (mTree e t).1 (6 + i) e) e = s)) (fun k v hk hp => by
    obtain ⟨p1, p2⟩ := hp
    have eu := u_267_82p5 d σ (nI s) v (nI (6 + k))
    rw [h25, show (5 : Int32) + nI e = nI (5 + e) from nI_pl (a := 5) (by omega), if_pos (nlt (show 6 + k < 5 + e by omega)), nI_c (show 6 + k < 2147483648 by omega), nI_add1] at eu
    obtain z | z := p1
    · rw [if_pos z, gd_t (nI_g (show 6 + k < 11 by omega) (by omega))] at eu
      by_cases q : σ.1 95 (6 + k) = nI s
      · rw [if_pos q] at eu
        exact ⟨1, ⟨Or.inr rfl, fun _ => ⟨k, by omega, (eq k hk).mp q⟩, fun _ => rfl⟩, eu⟩
      · rw [if_neg q] at eu
        refine ⟨0, ⟨Or.inl rfl, fun y => absurd y (by decide), fun ⟨i, i1, i2⟩ => ?_⟩, eu⟩
        by_cases w : i = k
        · rw [w] at i2
          exact absurd ((eq k hk).mpr i2) q
        · have := p2.mpr ⟨i, by omega, i2⟩
          rw [z] at this
          exact absurd this (by decide)
    · rw [if_neg (by rw [z]; decide)] at eu
      refine ⟨1, ⟨Or.inr rfl, fun _ => ?_, fun _ => rfl⟩, eu⟩
      obtain ⟨i, i1, i2⟩ := p2.mp z
      exact ⟨i, by omega, i2⟩) 0 ⟨Or.inl rfl, fun y => absurd y (by decide), fun ⟨i, hi, _⟩ => absurd hi (Nat.not_lt_zero i)⟩
  refine ⟨v, cI_ev mi_267 ((u_267_82 d σ (nI s)).trans (Eq.trans a1 ?_)) rfl, p1, p2.trans ?_⟩
  · rw [u_267_82p5 d σ (nI s) v (nI (6 + (e - 1))), h25, show (5 : Int32) + nI e = nI (5 + e) from nI_pl (a := 5) (by omega), if_neg (nnl (show 5 + e ≤ 6 + (e - 1) by omega) (by omega))]
    obtain z | z := p1 <;> rw [z] <;> rfl
  · constructor
    · rintro ⟨i, i1, i2⟩
      exact ⟨_, List.mem_map.mpr ⟨6 + i, List.mem_map.mpr ⟨i, List.mem_range.mpr i1, rfl⟩, rfl⟩, i2⟩
    · rintro ⟨x, x1, x2⟩
      obtain ⟨f, f1, f2⟩ := List.mem_map.mp (show x ∈ List.map _ (forksP e) from x1)
      obtain ⟨i, i1, i2⟩ := List.mem_map.mp (show f ∈ List.map _ (List.range (e - 1)) from f1)
      refine ⟨i, List.mem_range.mp i1, ?_⟩
      have i2 : 6 + i = f := i2
      rw [i2, f2]
      exact x2
