/-! THE LAW: its start -/
theorem bo_sim (xs : Nat → Int32) (n : Nat) : ax_Sim ax_cO (ax_lO xs n) (fun h => h) := by
  refine ⟨fun e => e, fun e => e, fun {h a t i x} e => ?_, fun e => e, fun {h a x} e => ?_, fun {h ci q} e => e, fun {h t k q} e => e, fun e => e, fun e => e⟩
  · have e : (if a = 1000 then none else ax_lld (fun _ => 0) 0 h a t i) = some x := e
    by_cases q : a = 1000
    · rw [if_pos q] at e
      cases e
    · rw [if_neg q] at e
      show ax_lld xs n h a t i = some x
      unfold ax_lld at e ⊢
      rw [if_neg q] at e ⊢
      exact e
  · have e : (if a = 1000 then none else ax_lln 0 h a) = some x := e
    by_cases q : a = 1000
    · rw [if_pos q] at e
      cases e
    · rw [if_neg q] at e
      show ax_lln n h a = some x
      unfold ax_lln at e ⊢
      rw [if_neg q] at e ⊢
      exact e
theorem bo_all : ∃ h0 h1 h2 h3 : ax_H, ax_lnw [] 10 = some (0, h0) ∧ ax_run ax_cO 2000 59 0 0 (ax_ent [.ref 0] 1) [] h0 = some (none, h1) ∧ ax_lnw h1 11 = some (82, h2) ∧ ax_run ax_cO 2000 59 195 0 (ax_ent [.ref 82] 1) [] h2 = some (none, h3) ∧ boH h3 = true := by
  have h := bo_ok
  unfold boL at h
  cases e1 : bo1 with
  | none =>
    rw [e1] at h
    cases h
  | some h1 =>
    rw [e1] at h
    simp only at h
    cases e2 : bo2 h1 with
    | none =>
      rw [e2] at h
      cases h
    | some h3 =>
      rw [e2] at h
      simp only at h
      unfold bo1 at e1
      unfold bo2 at e2
      cases q1 : ax_lnw [] 10 with
      | none =>
        rw [q1] at e1
        cases e1
      | some p =>
        rw [q1] at e1
        simp only at e1
        by_cases z1 : p.1 = 0
        · rw [if_pos z1] at e1
          cases r1 : ax_run ax_cO 2000 59 0 0 (ax_ent [.ref 0] 1) [] p.2 with
          | none =>
            rw [r1] at e1
            cases e1
          | some u =>
            rw [r1] at e1
            simp only at e1
            cases q2 : ax_lnw h1 11 with
            | none =>
              rw [q2] at e2
              cases e2
            | some p2 =>
              rw [q2] at e2
              simp only at e2
              by_cases z2 : p2.1 = 82
              · rw [if_pos z2] at e2
                cases r2 : ax_run ax_cO 2000 59 195 0 (ax_ent [.ref 82] 1) [] p2.2 with
                | none =>
                  rw [r2] at e2
                  cases e2
                | some u2 =>
                  rw [r2] at e2
                  simp only at e2
                  obtain ⟨p', hp⟩ := p
                  obtain ⟨p2', hp2⟩ := p2
                  obtain ⟨v, hu⟩ := u
                  obtain ⟨v2, hu2⟩ := u2
                  simp only at z1 z2 r1 r2
                  subst z1
                  subst z2
                  cases v with
                  | some v => cases e1
                  | none =>
                    cases v2 with
                    | some v2 => cases e2
                    | none =>
                      have e1 : hu = h1 := Option.some.inj e1
                      have e2 : hu2 = h3 := Option.some.inj e2
                      subst e1
                      subst e2
                      exact ⟨hp, hu, hp2, hu2, rfl, r1, q2, r2, h⟩
              · rw [if_neg z2] at e2
                cases e2
        · rw [if_neg z1] at e1
          cases e1
/-- the numbers of a heap -/
def boI (h : ax_H) (a k : Nat) : Int32 := match h[a]? with
  | some (.inl r) => r.2.2 k
  | some (.inr r) => match r.2[k]? with
    | some (.int x) => x
    | _ => 0
  | none => 0
def boJ (h : ax_H) : Int64 := match h[(66 : Nat)]? with
  | some (.inr r) => match r.2[(15 : Nat)]? with
    | some (.long x) => x
    | _ => 0
  | _ => 0
theorem boH_at {h : ax_H} (hb : boH h = true) {a : Nat} (ha : a < 105) : ∃ q c, ax_Sh[a]? = some q ∧ h[a]? = some c ∧ boC a q c = true := by
  unfold boH at hb
  rw [Bool.and_eq_true] at hb
  have h2 := List.all_eq_true.mp hb.2 a (List.mem_range.mpr ha)
  cases e1 : ax_Sh[a]? with
  | none =>
    rw [e1] at h2
    cases h2
  | some q =>
    cases e2 : h[a]? with
    | none =>
      rw [e1, e2] at h2
      cases h2
    | some c =>
      rw [e1, e2] at h2
      exact ⟨q, c, rfl, rfl, h2⟩
theorem boH_mk {h : ax_H} (hb : boH h = true) : h = ax_mk (boI h, boJ h) := by
  have hlen : h.length = 105 := by
    have hb2 := hb
    unfold boH at hb2
    rw [Bool.and_eq_true] at hb2
    exact eq_of_beq hb2.1
  apply List.ext_getElem?
  intro a
  by_cases ha : a < 105
  · obtain ⟨q, c, e1, e2, e3⟩ := boH_at hb ha
    rw [ax_mk_at e1, e2]
    congr 1
    cases q with
    | inl p =>
      cases c with
      | inr r => cases e3
      | inl r =>
        have e3 : (p.1 == r.1 && p.2 == r.2.1 && _) = true := e3
        rw [Bool.and_eq_true, Bool.and_eq_true] at e3
        have z1 := eq_of_beq e3.1.1
        have z2 := eq_of_beq e3.1.2
        show (Sum.inl r : ax_C) = .inl (p.1, p.2, boI h a)
        have : boI h a = r.2.2 := by
          funext k
          unfold boI
          rw [e2]
        rw [this, z1, z2]
    | inr p =>
      cases c with
      | inl r => cases e3
      | inr r =>
        have e3 : (p.1 == r.1 && p.2.length == r.2.length && _) = true := e3
        rw [Bool.and_eq_true, Bool.and_eq_true] at e3
        have z1 := eq_of_beq e3.1.1
        have z2 := eq_of_beq e3.1.2
        have z3 := List.all_eq_true.mp e3.2
        show (Sum.inr r : ax_C) = .inr (p.1, p.2.mapIdx fun k kd => ax_fl (boI h, boJ h) a k kd)
        have : r.2 = p.2.mapIdx fun k kd => ax_fl (boI h, boJ h) a k kd := by
          apply List.ext_getElem?
          intro k
          rw [List.getElem?_mapIdx]
          by_cases hk : k < p.2.length
          · have z := z3 k (List.mem_range.mpr hk)
            have hi : boI h a k = match r.2[k]? with
              | some (.int x) => x
              | _ => 0 := by
              unfold boI
              rw [e2]
            cases w1 : p.2[k]? with
            | none =>
              rw [w1] at z
              cases z
            | some kd =>
              cases w2 : r.2[k]? with
              | none =>
                rw [w1, w2] at z
                match kd, z with
                | 0, z => cases z
                | 1, z => cases z
                | 2, z => cases z
                | b + 3, z => cases z
              | some v =>
                rw [w1, w2] at z
                rw [w2] at hi
                show some v = some (ax_fl (boI h, boJ h) a k kd)
                congr 1
                match kd, v, z, hi with
                | 0, .int y, z, hi => exact congrArg Value.int hi.symm
                | 1, .int y, z, hi => exact congrArg Value.int hi.symm
                | 2, .long y, z, hi =>
                  have hkd := ax_Sh_kd (ci := p.1) (ks := p.2) (a := a) e1 w1
                  obtain ⟨-, ea, ek⟩ := hkd.2.2 rfl
                  show Value.long y = .long (boJ h)
                  have : boJ h = y := by
                    unfold boJ
                    rw [← ea, e2]
                    (try simp only)
                    rw [← ek, w2]
                  rw [this]
                | b + 3, .ref e, z, hi =>
                  have z : (b == e) = true := z
                  have z := eq_of_beq z
                  show Value.ref e = .ref b
                  rw [z]
          · rw [List.getElem?_eq_none (by omega), List.getElem?_eq_none (by omega)]
            rfl
        rw [← this, z1]
  · rw [List.getElem?_eq_none (by omega), List.getElem?_eq_none (by
      unfold ax_mk
      rw [List.length_mapIdx, ax_Sh_len]
      omega)]
/-- what the numbers are -/
theorem boH_0 {h : ax_H} (hb : boH h = true) {a p1 p2 : Nat} (hs : ax_Sh[a]? = some (.inl (p1, p2))) {k : Nat} (hk : k < min p2 102) : boI h a k = if a == 3 || a == 83 then -1 else 0 := by
  obtain ⟨q, c, e1, e2, e3⟩ := boH_at hb (ax_Sh_lt hs)
  cases e1.symm.trans hs
  cases c with
  | inr r => cases e3
  | inl r =>
    have e3 : (p1 == r.1 && p2 == r.2.1 && (List.range (min p2 102)).all fun i => r.2.2 i == (if a == 3 || a == 83 then (-1 : Int32) else 0)) = true := e3
    rw [Bool.and_eq_true] at e3
    have z := eq_of_beq (List.all_eq_true.mp e3.2 k (List.mem_range.mpr hk))
    unfold boI
    rw [e2]
    exact z
theorem boH_f {h : ax_H} (hb : boH h = true) {a ci : Nat} {ks : List Nat} (hs : ax_Sh[a]? = some (.inr (ci, ks))) {k : Nat} (hk : ks[k]? = some 0 ∨ ks[k]? = some 1) : boI h a k = 0 := by
  obtain ⟨q, c, e1, e2, e3⟩ := boH_at hb (ax_Sh_lt hs)
  cases e1.symm.trans hs
  cases c with
  | inl r => cases e3
  | inr r =>
    have e3 : (ci == r.1 && ks.length == r.2.length && (List.range ks.length).all fun k => match ks[k]?, r.2[k]? with
      | some 0, some (.int x) => x == 0
      | some 1, some (.int x) => x == 0
      | some 2, some (.long _) => true
      | some (b + 3), some (.ref e) => b == e
      | _, _ => false) = true := e3
    rw [Bool.and_eq_true] at e3
    have hkl : k < ks.length := by
      obtain z | z := hk
      · exact (List.getElem?_eq_some_iff.mp z).1
      · exact (List.getElem?_eq_some_iff.mp z).1
    have z := List.all_eq_true.mp e3.2 k (List.mem_range.mpr hkl)
    unfold boI
    rw [e2]
    (try simp only)
    obtain w | w := hk
    · rw [w] at z
      cases w2 : r.2[k]? with
      | none =>
        rw [w2] at z
      | some v =>
        rw [w2] at z
        cases v with
        | int x => exact eq_of_beq z
        | _ => rfl
    · rw [w] at z
      cases w2 : r.2[k]? with
      | none =>
        rw [w2] at z
      | some v =>
        rw [w2] at z
        cases v with
        | int x => exact eq_of_beq z
        | _ => rfl
theorem bo_RA {h : ax_H} (hb : boH h = true) : RA (boI h, boJ h) ∧ FI (boI h, boJ h) := by
  have z : ∀ {a p1 p2 : Nat}, ax_Sh[a]? = some (.inl (p1, p2)) → a ≠ 3 → a ≠ 83 → ∀ {k : Nat}, k < min p2 102 → boI h a k = 0 := fun hs n1 n2 k hk => by
    rw [boH_0 hb hs hk, if_neg]
    simp [n1, n2]
  have f : ∀ {a ci : Nat} {ks : List Nat}, ax_Sh[a]? = some (.inr (ci, ks)) → ∀ {k : Nat}, (ks[k]? = some 0 ∨ ks[k]? = some 1) → boI h a k = 0 := fun hs k hk => boH_f hb hs hk
  refine ⟨⟨⟨0, by omega, f sh_17 (k := 0) (Or.inl rfl), z sh_88 (by decide) (by decide) (by decide), fun j hj => absurd hj (Nat.not_lt_zero j)⟩, ⟨Or.inl (f sh_8 (k := 0) (Or.inr rfl)), ?_, 0, 0, ?_⟩, fun r hr => Or.inl ⟨?_, ?_⟩, ⟨?_, 0, by omega, f sh_5 (k := 1) (Or.inl rfl), f sh_82 (k := 10) (Or.inl rfl), fun i hi => absurd hi (Nat.not_lt_zero i)⟩, ?_, ?_, ⟨0, by omega, f sh_80 (k := 1) (Or.inl rfl), f sh_82 (k := 43) (Or.inl rfl), fun i hi => absurd hi (Nat.not_lt_zero i)⟩, ?_⟩, Or.inl (f sh_66 (k := 1) (Or.inl rfl))⟩
  · show boI h 82 7 = boI h 8 0
    rw [f sh_82 (k := 7) (Or.inr rfl), f sh_8 (k := 0) (Or.inr rfl)]
  · refine ⟨by omega, by omega, f sh_8 (k := 1) (Or.inl rfl), z sh_86 (by decide) (by decide) (by decide), f sh_8 (k := 6) (Or.inl rfl), z sh_86 (by decide) (by decide) (by decide), fun i hi => absurd hi (by omega), fun i hi => absurd hi (by omega), fun i h1 h2 => ?_, fun k hk => absurd hk (Nat.not_lt_zero k), fun k hk => absurd hk (Nat.not_lt_zero k)⟩
    have e86 : boI h 86 i = 0 := z sh_86 (by decide) (by decide) (by omega)
    have hi : i = 90 ∨ i = 91 ∨ i = 92 ∨ i = 93 ∨ i = 94 ∨ i = 95 ∨ i = 96 ∨ i = 97 ∨ i = 98 ∨ i = 99 ∨ i = 100 ∨ i = 101 := by omega
    have e8 : kcb (boI h, boJ h) 8 i = 0 := by
      by_cases q : i < 98
      · unfold kcb
        rw [if_neg (by omega), if_neg (by omega), if_neg (by omega), if_neg (by omega), if_pos q]
        exact z sh_16 (by decide) (by decide) (by show i - 90 < min 8 102; omega)
      · unfold kcb
        rw [if_neg (by omega), if_neg (by omega), if_neg (by omega), if_neg (by omega), if_neg q, if_pos (by omega)]
        have hj : i - 87 = 11 ∨ i - 87 = 12 ∨ i - 87 = 13 ∨ i - 87 = 14 := by omega
        show boI h 8 (i - 87) = 0
        obtain w | w | w | w := hj <;> rw [w] <;> exact f sh_8 (Or.inl rfl)
    show kcb (boI h, boJ h) 8 i = boI h 86 i ∧ 0 ≤ (boI h 86 i).toInt ∧ (boI h 86 i).toInt ≤ (if i < 99 then 9 else if i < 101 then 99 else 9999)
    rw [e8, e86]
    refine ⟨rfl, by decide, ?_⟩
    rw [i_0]
    split
    · omega
    · split <;> omega
  · show boI h 3 r = -1
    rw [boH_0 hb sh_3 (by show r < min 8 102; omega)]
    rfl
  · show boI h 83 r = -1
    rw [boH_0 hb sh_83 (by show r < min 8 102; omega)]
    rfl
  · show boI h 82 11 = boI h 5 2
    rw [f sh_82 (k := 11) (Or.inl rfl), f sh_5 (k := 2) (Or.inl rfl)]
  · have e0 : boI h 23 0 = 0 := f sh_23 (k := 0) (Or.inr rfl)
    have e1 : boI h 101 0 = 0 := z sh_101 (by decide) (by decide) (by decide)
    refine ⟨Or.inl e0, e1.trans e0.symm, fun w => ?_⟩
    have w : boI h 23 0 = 1 := w
    rw [e0] at w
    exact absurd w (by decide)
  · have e0 : boI h 38 0 = 0 := f sh_38 (k := 0) (Or.inr rfl)
    have e1 : boI h 101 1 = 0 := z sh_101 (by decide) (by decide) (by decide)
    refine ⟨Or.inl e0, e1.trans e0.symm, fun w => ?_⟩
    have w : boI h 38 0 = 1 := w
    rw [e0] at w
    exact absurd w (by decide)
  · show boI h 82 1 = boI h 0 10
    rw [f sh_82 (k := 1) (Or.inl rfl), f sh_0 (k := 10) (Or.inl rfl)]
