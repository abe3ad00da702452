/-! THE REFERENCE'S WORDS -/
def wordV (b : Nat → Int32) (T : TK) : Int64 := if T.1 = 0 then (if T.2.2.1 = 2 ∧ T.2.2.2.2 - T.2.2.2.1 < 8 then wv b T.2.2.2.1 (T.2.2.2.2 - T.2.2.2.1) else 0) else 0
theorem m_word (d : Nat) {σ : ax_S} {b : Nat → Int32} {n : Nat} {T : TK} (h : MSt σ b n T) : cL sO d 210 [.ref 82] σ = some (wordV b T, σ) := by
  have w17 := c17 h
  obtain ⟨⟨c1', c2, c3⟩, ⟨k5, o2, o3, -⟩, c5, c6, c7, -⟩ := h
  have e2 : σ.1 82 14 = 2 ↔ T.2.2.1 = 2 := by
    rw [c5]
    exact ⟨fun q => nI_inj (b := 2) (by omega) (by omega) q, fun q => by rw [q]; rfl⟩
  have ee : nI T.2.2.2.2 - nI T.2.2.2.1 = nI (T.2.2.2.2 - T.2.2.2.1) := by
    apply Int32.toInt_inj.mp
    rw [i_sub (by rw [nI_i (by omega), nI_i (by omega)]; omega) (by rw [nI_i (by omega), nI_i (by omega)]; omega), nI_i (by omega), nI_i (by omega), nI_i (by omega)]
    omega
  refine cL_ev mi_210 ((u_210_82 d σ).trans ?_) rfl
  unfold wordV
  have fin : ∀ v : Int64, (if σ.1 82 17 = 0 then some (some (Value.long v), σ) else some (some (Value.long 0), σ)) = some (some (Value.long (if T.1 = 0 then v else 0)), σ) := fun v => by
    by_cases t : T.1 = 0
    · rw [if_pos (w17.mpr t), if_pos t]
    · rw [if_neg (fun q => t (w17.mp q)), if_neg t]
  rw [c6]
  by_cases q : T.2.2.1 = 2 ∧ T.2.2.2.2 - T.2.2.2.1 < 8
  · rw [if_pos q, ← fin]
    refine (loop_it (E := fun k (v : Int64) => ev sO d 210 7 [.ref 82, .long v, .null, .int (nI (T.2.2.2.1 + k))] [] σ) (f := fun k v => (v <<< ((8 : Int32).toInt64 &&& 63)) ||| (b (T.2.2.2.1 + k)).toInt64) (N := T.2.2.2.2 - T.2.2.2.1) (fun k v hk => ?_) 0).trans ?_
    · rw [u_210_82p7, c7, if_pos (nlt (show T.2.2.2.1 + k < T.2.2.2.2 by omega)), if_pos (e2.mpr q.1), c6, ee, if_pos (show nI (T.2.2.2.2 - T.2.2.2.1) < (8 : Int32) from nlt (N := 8) q.2), gd_t (nI_g (show T.2.2.2.1 + k < 500 by omega) (by omega)), nI_c (by omega), (c3 _ (show T.2.2.2.1 + k < n by omega)).1, nI_add1, Nat.add_assoc]
    · rw [u_210_82p7, c7, if_neg (nnl (show T.2.2.2.2 ≤ T.2.2.2.1 + (T.2.2.2.2 - T.2.2.2.1) by omega) (by omega))]
      rfl
  · rw [if_neg q, ← fin, u_210_82p7, c7, c6, ee]
    by_cases k2 : T.2.2.1 = 2
    · rw [if_pos (e2.mpr k2), if_neg (show ¬ nI (T.2.2.2.2 - T.2.2.2.1) < (8 : Int32) from nnl (N := 8) (by omega) (by omega))]
      split <;> rfl
    · rw [if_neg (fun z => k2 (e2.mp z))]
      split <;> rfl
theorem ww_1001 {b : Nat → Int32} {n : Nat} {T : TK} (ho : tkO b n T.2.2.1 T.2.2.2.1 T.2.2.2.2) : wordV b T = 30792241684771429 ↔ T.1 = 0 ∧ nmT b W1001 T := by
  obtain ⟨-, o2, o3, -, -, o6, -⟩ := ho
  have cn : ((30792241684771429 : Int64)).toBitVec.toNat = 30792241684771429 := by decide
  unfold wordV
  by_cases t : T.1 = 0
  · rw [if_pos t]
    by_cases q : T.2.2.1 = 2 ∧ T.2.2.2.2 - T.2.2.2.1 < 8
    · rw [if_pos q]
      have lt : ∀ i, i < T.2.2.2.2 - T.2.2.2.1 → ltrP (b (T.2.2.2.1 + i)) := fun i hi => o6 q.1 _ (by omega) (by omega)
      have e1 := wv_n (b := b) (s := T.2.2.2.1) q.2 (fun i hi => by have := lt i hi; exact ⟨by have := this.1; omega, by have := this.2; omega⟩)
      have e2 := wd_1001 (g := fun i => (b (T.2.2.2.1 + i)).toInt.toNat) q.2 (fun i hi => by have := lt i hi; have h1 := this.1; have h2 := this.2; exact ⟨by omega, by omega⟩)
      have e3 : wv b T.2.2.2.1 (T.2.2.2.2 - T.2.2.2.1) = 30792241684771429 ↔ wn (fun i => (b (T.2.2.2.1 + i)).toInt.toNat) (T.2.2.2.2 - T.2.2.2.1) = 30792241684771429 := by
        rw [← e1]
        constructor
        · intro z
          rw [z]
          exact cn
        · intro z
          apply Int64.toBitVec_inj.mp
          apply BitVec.eq_of_toNat_eq
          rw [z]
          exact cn.symm
      rw [e3, e2]
      constructor
      · rintro ⟨hl, hh⟩
        refine ⟨t, q.1, hl, fun i hi => ?_⟩
        have hi : i < 7 := hi
        have hli := lt i (by omega)
        have h1 := hli.1
        (try simp only at hh)
        have hi2 : i = 0 ∨ i = 1 ∨ i = 2 ∨ i = 3 ∨ i = 4 ∨ i = 5 ∨ i = 6 := by omega
        obtain rfl | rfl | rfl | rfl | rfl | rfl | rfl := hi2
        · exact (i_eq _ _).mpr (show (b (T.2.2.2.1 + 0)).toInt = (109 : Int) by omega)
        · exact (i_eq _ _).mpr (show (b (T.2.2.2.1 + 1)).toInt = (101 : Int) by omega)
        · exact (i_eq _ _).mpr (show (b (T.2.2.2.1 + 2)).toInt = (97 : Int) by omega)
        · exact (i_eq _ _).mpr (show (b (T.2.2.2.1 + 3)).toInt = (115 : Int) by omega)
        · exact (i_eq _ _).mpr (show (b (T.2.2.2.1 + 4)).toInt = (117 : Int) by omega)
        · exact (i_eq _ _).mpr (show (b (T.2.2.2.1 + 5)).toInt = (114 : Int) by omega)
        · exact (i_eq _ _).mpr (show (b (T.2.2.2.1 + 6)).toInt = (101 : Int) by omega)
      · rintro ⟨-, -, hl, hh⟩
        have hl : T.2.2.2.2 - T.2.2.2.1 = 7 := hl
        refine ⟨hl, ?_, ?_, ?_, ?_, ?_, ?_, ?_⟩
        · show (b (T.2.2.2.1 + 0)).toInt.toNat = 109
          rw [hh 0 (by decide)]
          rfl
        · show (b (T.2.2.2.1 + 1)).toInt.toNat = 101
          rw [hh 1 (by decide)]
          rfl
        · show (b (T.2.2.2.1 + 2)).toInt.toNat = 97
          rw [hh 2 (by decide)]
          rfl
        · show (b (T.2.2.2.1 + 3)).toInt.toNat = 115
          rw [hh 3 (by decide)]
          rfl
        · show (b (T.2.2.2.1 + 4)).toInt.toNat = 117
          rw [hh 4 (by decide)]
          rfl
        · show (b (T.2.2.2.1 + 5)).toInt.toNat = 114
          rw [hh 5 (by decide)]
          rfl
        · show (b (T.2.2.2.1 + 6)).toInt.toNat = 101
          rw [hh 6 (by decide)]
          rfl
    · rw [if_neg q]
      constructor
      · intro z
        exact absurd z (by decide)
      · rintro ⟨-, z1, z2, -⟩
        have z2 : T.2.2.2.2 - T.2.2.2.1 = 7 := z2
        exact absurd ⟨z1, by omega⟩ q
  · rw [if_neg t]
    constructor
    · intro z
      exact absurd z (by decide)
    · intro z
      exact absurd z.1 t
theorem ww_1002 {b : Nat → Int32} {n : Nat} {T : TK} (ho : tkO b n T.2.2.1 T.2.2.2.1 T.2.2.2.2) : wordV b T = 123563582121332 ↔ T.1 = 0 ∧ nmT b W1002 T := by
  obtain ⟨-, o2, o3, -, -, o6, -⟩ := ho
  have cn : ((123563582121332 : Int64)).toBitVec.toNat = 123563582121332 := by decide
  unfold wordV
  by_cases t : T.1 = 0
  · rw [if_pos t]
    by_cases q : T.2.2.1 = 2 ∧ T.2.2.2.2 - T.2.2.2.1 < 8
    · rw [if_pos q]
      have lt : ∀ i, i < T.2.2.2.2 - T.2.2.2.1 → ltrP (b (T.2.2.2.1 + i)) := fun i hi => o6 q.1 _ (by omega) (by omega)
      have e1 := wv_n (b := b) (s := T.2.2.2.1) q.2 (fun i hi => by have := lt i hi; exact ⟨by have := this.1; omega, by have := this.2; omega⟩)
      have e2 := wd_1002 (g := fun i => (b (T.2.2.2.1 + i)).toInt.toNat) q.2 (fun i hi => by have := lt i hi; have h1 := this.1; have h2 := this.2; exact ⟨by omega, by omega⟩)
      have e3 : wv b T.2.2.2.1 (T.2.2.2.2 - T.2.2.2.1) = 123563582121332 ↔ wn (fun i => (b (T.2.2.2.1 + i)).toInt.toNat) (T.2.2.2.2 - T.2.2.2.1) = 123563582121332 := by
        rw [← e1]
        constructor
        · intro z
          rw [z]
          exact cn
        · intro z
          apply Int64.toBitVec_inj.mp
          apply BitVec.eq_of_toNat_eq
          rw [z]
          exact cn.symm
      rw [e3, e2]
      constructor
      · rintro ⟨hl, hh⟩
        refine ⟨t, q.1, hl, fun i hi => ?_⟩
        have hi : i < 6 := hi
        have hli := lt i (by omega)
        have h1 := hli.1
        (try simp only at hh)
        have hi2 : i = 0 ∨ i = 1 ∨ i = 2 ∨ i = 3 ∨ i = 4 ∨ i = 5 := by omega
        obtain rfl | rfl | rfl | rfl | rfl | rfl := hi2
        · exact (i_eq _ _).mpr (show (b (T.2.2.2.1 + 0)).toInt = (112 : Int) by omega)
        · exact (i_eq _ _).mpr (show (b (T.2.2.2.1 + 1)).toInt = (97 : Int) by omega)
        · exact (i_eq _ _).mpr (show (b (T.2.2.2.1 + 2)).toInt = (99 : Int) by omega)
        · exact (i_eq _ _).mpr (show (b (T.2.2.2.1 + 3)).toInt = (107 : Int) by omega)
        · exact (i_eq _ _).mpr (show (b (T.2.2.2.1 + 4)).toInt = (101 : Int) by omega)
        · exact (i_eq _ _).mpr (show (b (T.2.2.2.1 + 5)).toInt = (116 : Int) by omega)
      · rintro ⟨-, -, hl, hh⟩
        have hl : T.2.2.2.2 - T.2.2.2.1 = 6 := hl
        refine ⟨hl, ?_, ?_, ?_, ?_, ?_, ?_⟩
        · show (b (T.2.2.2.1 + 0)).toInt.toNat = 112
          rw [hh 0 (by decide)]
          rfl
        · show (b (T.2.2.2.1 + 1)).toInt.toNat = 97
          rw [hh 1 (by decide)]
          rfl
        · show (b (T.2.2.2.1 + 2)).toInt.toNat = 99
          rw [hh 2 (by decide)]
          rfl
        · show (b (T.2.2.2.1 + 3)).toInt.toNat = 107
          rw [hh 3 (by decide)]
          rfl
        · show (b (T.2.2.2.1 + 4)).toInt.toNat = 101
          rw [hh 4 (by decide)]
          rfl
        · show (b (T.2.2.2.1 + 5)).toInt.toNat = 116
          rw [hh 5 (by decide)]
          rfl
    · rw [if_neg q]
      constructor
      · intro z
        exact absurd z (by decide)
      · rintro ⟨-, z1, z2, -⟩
        have z2 : T.2.2.2.2 - T.2.2.2.1 = 6 := z2
        exact absurd ⟨z1, by omega⟩ q
  · rw [if_neg t]
    constructor
    · intro z
      exact absurd z (by decide)
    · intro z
      exact absurd z.1 t
theorem ww_1003 {b : Nat → Int32} {n : Nat} {T : TK} (ho : tkO b n T.2.2.1 T.2.2.2.1 T.2.2.2.2) : wordV b T = 1919513445 ↔ T.1 = 0 ∧ nmT b W1003 T := by
  obtain ⟨-, o2, o3, -, -, o6, -⟩ := ho
  have cn : ((1919513445 : Int64)).toBitVec.toNat = 1919513445 := by decide
  unfold wordV
  by_cases t : T.1 = 0
  · rw [if_pos t]
    by_cases q : T.2.2.1 = 2 ∧ T.2.2.2.2 - T.2.2.2.1 < 8
    · rw [if_pos q]
      have lt : ∀ i, i < T.2.2.2.2 - T.2.2.2.1 → ltrP (b (T.2.2.2.1 + i)) := fun i hi => o6 q.1 _ (by omega) (by omega)
      have e1 := wv_n (b := b) (s := T.2.2.2.1) q.2 (fun i hi => by have := lt i hi; exact ⟨by have := this.1; omega, by have := this.2; omega⟩)
      have e2 := wd_1003 (g := fun i => (b (T.2.2.2.1 + i)).toInt.toNat) q.2 (fun i hi => by have := lt i hi; have h1 := this.1; have h2 := this.2; exact ⟨by omega, by omega⟩)
      have e3 : wv b T.2.2.2.1 (T.2.2.2.2 - T.2.2.2.1) = 1919513445 ↔ wn (fun i => (b (T.2.2.2.1 + i)).toInt.toNat) (T.2.2.2.2 - T.2.2.2.1) = 1919513445 := by
        rw [← e1]
        constructor
        · intro z
          rw [z]
          exact cn
        · intro z
          apply Int64.toBitVec_inj.mp
          apply BitVec.eq_of_toNat_eq
          rw [z]
          exact cn.symm
      rw [e3, e2]
      constructor
      · rintro ⟨hl, hh⟩
        refine ⟨t, q.1, hl, fun i hi => ?_⟩
        have hi : i < 4 := hi
        have hli := lt i (by omega)
        have h1 := hli.1
        (try simp only at hh)
        have hi2 : i = 0 ∨ i = 1 ∨ i = 2 ∨ i = 3 := by omega
        obtain rfl | rfl | rfl | rfl := hi2
        · exact (i_eq _ _).mpr (show (b (T.2.2.2.1 + 0)).toInt = (114 : Int) by omega)
        · exact (i_eq _ _).mpr (show (b (T.2.2.2.1 + 1)).toInt = (105 : Int) by omega)
        · exact (i_eq _ _).mpr (show (b (T.2.2.2.1 + 2)).toInt = (115 : Int) by omega)
        · exact (i_eq _ _).mpr (show (b (T.2.2.2.1 + 3)).toInt = (101 : Int) by omega)
      · rintro ⟨-, -, hl, hh⟩
        have hl : T.2.2.2.2 - T.2.2.2.1 = 4 := hl
        refine ⟨hl, ?_, ?_, ?_, ?_⟩
        · show (b (T.2.2.2.1 + 0)).toInt.toNat = 114
          rw [hh 0 (by decide)]
          rfl
        · show (b (T.2.2.2.1 + 1)).toInt.toNat = 105
          rw [hh 1 (by decide)]
          rfl
        · show (b (T.2.2.2.1 + 2)).toInt.toNat = 115
          rw [hh 2 (by decide)]
          rfl
        · show (b (T.2.2.2.1 + 3)).toInt.toNat = 101
          rw [hh 3 (by decide)]
          rfl
    · rw [if_neg q]
      constructor
      · intro z
        exact absurd z (by decide)
      · rintro ⟨-, z1, z2, -⟩
        have z2 : T.2.2.2.2 - T.2.2.2.1 = 4 := z2
        exact absurd ⟨z1, by omega⟩ q
  · rw [if_neg t]
    constructor
    · intro z
      exact absurd z (by decide)
    · intro z
      exact absurd z.1 t
theorem ww_1004 {b : Nat → Int32} {n : Nat} {T : TK} (ho : tkO b n T.2.2.1 T.2.2.2.1 T.2.2.2.2) : wordV b T = 1667330660 ↔ T.1 = 0 ∧ nmT b W1004 T := by
  obtain ⟨-, o2, o3, -, -, o6, -⟩ := ho
  have cn : ((1667330660 : Int64)).toBitVec.toNat = 1667330660 := by decide
  unfold wordV
  by_cases t : T.1 = 0
  · rw [if_pos t]
    by_cases q : T.2.2.1 = 2 ∧ T.2.2.2.2 - T.2.2.2.1 < 8
    · rw [if_pos q]
      have lt : ∀ i, i < T.2.2.2.2 - T.2.2.2.1 → ltrP (b (T.2.2.2.1 + i)) := fun i hi => o6 q.1 _ (by omega) (by omega)
      have e1 := wv_n (b := b) (s := T.2.2.2.1) q.2 (fun i hi => by have := lt i hi; exact ⟨by have := this.1; omega, by have := this.2; omega⟩)
      have e2 := wd_1004 (g := fun i => (b (T.2.2.2.1 + i)).toInt.toNat) q.2 (fun i hi => by have := lt i hi; have h1 := this.1; have h2 := this.2; exact ⟨by omega, by omega⟩)
      have e3 : wv b T.2.2.2.1 (T.2.2.2.2 - T.2.2.2.1) = 1667330660 ↔ wn (fun i => (b (T.2.2.2.1 + i)).toInt.toNat) (T.2.2.2.2 - T.2.2.2.1) = 1667330660 := by
        rw [← e1]
        constructor
        · intro z
          rw [z]
          exact cn
        · intro z
          apply Int64.toBitVec_inj.mp
          apply BitVec.eq_of_toNat_eq
          rw [z]
          exact cn.symm
      rw [e3, e2]
      constructor
      · rintro ⟨hl, hh⟩
        refine ⟨t, q.1, hl, fun i hi => ?_⟩
        have hi : i < 4 := hi
        have hli := lt i (by omega)
        have h1 := hli.1
        (try simp only at hh)
        have hi2 : i = 0 ∨ i = 1 ∨ i = 2 ∨ i = 3 := by omega
        obtain rfl | rfl | rfl | rfl := hi2
        · exact (i_eq _ _).mpr (show (b (T.2.2.2.1 + 0)).toInt = (99 : Int) by omega)
        · exact (i_eq _ _).mpr (show (b (T.2.2.2.1 + 1)).toInt = (97 : Int) by omega)
        · exact (i_eq _ _).mpr (show (b (T.2.2.2.1 + 2)).toInt = (114 : Int) by omega)
        · exact (i_eq _ _).mpr (show (b (T.2.2.2.1 + 3)).toInt = (100 : Int) by omega)
      · rintro ⟨-, -, hl, hh⟩
        have hl : T.2.2.2.2 - T.2.2.2.1 = 4 := hl
        refine ⟨hl, ?_, ?_, ?_, ?_⟩
        · show (b (T.2.2.2.1 + 0)).toInt.toNat = 99
          rw [hh 0 (by decide)]
          rfl
        · show (b (T.2.2.2.1 + 1)).toInt.toNat = 97
          rw [hh 1 (by decide)]
          rfl
        · show (b (T.2.2.2.1 + 2)).toInt.toNat = 114
          rw [hh 2 (by decide)]
          rfl
        · show (b (T.2.2.2.1 + 3)).toInt.toNat = 100
          rw [hh 3 (by decide)]
          rfl
    · rw [if_neg q]
      constructor
      · intro z
        exact absurd z (by decide)
      · rintro ⟨-, z1, z2, -⟩
        have z2 : T.2.2.2.2 - T.2.2.2.1 = 4 := z2
        exact absurd ⟨z1, by omega⟩ q
  · rw [if_neg t]
    constructor
    · intro z
      exact absurd z (by decide)
    · intro z
      exact absurd z.1 t
theorem ww_1005 {b : Nat → Int32} {n : Nat} {T : TK} (ho : tkO b n T.2.2.1 T.2.2.2.1 T.2.2.2.2) : wordV b T = 6382692 ↔ T.1 = 0 ∧ nmT b W1005 T := by
  obtain ⟨-, o2, o3, -, -, o6, -⟩ := ho
  have cn : ((6382692 : Int64)).toBitVec.toNat = 6382692 := by decide
  unfold wordV
  by_cases t : T.1 = 0
  · rw [if_pos t]
    by_cases q : T.2.2.1 = 2 ∧ T.2.2.2.2 - T.2.2.2.1 < 8
    · rw [if_pos q]
      have lt : ∀ i, i < T.2.2.2.2 - T.2.2.2.1 → ltrP (b (T.2.2.2.1 + i)) := fun i hi => o6 q.1 _ (by omega) (by omega)
      have e1 := wv_n (b := b) (s := T.2.2.2.1) q.2 (fun i hi => by have := lt i hi; exact ⟨by have := this.1; omega, by have := this.2; omega⟩)
      have e2 := wd_1005 (g := fun i => (b (T.2.2.2.1 + i)).toInt.toNat) q.2 (fun i hi => by have := lt i hi; have h1 := this.1; have h2 := this.2; exact ⟨by omega, by omega⟩)
      have e3 : wv b T.2.2.2.1 (T.2.2.2.2 - T.2.2.2.1) = 6382692 ↔ wn (fun i => (b (T.2.2.2.1 + i)).toInt.toNat) (T.2.2.2.2 - T.2.2.2.1) = 6382692 := by
        rw [← e1]
        constructor
        · intro z
          rw [z]
          exact cn
        · intro z
          apply Int64.toBitVec_inj.mp
          apply BitVec.eq_of_toNat_eq
          rw [z]
          exact cn.symm
      rw [e3, e2]
      constructor
      · rintro ⟨hl, hh⟩
        refine ⟨t, q.1, hl, fun i hi => ?_⟩
        have hi : i < 3 := hi
        have hli := lt i (by omega)
        have h1 := hli.1
        (try simp only at hh)
        have hi2 : i = 0 ∨ i = 1 ∨ i = 2 := by omega
        obtain rfl | rfl | rfl := hi2
        · exact (i_eq _ _).mpr (show (b (T.2.2.2.1 + 0)).toInt = (97 : Int) by omega)
        · exact (i_eq _ _).mpr (show (b (T.2.2.2.1 + 1)).toInt = (100 : Int) by omega)
        · exact (i_eq _ _).mpr (show (b (T.2.2.2.1 + 2)).toInt = (100 : Int) by omega)
      · rintro ⟨-, -, hl, hh⟩
        have hl : T.2.2.2.2 - T.2.2.2.1 = 3 := hl
        refine ⟨hl, ?_, ?_, ?_⟩
        · show (b (T.2.2.2.1 + 0)).toInt.toNat = 97
          rw [hh 0 (by decide)]
          rfl
        · show (b (T.2.2.2.1 + 1)).toInt.toNat = 100
          rw [hh 1 (by decide)]
          rfl
        · show (b (T.2.2.2.1 + 2)).toInt.toNat = 100
          rw [hh 2 (by decide)]
          rfl
    · rw [if_neg q]
      constructor
      · intro z
        exact absurd z (by decide)
      · rintro ⟨-, z1, z2, -⟩
        have z2 : T.2.2.2.2 - T.2.2.2.1 = 3 := z2
        exact absurd ⟨z1, by omega⟩ q
  · rw [if_neg t]
    constructor
    · intro z
      exact absurd z (by decide)
    · intro z
      exact absurd z.1 t
theorem ww_1006 {b : Nat → Int32} {n : Nat} {T : TK} (ho : tkO b n T.2.2.1 T.2.2.2.1 T.2.2.2.2) : wordV b T = 1751474548 ↔ T.1 = 0 ∧ nmT b W1006 T := by
  obtain ⟨-, o2, o3, -, -, o6, -⟩ := ho
  have cn : ((1751474548 : Int64)).toBitVec.toNat = 1751474548 := by decide
  unfold wordV
  by_cases t : T.1 = 0
  · rw [if_pos t]
    by_cases q : T.2.2.1 = 2 ∧ T.2.2.2.2 - T.2.2.2.1 < 8
    · rw [if_pos q]
      have lt : ∀ i, i < T.2.2.2.2 - T.2.2.2.1 → ltrP (b (T.2.2.2.1 + i)) := fun i hi => o6 q.1 _ (by omega) (by omega)
      have e1 := wv_n (b := b) (s := T.2.2.2.1) q.2 (fun i hi => by have := lt i hi; exact ⟨by have := this.1; omega, by have := this.2; omega⟩)
      have e2 := wd_1006 (g := fun i => (b (T.2.2.2.1 + i)).toInt.toNat) q.2 (fun i hi => by have := lt i hi; have h1 := this.1; have h2 := this.2; exact ⟨by omega, by omega⟩)
      have e3 : wv b T.2.2.2.1 (T.2.2.2.2 - T.2.2.2.1) = 1751474548 ↔ wn (fun i => (b (T.2.2.2.1 + i)).toInt.toNat) (T.2.2.2.2 - T.2.2.2.1) = 1751474548 := by
        rw [← e1]
        constructor
        · intro z
          rw [z]
          exact cn
        · intro z
          apply Int64.toBitVec_inj.mp
          apply BitVec.eq_of_toNat_eq
          rw [z]
          exact cn.symm
      rw [e3, e2]
      constructor
      · rintro ⟨hl, hh⟩
        refine ⟨t, q.1, hl, fun i hi => ?_⟩
        have hi : i < 4 := hi
        have hli := lt i (by omega)
        have h1 := hli.1
        (try simp only at hh)
        have hi2 : i = 0 ∨ i = 1 ∨ i = 2 ∨ i = 3 := by omega
        obtain rfl | rfl | rfl | rfl := hi2
        · exact (i_eq _ _).mpr (show (b (T.2.2.2.1 + 0)).toInt = (104 : Int) by omega)
        · exact (i_eq _ _).mpr (show (b (T.2.2.2.1 + 1)).toInt = (101 : Int) by omega)
        · exact (i_eq _ _).mpr (show (b (T.2.2.2.1 + 2)).toInt = (97 : Int) by omega)
        · exact (i_eq _ _).mpr (show (b (T.2.2.2.1 + 3)).toInt = (116 : Int) by omega)
      · rintro ⟨-, -, hl, hh⟩
        have hl : T.2.2.2.2 - T.2.2.2.1 = 4 := hl
        refine ⟨hl, ?_, ?_, ?_, ?_⟩
        · show (b (T.2.2.2.1 + 0)).toInt.toNat = 104
          rw [hh 0 (by decide)]
          rfl
        · show (b (T.2.2.2.1 + 1)).toInt.toNat = 101
          rw [hh 1 (by decide)]
          rfl
        · show (b (T.2.2.2.1 + 2)).toInt.toNat = 97
          rw [hh 2 (by decide)]
          rfl
        · show (b (T.2.2.2.1 + 3)).toInt.toNat = 116
          rw [hh 3 (by decide)]
          rfl
    · rw [if_neg q]
      constructor
      · intro z
        exact absurd z (by decide)
      · rintro ⟨-, z1, z2, -⟩
        have z2 : T.2.2.2.2 - T.2.2.2.1 = 4 := z2
        exact absurd ⟨z1, by omega⟩ q
  · rw [if_neg t]
    constructor
    · intro z
      exact absurd z (by decide)
    · intro z
      exact absurd z.1 t
theorem ww_1007 {b : Nat → Int32} {n : Nat} {T : TK} (ho : tkO b n T.2.2.1 T.2.2.2.1 T.2.2.2.2) : wordV b T = 1650811252 ↔ T.1 = 0 ∧ nmT b W1007 T := by
  obtain ⟨-, o2, o3, -, -, o6, -⟩ := ho
  have cn : ((1650811252 : Int64)).toBitVec.toNat = 1650811252 := by decide
  unfold wordV
  by_cases t : T.1 = 0
  · rw [if_pos t]
    by_cases q : T.2.2.1 = 2 ∧ T.2.2.2.2 - T.2.2.2.1 < 8
    · rw [if_pos q]
      have lt : ∀ i, i < T.2.2.2.2 - T.2.2.2.1 → ltrP (b (T.2.2.2.1 + i)) := fun i hi => o6 q.1 _ (by omega) (by omega)
      have e1 := wv_n (b := b) (s := T.2.2.2.1) q.2 (fun i hi => by have := lt i hi; exact ⟨by have := this.1; omega, by have := this.2; omega⟩)
      have e2 := wd_1007 (g := fun i => (b (T.2.2.2.1 + i)).toInt.toNat) q.2 (fun i hi => by have := lt i hi; have h1 := this.1; have h2 := this.2; exact ⟨by omega, by omega⟩)
      have e3 : wv b T.2.2.2.1 (T.2.2.2.2 - T.2.2.2.1) = 1650811252 ↔ wn (fun i => (b (T.2.2.2.1 + i)).toInt.toNat) (T.2.2.2.2 - T.2.2.2.1) = 1650811252 := by
        rw [← e1]
        constructor
        · intro z
          rw [z]
          exact cn
        · intro z
          apply Int64.toBitVec_inj.mp
          apply BitVec.eq_of_toNat_eq
          rw [z]
          exact cn.symm
      rw [e3, e2]
      constructor
      · rintro ⟨hl, hh⟩
        refine ⟨t, q.1, hl, fun i hi => ?_⟩
        have hi : i < 4 := hi
        have hli := lt i (by omega)
        have h1 := hli.1
        (try simp only at hh)
        have hi2 : i = 0 ∨ i = 1 ∨ i = 2 ∨ i = 3 := by omega
        obtain rfl | rfl | rfl | rfl := hi2
        · exact (i_eq _ _).mpr (show (b (T.2.2.2.1 + 0)).toInt = (98 : Int) by omega)
        · exact (i_eq _ _).mpr (show (b (T.2.2.2.1 + 1)).toInt = (101 : Int) by omega)
        · exact (i_eq _ _).mpr (show (b (T.2.2.2.1 + 2)).toInt = (97 : Int) by omega)
        · exact (i_eq _ _).mpr (show (b (T.2.2.2.1 + 3)).toInt = (116 : Int) by omega)
      · rintro ⟨-, -, hl, hh⟩
        have hl : T.2.2.2.2 - T.2.2.2.1 = 4 := hl
        refine ⟨hl, ?_, ?_, ?_, ?_⟩
        · show (b (T.2.2.2.1 + 0)).toInt.toNat = 98
          rw [hh 0 (by decide)]
          rfl
        · show (b (T.2.2.2.1 + 1)).toInt.toNat = 101
          rw [hh 1 (by decide)]
          rfl
        · show (b (T.2.2.2.1 + 2)).toInt.toNat = 97
          rw [hh 2 (by decide)]
          rfl
        · show (b (T.2.2.2.1 + 3)).toInt.toNat = 116
          rw [hh 3 (by decide)]
          rfl
    · rw [if_neg q]
      constructor
      · intro z
        exact absurd z (by decide)
      · rintro ⟨-, z1, z2, -⟩
        have z2 : T.2.2.2.2 - T.2.2.2.1 = 4 := z2
        exact absurd ⟨z1, by omega⟩ q
  · rw [if_neg t]
    constructor
    · intro z
      exact absurd z (by decide)
    · intro z
      exact absurd z.1 t
