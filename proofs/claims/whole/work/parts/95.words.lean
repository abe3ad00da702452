/-! NAMES on the tape -/
/-- a token is a name: just these letters -/
abbrev nmP (b : Nat → Int32) (W : List Int32) (k s e : Nat) : Prop := k = 2 ∧ e - s = W.length ∧ ∀ i, i < W.length → b (s + i) = W.getD i 0
theorem s_ckI (d : Nat) (σ : ax_S) {i n : Nat} (hi : i < n) (hn : n < 2147483648) : cV sO (d + 1) 44 [.int (nI i), .int (nI n)] σ = some σ := by
  have e : cI sO d 45 [.int (nI i), .int (nI n), .ref 2000] σ = some (nI i, σ) := by
    refine cI_ev mi_45 ((u_45_2000 d σ _ _).trans ?_) rfl
    rw [if_neg (show ¬ nI i < 0 from nnl (N := 0) (by omega) (by omega)), if_pos (nlt hi hn)]
  refine cV_ev mi_44 ((u_44 d σ _ _).trans ?_) rfl
  rw [e, Option.bind_some]
/-- letters as a number of bytes -/
def wn (g : Nat → Nat) : Nat → Nat
  | 0 => 0
  | k + 1 => wn g k * 256 + g k
def wv (b : Nat → Int32) (s m : Nat) : Int64 := it (fun k v => (v <<< ((8 : Int32).toInt64 &&& 63)) ||| (b (s + k)).toInt64) m 0
theorem shl8 {v : Int64} {x : Int32} {N B : Nat} (hv : v.toBitVec.toNat = N) (hN : N < 36028797018963968) (hx : x.toInt = (B : Int)) (hB : B < 256) : ((v <<< ((8 : Int32).toInt64 &&& 63)) ||| x.toInt64).toBitVec.toNat = N * 256 + B := by
  have e8 : ((8 : Int32).toInt64 &&& 63).toBitVec.smod 64#64 = 8#64 := by decide
  have ex : x.toInt64.toBitVec.toNat = B := by
    have h : x.toInt64.toBitVec.toInt = (B : Int) := (l_i x).trans hx
    rw [BitVec.toInt_eq_toNat_cond] at h
    have := x.toInt64.toBitVec.isLt
    split at h <;> omega
  rw [Int64.toBitVec_or, BitVec.toNat_or, Int64.toBitVec_shiftLeft]
  show (v.toBitVec <<< (((8 : Int32).toInt64 &&& 63).toBitVec.smod 64#64)).toNat ||| x.toInt64.toBitVec.toNat = _
  rw [e8, BitVec.shiftLeft_eq', BitVec.toNat_shiftLeft, hv, show (8#64).toNat = 8 from rfl, ex]
  have hm : N <<< 8 % 2 ^ 64 = N <<< 8 := by
    rw [Nat.shiftLeft_eq]
    omega
  rw [hm, ← Nat.shiftLeft_add_eq_or_of_lt (show B < 2 ^ 8 by omega), Nat.shiftLeft_eq]
theorem wn_lt {g : Nat → Nat} : ∀ {m : Nat}, (∀ i, i < m → g i < 256) → wn g m < 256 ^ m
  | 0, _ => by
    show 0 < 256 ^ 0
    decide
  | m + 1, h => by
    have h1 := wn_lt (m := m) (fun i hi => h i (by omega))
    have h2 := h m (by omega)
    show wn g m * 256 + g m < 256 ^ (m + 1)
    rw [Nat.pow_succ]
    omega
theorem wv_n {b : Nat → Int32} {s : Nat} : ∀ {m : Nat}, m < 8 → (∀ i, i < m → 0 ≤ (b (s + i)).toInt ∧ (b (s + i)).toInt ≤ 255) → (wv b s m).toBitVec.toNat = wn (fun i => (b (s + i)).toInt.toNat) m
  | 0, _, _ => rfl
  | m + 1, hm, h => by
    have h1 := wv_n (m := m) (by omega) (fun i hi => h i (by omega))
    have h2 := h m (by omega)
    have h3 := wn_lt (g := fun i => (b (s + i)).toInt.toNat) (m := m) (fun i hi => by have := h i (by omega); omega)
    have h4 : 256 ^ m ≤ 256 ^ 6 := Nat.pow_le_pow_right (by omega) (by omega)
    exact shl8 h1 (by omega) (B := (b (s + m)).toInt.toNat) (by omega) (by omega)
abbrev W1001 : List Int32 := [109, 101, 97, 115, 117, 114, 101]
theorem s_len_1001 (d : Nat) (σ : ax_S) : cI sO (d + 1) 39 [.ref 1001] σ = some (7, σ) := by
  have e : cI sO d 40 [.ref 1001] σ = some (0, σ) := cI_ev mi_40 (u_40_1001 d σ) rfl
  refine cI_ev mi_39 ((u_39_1001 d σ).trans ?_) rfl
  rw [e, Option.bind_some]
  (try simp only)
  rw [show (7 : Int32) >>> ((0 : Int32) &&& 31) = 7 from by decide]
theorem s_chr_1001 (d : Nat) (σ : ax_S) {i : Nat} (hi : i < 7) : cI sO (d + 3) 41 [.ref 1001, .int (nI i)] σ = some (W1001.getD i 0, σ) := by
  have e0 : cI sO (d + 2) 42 [.ref 1001] σ = some (1, σ) := cI_ev mi_42 (u_42_1001 _ σ) rfl
  have e1 : cI sO (d + 2) 43 [.ref 1101, .int (nI i)] σ = some (((((W1001.getD i 0) &&& 255).toUInt32 % 65536).toInt32).toUInt32.toUInt16.toUInt32.toInt32, σ) := by
    refine cI_ev mi_43 ((u_43_1101 d σ _).trans ?_) rfl
    rw [show (7 : Int32) = nI 7 from rfl, s_ckI d σ hi (by omega), Option.bind_some, gd_t (by rw [nI_i (by omega)]; exact ⟨by omega, by show (i : Int) < ((7 : Nat) : Int); omega⟩), nI_c (by omega)]
  refine cI_ev mi_41 ((u_41_1001 d σ _).trans ?_) rfl
  rw [e0, Option.bind_some]
  (try simp only)
  rw [if_neg (by decide), e1, Option.bind_some]
  have h : ∀ j : Fin 7, ((((((W1001.getD j.val 0) &&& 255).toUInt32 % 65536).toInt32).toUInt32.toUInt16.toUInt32.toInt32 : Int32).toUInt32.toUInt16.toUInt32.toInt32) = W1001.getD j.val 0 := by decide
  have h := h ⟨i, hi⟩
  simp only at h ⊢
  rw [h]
theorem s_atName_1001 (d : Nat) {σ : ax_S} {b : Nat → Int32} {n k s e : Nat} (hb : cBy σ b n) (ho : tkO b n k s e) (h5 : σ.1 5 5 = nI (cso k)) (h6 : σ.1 5 6 = nI s) (h7 : σ.1 5 7 = nI e) : cI sO (d + 4) 38 [.ref 5, .ref 1001] σ = some (bi (nmP b W1001 k s e), σ) := by
  obtain ⟨hn, h1, hB⟩ := hb
  obtain ⟨o1, o2, o3, -⟩ := ho
  refine cI_ev mi_38 ((u_38_5_1001 d σ).trans ?_) rfl
  have ck : σ.1 5 5 = 1 ↔ k = 2 := by
    rw [h5]
    unfold cso
    constructor
    · intro q
      by_cases k2 : k = 2
      · exact k2
      · exfalso
        rw [if_neg (show ¬ k = 2 from k2)] at q
        repeat' split at q
        all_goals exact absurd q (by decide)
    · intro q
      rw [q]
      rfl
  by_cases k2 : k = 2
  · rw [if_pos (ck.mpr k2), s_len_1001 (d + 2), Option.bind_some]
    simp only [h6, h7]
    have ee : nI e - nI s = nI (e - s) := by
      apply Int32.toInt_inj.mp
      rw [i_sub (by rw [nI_i (by omega), nI_i (by omega)]; omega) (by rw [nI_i (by omega), nI_i (by omega)]; omega), nI_i (by omega), nI_i (by omega), nI_i (by omega)]
      omega
    rw [ee]
    by_cases hl : e - s = 7
    · rw [if_pos (by rw [hl]; rfl)]
      have h := loop_E (E := fun i (_ : Unit) => ev sO (d + 4) 38 28 [.ref 5, .ref 1001, .int (nI i)] [] σ) (N := 7) (P := fun i _ => ∀ j, j < i → b (s + j) = W1001.getD j 0) (R := fun β => β = some (some (.int 0), σ) ∧ ∃ j, j < 7 ∧ ¬ b (s + j) = W1001.getD j 0) (fun i _ hi hp => by
        have hbi := hB (s + i) (by omega)
        have cw : ∀ j : Fin 7, ∃ m : Nat, m < 128 ∧ W1001.getD j.val 0 = (OfNat.ofNat m : Int32) := by
          intro j
          have h := (show ∀ j : Fin 7, 0 ≤ (W1001.getD j.val 0).toInt ∧ (W1001.getD j.val 0).toInt < 128 by decide) j
          exact ⟨(W1001.getD j.val 0).toInt.toNat, by omega, (i_eq _ _).mpr (by rw [lit_i _ (by omega)]; omega)⟩
        obtain ⟨m, hm, em⟩ := cw ⟨i, hi⟩
        simp only at em
        have eq : σ.1 6 (s + i) = W1001.getD i 0 ↔ b (s + i) = W1001.getD i 0 := by
          rw [em]
          exact byR_eq hbi m hm
        rw [u_38_5_1001p28, s_len_1001 (d + 2), Option.bind_some]
        (try simp only)
        rw [if_pos (show nI i < (7 : Int32) from nlt (N := 7) hi), h6, nI_pl (by omega), s_byteAt _ h1 hn (by omega), Option.bind_some]
        (try simp only)
        rw [if_pos (show s + i < n by omega), s_chr_1001 d σ hi, Option.bind_some]
        (try simp only)
        by_cases q : b (s + i) = W1001.getD i 0
        · rw [if_pos (eq.mpr q), nI_add1]
          refine Or.inl ⟨(), fun j hj => ?_, rfl⟩
          by_cases qq : j = i
          · rw [qq]; exact q
          · exact hp j (by omega)
        · rw [if_neg (fun z => q (eq.mp z))]
          exact Or.inr ⟨rfl, i, hi, q⟩) () (fun j hj => absurd hj (Nat.not_lt_zero j))
      obtain ⟨-, hp, e1⟩ | ⟨e1, j, hj, hne⟩ := h
      · refine Eq.trans e1 ?_
        rw [u_38_5_1001p28, s_len_1001 (d + 2), Option.bind_some]
        (try simp only)
        rw [if_neg (show ¬ nI 7 < (7 : Int32) from nnl (N := 7) (Nat.le_refl _)), bi_t ⟨k2, hl, fun i hi => hp i hi⟩]
      · refine Eq.trans e1 ?_
        rw [bi_f (fun q => hne (q.2.2 j hj))]
    · rw [if_neg (show ¬ (7 : Int32) = nI (e - s) from fun q => hl (nI_inj (a := 7) (by omega) (by omega) q).symm), bi_f (fun q => hl q.2.1)]
  · rw [if_neg (fun q => k2 (ck.mp q)), bi_f (fun q => k2 q.1)]
theorem wd_1001 {g : Nat → Nat} {m : Nat} (hm : m < 8) (hg : ∀ i, i < m → 97 ≤ g i ∧ g i ≤ 122) : wn g m = 30792241684771429 ↔ m = 7 ∧ g 0 = 109 ∧ g 1 = 101 ∧ g 2 = 97 ∧ g 3 = 115 ∧ g 4 = 117 ∧ g 5 = 114 ∧ g 6 = 101 := by
  have h0 : wn g 0 = 0 := rfl
  have h1 : wn g 1 = wn g 0 * 256 + g 0 := rfl
  have h2 : wn g 2 = wn g 1 * 256 + g 1 := rfl
  have h3 : wn g 3 = wn g 2 * 256 + g 2 := rfl
  have h4 : wn g 4 = wn g 3 * 256 + g 3 := rfl
  have h5 : wn g 5 = wn g 4 * 256 + g 4 := rfl
  have h6 : wn g 6 = wn g 5 * 256 + g 5 := rfl
  have h7 : wn g 7 = wn g 6 * 256 + g 6 := rfl
  have hm2 : m = 0 ∨ m = 1 ∨ m = 2 ∨ m = 3 ∨ m = 4 ∨ m = 5 ∨ m = 6 ∨ m = 7 := by omega
  obtain q | q | q | q | q | q | q | q := hm2
  · subst q
    omega
  · subst q
    have b0 := hg 0 (by omega)
    omega
  · subst q
    have b0 := hg 0 (by omega)
    have b1 := hg 1 (by omega)
    omega
  · subst q
    have b0 := hg 0 (by omega)
    have b1 := hg 1 (by omega)
    have b2 := hg 2 (by omega)
    omega
  · subst q
    have b0 := hg 0 (by omega)
    have b1 := hg 1 (by omega)
    have b2 := hg 2 (by omega)
    have b3 := hg 3 (by omega)
    omega
  · subst q
    have b0 := hg 0 (by omega)
    have b1 := hg 1 (by omega)
    have b2 := hg 2 (by omega)
    have b3 := hg 3 (by omega)
    have b4 := hg 4 (by omega)
    omega
  · subst q
    have b0 := hg 0 (by omega)
    have b1 := hg 1 (by omega)
    have b2 := hg 2 (by omega)
    have b3 := hg 3 (by omega)
    have b4 := hg 4 (by omega)
    have b5 := hg 5 (by omega)
    omega
  · subst q
    have b0 := hg 0 (by omega)
    have b1 := hg 1 (by omega)
    have b2 := hg 2 (by omega)
    have b3 := hg 3 (by omega)
    have b4 := hg 4 (by omega)
    have b5 := hg 5 (by omega)
    have b6 := hg 6 (by omega)
    omega
abbrev W1002 : List Int32 := [112, 97, 99, 107, 101, 116]
theorem s_len_1002 (d : Nat) (σ : ax_S) : cI sO (d + 1) 39 [.ref 1002] σ = some (6, σ) := by
  have e : cI sO d 40 [.ref 1002] σ = some (0, σ) := cI_ev mi_40 (u_40_1002 d σ) rfl
  refine cI_ev mi_39 ((u_39_1002 d σ).trans ?_) rfl
  rw [e, Option.bind_some]
  (try simp only)
  rw [show (6 : Int32) >>> ((0 : Int32) &&& 31) = 6 from by decide]
theorem s_chr_1002 (d : Nat) (σ : ax_S) {i : Nat} (hi : i < 6) : cI sO (d + 3) 41 [.ref 1002, .int (nI i)] σ = some (W1002.getD i 0, σ) := by
  have e0 : cI sO (d + 2) 42 [.ref 1002] σ = some (1, σ) := cI_ev mi_42 (u_42_1002 _ σ) rfl
  have e1 : cI sO (d + 2) 43 [.ref 1102, .int (nI i)] σ = some (((((W1002.getD i 0) &&& 255).toUInt32 % 65536).toInt32).toUInt32.toUInt16.toUInt32.toInt32, σ) := by
    refine cI_ev mi_43 ((u_43_1102 d σ _).trans ?_) rfl
    rw [show (6 : Int32) = nI 6 from rfl, s_ckI d σ hi (by omega), Option.bind_some, gd_t (by rw [nI_i (by omega)]; exact ⟨by omega, by show (i : Int) < ((6 : Nat) : Int); omega⟩), nI_c (by omega)]
  refine cI_ev mi_41 ((u_41_1002 d σ _).trans ?_) rfl
  rw [e0, Option.bind_some]
  (try simp only)
  rw [if_neg (by decide), e1, Option.bind_some]
  have h : ∀ j : Fin 6, ((((((W1002.getD j.val 0) &&& 255).toUInt32 % 65536).toInt32).toUInt32.toUInt16.toUInt32.toInt32 : Int32).toUInt32.toUInt16.toUInt32.toInt32) = W1002.getD j.val 0 := by decide
  have h := h ⟨i, hi⟩
  simp only at h ⊢
  rw [h]
theorem s_atName_1002 (d : Nat) {σ : ax_S} {b : Nat → Int32} {n k s e : Nat} (hb : cBy σ b n) (ho : tkO b n k s e) (h5 : σ.1 5 5 = nI (cso k)) (h6 : σ.1 5 6 = nI s) (h7 : σ.1 5 7 = nI e) : cI sO (d + 4) 38 [.ref 5, .ref 1002] σ = some (bi (nmP b W1002 k s e), σ) := by
  obtain ⟨hn, h1, hB⟩ := hb
  obtain ⟨o1, o2, o3, -⟩ := ho
  refine cI_ev mi_38 ((u_38_5_1002 d σ).trans ?_) rfl
  have ck : σ.1 5 5 = 1 ↔ k = 2 := by
    rw [h5]
    unfold cso
    constructor
    · intro q
      by_cases k2 : k = 2
      · exact k2
      · exfalso
        rw [if_neg (show ¬ k = 2 from k2)] at q
        repeat' split at q
        all_goals exact absurd q (by decide)
    · intro q
      rw [q]
      rfl
  by_cases k2 : k = 2
  · rw [if_pos (ck.mpr k2), s_len_1002 (d + 2), Option.bind_some]
    simp only [h6, h7]
    have ee : nI e - nI s = nI (e - s) := by
      apply Int32.toInt_inj.mp
      rw [i_sub (by rw [nI_i (by omega), nI_i (by omega)]; omega) (by rw [nI_i (by omega), nI_i (by omega)]; omega), nI_i (by omega), nI_i (by omega), nI_i (by omega)]
      omega
    rw [ee]
    by_cases hl : e - s = 6
    · rw [if_pos (by rw [hl]; rfl)]
      have h := loop_E (E := fun i (_ : Unit) => ev sO (d + 4) 38 28 [.ref 5, .ref 1002, .int (nI i)] [] σ) (N := 6) (P := fun i _ => ∀ j, j < i → b (s + j) = W1002.getD j 0) (R := fun β => β = some (some (.int 0), σ) ∧ ∃ j, j < 6 ∧ ¬ b (s + j) = W1002.getD j 0) (fun i _ hi hp => by
        have hbi := hB (s + i) (by omega)
        have cw : ∀ j : Fin 6, ∃ m : Nat, m < 128 ∧ W1002.getD j.val 0 = (OfNat.ofNat m : Int32) := by
          intro j
          have h := (show ∀ j : Fin 6, 0 ≤ (W1002.getD j.val 0).toInt ∧ (W1002.getD j.val 0).toInt < 128 by decide) j
          exact ⟨(W1002.getD j.val 0).toInt.toNat, by omega, (i_eq _ _).mpr (by rw [lit_i _ (by omega)]; omega)⟩
        obtain ⟨m, hm, em⟩ := cw ⟨i, hi⟩
        simp only at em
        have eq : σ.1 6 (s + i) = W1002.getD i 0 ↔ b (s + i) = W1002.getD i 0 := by
          rw [em]
          exact byR_eq hbi m hm
        rw [u_38_5_1002p28, s_len_1002 (d + 2), Option.bind_some]
        (try simp only)
        rw [if_pos (show nI i < (6 : Int32) from nlt (N := 6) hi), h6, nI_pl (by omega), s_byteAt _ h1 hn (by omega), Option.bind_some]
        (try simp only)
        rw [if_pos (show s + i < n by omega), s_chr_1002 d σ hi, Option.bind_some]
        (try simp only)
        by_cases q : b (s + i) = W1002.getD i 0
        · rw [if_pos (eq.mpr q), nI_add1]
          refine Or.inl ⟨(), fun j hj => ?_, rfl⟩
          by_cases qq : j = i
          · rw [qq]; exact q
          · exact hp j (by omega)
        · rw [if_neg (fun z => q (eq.mp z))]
          exact Or.inr ⟨rfl, i, hi, q⟩) () (fun j hj => absurd hj (Nat.not_lt_zero j))
      obtain ⟨-, hp, e1⟩ | ⟨e1, j, hj, hne⟩ := h
      · refine Eq.trans e1 ?_
        rw [u_38_5_1002p28, s_len_1002 (d + 2), Option.bind_some]
        (try simp only)
        rw [if_neg (show ¬ nI 6 < (6 : Int32) from nnl (N := 6) (Nat.le_refl _)), bi_t ⟨k2, hl, fun i hi => hp i hi⟩]
      · refine Eq.trans e1 ?_
        rw [bi_f (fun q => hne (q.2.2 j hj))]
    · rw [if_neg (show ¬ (6 : Int32) = nI (e - s) from fun q => hl (nI_inj (a := 6) (by omega) (by omega) q).symm), bi_f (fun q => hl q.2.1)]
  · rw [if_neg (fun q => k2 (ck.mp q)), bi_f (fun q => k2 q.1)]
theorem wd_1002 {g : Nat → Nat} {m : Nat} (hm : m < 8) (hg : ∀ i, i < m → 97 ≤ g i ∧ g i ≤ 122) : wn g m = 123563582121332 ↔ m = 6 ∧ g 0 = 112 ∧ g 1 = 97 ∧ g 2 = 99 ∧ g 3 = 107 ∧ g 4 = 101 ∧ g 5 = 116 := by
  have h0 : wn g 0 = 0 := rfl
  have h1 : wn g 1 = wn g 0 * 256 + g 0 := rfl
  have h2 : wn g 2 = wn g 1 * 256 + g 1 := rfl
  have h3 : wn g 3 = wn g 2 * 256 + g 2 := rfl
  have h4 : wn g 4 = wn g 3 * 256 + g 3 := rfl
  have h5 : wn g 5 = wn g 4 * 256 + g 4 := rfl
  have h6 : wn g 6 = wn g 5 * 256 + g 5 := rfl
  have h7 : wn g 7 = wn g 6 * 256 + g 6 := rfl
  have hm2 : m = 0 ∨ m = 1 ∨ m = 2 ∨ m = 3 ∨ m = 4 ∨ m = 5 ∨ m = 6 ∨ m = 7 := by omega
  obtain q | q | q | q | q | q | q | q := hm2
  · subst q
    omega
  · subst q
    have b0 := hg 0 (by omega)
    omega
  · subst q
    have b0 := hg 0 (by omega)
    have b1 := hg 1 (by omega)
    omega
  · subst q
    have b0 := hg 0 (by omega)
    have b1 := hg 1 (by omega)
    have b2 := hg 2 (by omega)
    omega
  · subst q
    have b0 := hg 0 (by omega)
    have b1 := hg 1 (by omega)
    have b2 := hg 2 (by omega)
    have b3 := hg 3 (by omega)
    omega
  · subst q
    have b0 := hg 0 (by omega)
    have b1 := hg 1 (by omega)
    have b2 := hg 2 (by omega)
    have b3 := hg 3 (by omega)
    have b4 := hg 4 (by omega)
    omega
  · subst q
    have b0 := hg 0 (by omega)
    have b1 := hg 1 (by omega)
    have b2 := hg 2 (by omega)
    have b3 := hg 3 (by omega)
    have b4 := hg 4 (by omega)
    have b5 := hg 5 (by omega)
    omega
  · subst q
    have b0 := hg 0 (by omega)
    have b1 := hg 1 (by omega)
    have b2 := hg 2 (by omega)
    have b3 := hg 3 (by omega)
    have b4 := hg 4 (by omega)
    have b5 := hg 5 (by omega)
    have b6 := hg 6 (by omega)
    omega
abbrev W1003 : List Int32 := [114, 105, 115, 101]
theorem s_len_1003 (d : Nat) (σ : ax_S) : cI sO (d + 1) 39 [.ref 1003] σ = some (4, σ) := by
  have e : cI sO d 40 [.ref 1003] σ = some (0, σ) := cI_ev mi_40 (u_40_1003 d σ) rfl
  refine cI_ev mi_39 ((u_39_1003 d σ).trans ?_) rfl
  rw [e, Option.bind_some]
  (try simp only)
  rw [show (4 : Int32) >>> ((0 : Int32) &&& 31) = 4 from by decide]
theorem s_chr_1003 (d : Nat) (σ : ax_S) {i : Nat} (hi : i < 4) : cI sO (d + 3) 41 [.ref 1003, .int (nI i)] σ = some (W1003.getD i 0, σ) := by
  have e0 : cI sO (d + 2) 42 [.ref 1003] σ = some (1, σ) := cI_ev mi_42 (u_42_1003 _ σ) rfl
  have e1 : cI sO (d + 2) 43 [.ref 1103, .int (nI i)] σ = some (((((W1003.getD i 0) &&& 255).toUInt32 % 65536).toInt32).toUInt32.toUInt16.toUInt32.toInt32, σ) := by
    refine cI_ev mi_43 ((u_43_1103 d σ _).trans ?_) rfl
    rw [show (4 : Int32) = nI 4 from rfl, s_ckI d σ hi (by omega), Option.bind_some, gd_t (by rw [nI_i (by omega)]; exact ⟨by omega, by show (i : Int) < ((4 : Nat) : Int); omega⟩), nI_c (by omega)]
  refine cI_ev mi_41 ((u_41_1003 d σ _).trans ?_) rfl
  rw [e0, Option.bind_some]
  (try simp only)
  rw [if_neg (by decide), e1, Option.bind_some]
  have h : ∀ j : Fin 4, ((((((W1003.getD j.val 0) &&& 255).toUInt32 % 65536).toInt32).toUInt32.toUInt16.toUInt32.toInt32 : Int32).toUInt32.toUInt16.toUInt32.toInt32) = W1003.getD j.val 0 := by decide
  have h := h ⟨i, hi⟩
  simp only at h ⊢
  rw [h]
theorem s_atName_1003 (d : Nat) {σ : ax_S} {b : Nat → Int32} {n k s e : Nat} (hb : cBy σ b n) (ho : tkO b n k s e) (h5 : σ.1 5 5 = nI (cso k)) (h6 : σ.1 5 6 = nI s) (h7 : σ.1 5 7 = nI e) : cI sO (d + 4) 38 [.ref 5, .ref 1003] σ = some (bi (nmP b W1003 k s e), σ) := by
  obtain ⟨hn, h1, hB⟩ := hb
  obtain ⟨o1, o2, o3, -⟩ := ho
  refine cI_ev mi_38 ((u_38_5_1003 d σ).trans ?_) rfl
  have ck : σ.1 5 5 = 1 ↔ k = 2 := by
    rw [h5]
    unfold cso
    constructor
    · intro q
      by_cases k2 : k = 2
      · exact k2
      · exfalso
        rw [if_neg (show ¬ k = 2 from k2)] at q
        repeat' split at q
        all_goals exact absurd q (by decide)
    · intro q
      rw [q]
      rfl
  by_cases k2 : k = 2
  · rw [if_pos (ck.mpr k2), s_len_1003 (d + 2), Option.bind_some]
    simp only [h6, h7]
    have ee : nI e - nI s = nI (e - s) := by
      apply Int32.toInt_inj.mp
      rw [i_sub (by rw [nI_i (by omega), nI_i (by omega)]; omega) (by rw [nI_i (by omega), nI_i (by omega)]; omega), nI_i (by omega), nI_i (by omega), nI_i (by omega)]
      omega
    rw [ee]
    by_cases hl : e - s = 4
    · rw [if_pos (by rw [hl]; rfl)]
      have h := loop_E (E := fun i (_ : Unit) => ev sO (d + 4) 38 28 [.ref 5, .ref 1003, .int (nI i)] [] σ) (N := 4) (P := fun i _ => ∀ j, j < i → b (s + j) = W1003.getD j 0) (R := fun β => β = some (some (.int 0), σ) ∧ ∃ j, j < 4 ∧ ¬ b (s + j) = W1003.getD j 0) (fun i _ hi hp => by
        have hbi := hB (s + i) (by omega)
        have cw : ∀ j : Fin 4, ∃ m : Nat, m < 128 ∧ W1003.getD j.val 0 = (OfNat.ofNat m : Int32) := by
          intro j
          have h := (show ∀ j : Fin 4, 0 ≤ (W1003.getD j.val 0).toInt ∧ (W1003.getD j.val 0).toInt < 128 by decide) j
          exact ⟨(W1003.getD j.val 0).toInt.toNat, by omega, (i_eq _ _).mpr (by rw [lit_i _ (by omega)]; omega)⟩
        obtain ⟨m, hm, em⟩ := cw ⟨i, hi⟩
        simp only at em
        have eq : σ.1 6 (s + i) = W1003.getD i 0 ↔ b (s + i) = W1003.getD i 0 := by
          rw [em]
          exact byR_eq hbi m hm
        rw [u_38_5_1003p28, s_len_1003 (d + 2), Option.bind_some]
        (try simp only)
        rw [if_pos (show nI i < (4 : Int32) from nlt (N := 4) hi), h6, nI_pl (by omega), s_byteAt _ h1 hn (by omega), Option.bind_some]
        (try simp only)
        rw [if_pos (show s + i < n by omega), s_chr_1003 d σ hi, Option.bind_some]
        (try simp only)
        by_cases q : b (s + i) = W1003.getD i 0
        · rw [if_pos (eq.mpr q), nI_add1]
          refine Or.inl ⟨(), fun j hj => ?_, rfl⟩
          by_cases qq : j = i
          · rw [qq]; exact q
          · exact hp j (by omega)
        · rw [if_neg (fun z => q (eq.mp z))]
          exact Or.inr ⟨rfl, i, hi, q⟩) () (fun j hj => absurd hj (Nat.not_lt_zero j))
      obtain ⟨-, hp, e1⟩ | ⟨e1, j, hj, hne⟩ := h
      · refine Eq.trans e1 ?_
        rw [u_38_5_1003p28, s_len_1003 (d + 2), Option.bind_some]
        (try simp only)
        rw [if_neg (show ¬ nI 4 < (4 : Int32) from nnl (N := 4) (Nat.le_refl _)), bi_t ⟨k2, hl, fun i hi => hp i hi⟩]
      · refine Eq.trans e1 ?_
        rw [bi_f (fun q => hne (q.2.2 j hj))]
    · rw [if_neg (show ¬ (4 : Int32) = nI (e - s) from fun q => hl (nI_inj (a := 4) (by omega) (by omega) q).symm), bi_f (fun q => hl q.2.1)]
  · rw [if_neg (fun q => k2 (ck.mp q)), bi_f (fun q => k2 q.1)]
theorem wd_1003 {g : Nat → Nat} {m : Nat} (hm : m < 8) (hg : ∀ i, i < m → 97 ≤ g i ∧ g i ≤ 122) : wn g m = 1919513445 ↔ m = 4 ∧ g 0 = 114 ∧ g 1 = 105 ∧ g 2 = 115 ∧ g 3 = 101 := by
  have h0 : wn g 0 = 0 := rfl
  have h1 : wn g 1 = wn g 0 * 256 + g 0 := rfl
  have h2 : wn g 2 = wn g 1 * 256 + g 1 := rfl
  have h3 : wn g 3 = wn g 2 * 256 + g 2 := rfl
  have h4 : wn g 4 = wn g 3 * 256 + g 3 := rfl
  have h5 : wn g 5 = wn g 4 * 256 + g 4 := rfl
  have h6 : wn g 6 = wn g 5 * 256 + g 5 := rfl
  have h7 : wn g 7 = wn g 6 * 256 + g 6 := rfl
  have hm2 : m = 0 ∨ m = 1 ∨ m = 2 ∨ m = 3 ∨ m = 4 ∨ m = 5 ∨ m = 6 ∨ m = 7 := by omega
  obtain q | q | q | q | q | q | q | q := hm2
  · subst q
    omega
  · subst q
    have b0 := hg 0 (by omega)
    omega
  · subst q
    have b0 := hg 0 (by omega)
    have b1 := hg 1 (by omega)
    omega
  · subst q
    have b0 := hg 0 (by omega)
    have b1 := hg 1 (by omega)
    have b2 := hg 2 (by omega)
    omega
  · subst q
    have b0 := hg 0 (by omega)
    have b1 := hg 1 (by omega)
    have b2 := hg 2 (by omega)
    have b3 := hg 3 (by omega)
    omega
  · subst q
    have b0 := hg 0 (by omega)
    have b1 := hg 1 (by omega)
    have b2 := hg 2 (by omega)
    have b3 := hg 3 (by omega)
    have b4 := hg 4 (by omega)
    omega
  · subst q
    have b0 := hg 0 (by omega)
    have b1 := hg 1 (by omega)
    have b2 := hg 2 (by omega)
    have b3 := hg 3 (by omega)
    have b4 := hg 4 (by omega)
    have b5 := hg 5 (by omega)
    omega
  · subst q
    have b0 := hg 0 (by omega)
    have b1 := hg 1 (by omega)
    have b2 := hg 2 (by omega)
    have b3 := hg 3 (by omega)
    have b4 := hg 4 (by omega)
    have b5 := hg 5 (by omega)
    have b6 := hg 6 (by omega)
    omega
abbrev W1004 : List Int32 := [99, 97, 114, 100]
theorem s_len_1004 (d : Nat) (σ : ax_S) : cI sO (d + 1) 39 [.ref 1004] σ = some (4, σ) := by
  have e : cI sO d 40 [.ref 1004] σ = some (0, σ) := cI_ev mi_40 (u_40_1004 d σ) rfl
  refine cI_ev mi_39 ((u_39_1004 d σ).trans ?_) rfl
  rw [e, Option.bind_some]
  (try simp only)
  rw [show (4 : Int32) >>> ((0 : Int32) &&& 31) = 4 from by decide]
theorem s_chr_1004 (d : Nat) (σ : ax_S) {i : Nat} (hi : i < 4) : cI sO (d + 3) 41 [.ref 1004, .int (nI i)] σ = some (W1004.getD i 0, σ) := by
  have e0 : cI sO (d + 2) 42 [.ref 1004] σ = some (1, σ) := cI_ev mi_42 (u_42_1004 _ σ) rfl
  have e1 : cI sO (d + 2) 43 [.ref 1104, .int (nI i)] σ = some (((((W1004.getD i 0) &&& 255).toUInt32 % 65536).toInt32).toUInt32.toUInt16.toUInt32.toInt32, σ) := by
    refine cI_ev mi_43 ((u_43_1104 d σ _).trans ?_) rfl
    rw [show (4 : Int32) = nI 4 from rfl, s_ckI d σ hi (by omega), Option.bind_some, gd_t (by rw [nI_i (by omega)]; exact ⟨by omega, by show (i : Int) < ((4 : Nat) : Int); omega⟩), nI_c (by omega)]
  refine cI_ev mi_41 ((u_41_1004 d σ _).trans ?_) rfl
  rw [e0, Option.bind_some]
  (try simp only)
  rw [if_neg (by decide), e1, Option.bind_some]
  have h : ∀ j : Fin 4, ((((((W1004.getD j.val 0) &&& 255).toUInt32 % 65536).toInt32).toUInt32.toUInt16.toUInt32.toInt32 : Int32).toUInt32.toUInt16.toUInt32.toInt32) = W1004.getD j.val 0 := by decide
  have h := h ⟨i, hi⟩
  simp only at h ⊢
  rw [h]
theorem s_atName_1004 (d : Nat) {σ : ax_S} {b : Nat → Int32} {n k s e : Nat} (hb : cBy σ b n) (ho : tkO b n k s e) (h5 : σ.1 5 5 = nI (cso k)) (h6 : σ.1 5 6 = nI s) (h7 : σ.1 5 7 = nI e) : cI sO (d + 4) 38 [.ref 5, .ref 1004] σ = some (bi (nmP b W1004 k s e), σ) := by
  obtain ⟨hn, h1, hB⟩ := hb
  obtain ⟨o1, o2, o3, -⟩ := ho
  refine cI_ev mi_38 ((u_38_5_1004 d σ).trans ?_) rfl
  have ck : σ.1 5 5 = 1 ↔ k = 2 := by
    rw [h5]
    unfold cso
    constructor
    · intro q
      by_cases k2 : k = 2
      · exact k2
      · exfalso
        rw [if_neg (show ¬ k = 2 from k2)] at q
        repeat' split at q
        all_goals exact absurd q (by decide)
    · intro q
      rw [q]
      rfl
  by_cases k2 : k = 2
  · rw [if_pos (ck.mpr k2), s_len_1004 (d + 2), Option.bind_some]
    simp only [h6, h7]
    have ee : nI e - nI s = nI (e - s) := by
      apply Int32.toInt_inj.mp
      rw [i_sub (by rw [nI_i (by omega), nI_i (by omega)]; omega) (by rw [nI_i (by omega), nI_i (by omega)]; omega), nI_i (by omega), nI_i (by omega), nI_i (by omega)]
      omega
    rw [ee]
    by_cases hl : e - s = 4
    · rw [if_pos (by rw [hl]; rfl)]
      have h := loop_E (E := fun i (_ : Unit) => ev sO (d + 4) 38 28 [.ref 5, .ref 1004, .int (nI i)] [] σ) (N := 4) (P := fun i _ => ∀ j, j < i → b (s + j) = W1004.getD j 0) (R := fun β => β = some (some (.int 0), σ) ∧ ∃ j, j < 4 ∧ ¬ b (s + j) = W1004.getD j 0) (fun i _ hi hp => by
        have hbi := hB (s + i) (by omega)
        have cw : ∀ j : Fin 4, ∃ m : Nat, m < 128 ∧ W1004.getD j.val 0 = (OfNat.ofNat m : Int32) := by
          intro j
          have h := (show ∀ j : Fin 4, 0 ≤ (W1004.getD j.val 0).toInt ∧ (W1004.getD j.val 0).toInt < 128 by decide) j
          exact ⟨(W1004.getD j.val 0).toInt.toNat, by omega, (i_eq _ _).mpr (by rw [lit_i _ (by omega)]; omega)⟩
        obtain ⟨m, hm, em⟩ := cw ⟨i, hi⟩
        simp only at em
        have eq : σ.1 6 (s + i) = W1004.getD i 0 ↔ b (s + i) = W1004.getD i 0 := by
          rw [em]
          exact byR_eq hbi m hm
        rw [u_38_5_1004p28, s_len_1004 (d + 2), Option.bind_some]
        (try simp only)
        rw [if_pos (show nI i < (4 : Int32) from nlt (N := 4) hi), h6, nI_pl (by omega), s_byteAt _ h1 hn (by omega), Option.bind_some]
        (try simp only)
        rw [if_pos (show s + i < n by omega), s_chr_1004 d σ hi, Option.bind_some]
        (try simp only)
        by_cases q : b (s + i) = W1004.getD i 0
        · rw [if_pos (eq.mpr q), nI_add1]
          refine Or.inl ⟨(), fun j hj => ?_, rfl⟩
          by_cases qq : j = i
          · rw [qq]; exact q
          · exact hp j (by omega)
        · rw [if_neg (fun z => q (eq.mp z))]
          exact Or.inr ⟨rfl, i, hi, q⟩) () (fun j hj => absurd hj (Nat.not_lt_zero j))
      obtain ⟨-, hp, e1⟩ | ⟨e1, j, hj, hne⟩ := h
      · refine Eq.trans e1 ?_
        rw [u_38_5_1004p28, s_len_1004 (d + 2), Option.bind_some]
        (try simp only)
        rw [if_neg (show ¬ nI 4 < (4 : Int32) from nnl (N := 4) (Nat.le_refl _)), bi_t ⟨k2, hl, fun i hi => hp i hi⟩]
      · refine Eq.trans e1 ?_
        rw [bi_f (fun q => hne (q.2.2 j hj))]
    · rw [if_neg (show ¬ (4 : Int32) = nI (e - s) from fun q => hl (nI_inj (a := 4) (by omega) (by omega) q).symm), bi_f (fun q => hl q.2.1)]
  · rw [if_neg (fun q => k2 (ck.mp q)), bi_f (fun q => k2 q.1)]
theorem wd_1004 {g : Nat → Nat} {m : Nat} (hm : m < 8) (hg : ∀ i, i < m → 97 ≤ g i ∧ g i ≤ 122) : wn g m = 1667330660 ↔ m = 4 ∧ g 0 = 99 ∧ g 1 = 97 ∧ g 2 = 114 ∧ g 3 = 100 := by
  have h0 : wn g 0 = 0 := rfl
  have h1 : wn g 1 = wn g 0 * 256 + g 0 := rfl
  have h2 : wn g 2 = wn g 1 * 256 + g 1 := rfl
  have h3 : wn g 3 = wn g 2 * 256 + g 2 := rfl
  have h4 : wn g 4 = wn g 3 * 256 + g 3 := rfl
  have h5 : wn g 5 = wn g 4 * 256 + g 4 := rfl
  have h6 : wn g 6 = wn g 5 * 256 + g 5 := rfl
  have h7 : wn g 7 = wn g 6 * 256 + g 6 := rfl
  have hm2 : m = 0 ∨ m = 1 ∨ m = 2 ∨ m = 3 ∨ m = 4 ∨ m = 5 ∨ m = 6 ∨ m = 7 := by omega
  obtain q | q | q | q | q | q | q | q := hm2
  · subst q
    omega
  · subst q
    have b0 := hg 0 (by omega)
    omega
  · subst q
    have b0 := hg 0 (by omega)
    have b1 := hg 1 (by omega)
    omega
  · subst q
    have b0 := hg 0 (by omega)
    have b1 := hg 1 (by omega)
    have b2 := hg 2 (by omega)
    omega
  · subst q
    have b0 := hg 0 (by omega)
    have b1 := hg 1 (by omega)
    have b2 := hg 2 (by omega)
    have b3 := hg 3 (by omega)
    omega
  · subst q
    have b0 := hg 0 (by omega)
    have b1 := hg 1 (by omega)
    have b2 := hg 2 (by omega)
    have b3 := hg 3 (by omega)
    have b4 := hg 4 (by omega)
    omega
  · subst q
    have b0 := hg 0 (by omega)
    have b1 := hg 1 (by omega)
    have b2 := hg 2 (by omega)
    have b3 := hg 3 (by omega)
    have b4 := hg 4 (by omega)
    have b5 := hg 5 (by omega)
    omega
  · subst q
    have b0 := hg 0 (by omega)
    have b1 := hg 1 (by omega)
    have b2 := hg 2 (by omega)
    have b3 := hg 3 (by omega)
    have b4 := hg 4 (by omega)
    have b5 := hg 5 (by omega)
    have b6 := hg 6 (by omega)
    omega
abbrev W1005 : List Int32 := [97, 100, 100]
theorem s_len_1005 (d : Nat) (σ : ax_S) : cI sO (d + 1) 39 [.ref 1005] σ = some (3, σ) := by
  have e : cI sO d 40 [.ref 1005] σ = some (0, σ) := cI_ev mi_40 (u_40_1005 d σ) rfl
  refine cI_ev mi_39 ((u_39_1005 d σ).trans ?_) rfl
  rw [e, Option.bind_some]
  (try simp only)
  rw [show (3 : Int32) >>> ((0 : Int32) &&& 31) = 3 from by decide]
theorem s_chr_1005 (d : Nat) (σ : ax_S) {i : Nat} (hi : i < 3) : cI sO (d + 3) 41 [.ref 1005, .int (nI i)] σ = some (W1005.getD i 0, σ) := by
  have e0 : cI sO (d + 2) 42 [.ref 1005] σ = some (1, σ) := cI_ev mi_42 (u_42_1005 _ σ) rfl
  have e1 : cI sO (d + 2) 43 [.ref 1105, .int (nI i)] σ = some (((((W1005.getD i 0) &&& 255).toUInt32 % 65536).toInt32).toUInt32.toUInt16.toUInt32.toInt32, σ) := by
    refine cI_ev mi_43 ((u_43_1105 d σ _).trans ?_) rfl
    rw [show (3 : Int32) = nI 3 from rfl, s_ckI d σ hi (by omega), Option.bind_some, gd_t (by rw [nI_i (by omega)]; exact ⟨by omega, by show (i : Int) < ((3 : Nat) : Int); omega⟩), nI_c (by omega)]
  refine cI_ev mi_41 ((u_41_1005 d σ _).trans ?_) rfl
  rw [e0, Option.bind_some]
  (try simp only)
  rw [if_neg (by decide), e1, Option.bind_some]
  have h : ∀ j : Fin 3, ((((((W1005.getD j.val 0) &&& 255).toUInt32 % 65536).toInt32).toUInt32.toUInt16.toUInt32.toInt32 : Int32).toUInt32.toUInt16.toUInt32.toInt32) = W1005.getD j.val 0 := by decide
  have h := h ⟨i, hi⟩
  simp only at h ⊢
  rw [h]
theorem s_atName_1005 (d : Nat) {σ : ax_S} {b : Nat → Int32} {n k s e : Nat} (hb : cBy σ b n) (ho : tkO b n k s e) (h5 : σ.1 5 5 = nI (cso k)) (h6 : σ.1 5 6 = nI s) (h7 : σ.1 5 7 = nI e) : cI sO (d + 4) 38 [.ref 5, .ref 1005] σ = some (bi (nmP b W1005 k s e), σ) := by
  obtain ⟨hn, h1, hB⟩ := hb
  obtain ⟨o1, o2, o3, -⟩ := ho
  refine cI_ev mi_38 ((u_38_5_1005 d σ).trans ?_) rfl
  have ck : σ.1 5 5 = 1 ↔ k = 2 := by
    rw [h5]
    unfold cso
    constructor
    · intro q
      by_cases k2 : k = 2
      · exact k2
      · exfalso
        rw [if_neg (show ¬ k = 2 from k2)] at q
        repeat' split at q
        all_goals exact absurd q (by decide)
    · intro q
      rw [q]
      rfl
  by_cases k2 : k = 2
  · rw [if_pos (ck.mpr k2), s_len_1005 (d + 2), Option.bind_some]
    simp only [h6, h7]
    have ee : nI e - nI s = nI (e - s) := by
      apply Int32.toInt_inj.mp
      rw [i_sub (by rw [nI_i (by omega), nI_i (by omega)]; omega) (by rw [nI_i (by omega), nI_i (by omega)]; omega), nI_i (by omega), nI_i (by omega), nI_i (by omega)]
      omega
    rw [ee]
    by_cases hl : e - s = 3
    · rw [if_pos (by rw [hl]; rfl)]
      have h := loop_E (E := fun i (_ : Unit) => ev sO (d + 4) 38 28 [.ref 5, .ref 1005, .int (nI i)] [] σ) (N := 3) (P := fun i _ => ∀ j, j < i → b (s + j) = W1005.getD j 0) (R := fun β => β = some (some (.int 0), σ) ∧ ∃ j, j < 3 ∧ ¬ b (s + j) = W1005.getD j 0) (fun i _ hi hp => by
        have hbi := hB (s + i) (by omega)
        have cw : ∀ j : Fin 3, ∃ m : Nat, m < 128 ∧ W1005.getD j.val 0 = (OfNat.ofNat m : Int32) := by
          intro j
          have h := (show ∀ j : Fin 3, 0 ≤ (W1005.getD j.val 0).toInt ∧ (W1005.getD j.val 0).toInt < 128 by decide) j
          exact ⟨(W1005.getD j.val 0).toInt.toNat, by omega, (i_eq _ _).mpr (by rw [lit_i _ (by omega)]; omega)⟩
        obtain ⟨m, hm, em⟩ := cw ⟨i, hi⟩
        simp only at em
        have eq : σ.1 6 (s + i) = W1005.getD i 0 ↔ b (s + i) = W1005.getD i 0 := by
          rw [em]
          exact byR_eq hbi m hm
        rw [u_38_5_1005p28, s_len_1005 (d + 2), Option.bind_some]
        (try simp only)
        rw [if_pos (show nI i < (3 : Int32) from nlt (N := 3) hi), h6, nI_pl (by omega), s_byteAt _ h1 hn (by omega), Option.bind_some]
        (try simp only)
        rw [if_pos (show s + i < n by omega), s_chr_1005 d σ hi, Option.bind_some]
        (try simp only)
        by_cases q : b (s + i) = W1005.getD i 0
        · rw [if_pos (eq.mpr q), nI_add1]
          refine Or.inl ⟨(), fun j hj => ?_, rfl⟩
          by_cases qq : j = i
          · rw [qq]; exact q
          · exact hp j (by omega)
        · rw [if_neg (fun z => q (eq.mp z))]
          exact Or.inr ⟨rfl, i, hi, q⟩) () (fun j hj => absurd hj (Nat.not_lt_zero j))
      obtain ⟨-, hp, e1⟩ | ⟨e1, j, hj, hne⟩ := h
      · refine Eq.trans e1 ?_
        rw [u_38_5_1005p28, s_len_1005 (d + 2), Option.bind_some]
        (try simp only)
        rw [if_neg (show ¬ nI 3 < (3 : Int32) from nnl (N := 3) (Nat.le_refl _)), bi_t ⟨k2, hl, fun i hi => hp i hi⟩]
      · refine Eq.trans e1 ?_
        rw [bi_f (fun q => hne (q.2.2 j hj))]
    · rw [if_neg (show ¬ (3 : Int32) = nI (e - s) from fun q => hl (nI_inj (a := 3) (by omega) (by omega) q).symm), bi_f (fun q => hl q.2.1)]
  · rw [if_neg (fun q => k2 (ck.mp q)), bi_f (fun q => k2 q.1)]
theorem wd_1005 {g : Nat → Nat} {m : Nat} (hm : m < 8) (hg : ∀ i, i < m → 97 ≤ g i ∧ g i ≤ 122) : wn g m = 6382692 ↔ m = 3 ∧ g 0 = 97 ∧ g 1 = 100 ∧ g 2 = 100 := by
  have h0 : wn g 0 = 0 := rfl
  have h1 : wn g 1 = wn g 0 * 256 + g 0 := rfl
  have h2 : wn g 2 = wn g 1 * 256 + g 1 := rfl
  have h3 : wn g 3 = wn g 2 * 256 + g 2 := rfl
  have h4 : wn g 4 = wn g 3 * 256 + g 3 := rfl
  have h5 : wn g 5 = wn g 4 * 256 + g 4 := rfl
  have h6 : wn g 6 = wn g 5 * 256 + g 5 := rfl
  have h7 : wn g 7 = wn g 6 * 256 + g 6 := rfl
  have hm2 : m = 0 ∨ m = 1 ∨ m = 2 ∨ m = 3 ∨ m = 4 ∨ m = 5 ∨ m = 6 ∨ m = 7 := by omega
  obtain q | q | q | q | q | q | q | q := hm2
  · subst q
    omega
  · subst q
    have b0 := hg 0 (by omega)
    omega
  · subst q
    have b0 := hg 0 (by omega)
    have b1 := hg 1 (by omega)
    omega
  · subst q
    have b0 := hg 0 (by omega)
    have b1 := hg 1 (by omega)
    have b2 := hg 2 (by omega)
    omega
  · subst q
    have b0 := hg 0 (by omega)
    have b1 := hg 1 (by omega)
    have b2 := hg 2 (by omega)
    have b3 := hg 3 (by omega)
    omega
  · subst q
    have b0 := hg 0 (by omega)
    have b1 := hg 1 (by omega)
    have b2 := hg 2 (by omega)
    have b3 := hg 3 (by omega)
    have b4 := hg 4 (by omega)
    omega
  · subst q
    have b0 := hg 0 (by omega)
    have b1 := hg 1 (by omega)
    have b2 := hg 2 (by omega)
    have b3 := hg 3 (by omega)
    have b4 := hg 4 (by omega)
    have b5 := hg 5 (by omega)
    omega
  · subst q
    have b0 := hg 0 (by omega)
    have b1 := hg 1 (by omega)
    have b2 := hg 2 (by omega)
    have b3 := hg 3 (by omega)
    have b4 := hg 4 (by omega)
    have b5 := hg 5 (by omega)
    have b6 := hg 6 (by omega)
    omega
abbrev W1006 : List Int32 := [104, 101, 97, 116]
theorem s_len_1006 (d : Nat) (σ : ax_S) : cI sO (d + 1) 39 [.ref 1006] σ = some (4, σ) := by
  have e : cI sO d 40 [.ref 1006] σ = some (0, σ) := cI_ev mi_40 (u_40_1006 d σ) rfl
  refine cI_ev mi_39 ((u_39_1006 d σ).trans ?_) rfl
  rw [e, Option.bind_some]
  (try simp only)
  rw [show (4 : Int32) >>> ((0 : Int32) &&& 31) = 4 from by decide]
theorem s_chr_1006 (d : Nat) (σ : ax_S) {i : Nat} (hi : i < 4) : cI sO (d + 3) 41 [.ref 1006, .int (nI i)] σ = some (W1006.getD i 0, σ) := by
  have e0 : cI sO (d + 2) 42 [.ref 1006] σ = some (1, σ) := cI_ev mi_42 (u_42_1006 _ σ) rfl
  have e1 : cI sO (d + 2) 43 [.ref 1106, .int (nI i)] σ = some (((((W1006.getD i 0) &&& 255).toUInt32 % 65536).toInt32).toUInt32.toUInt16.toUInt32.toInt32, σ) := by
    refine cI_ev mi_43 ((u_43_1106 d σ _).trans ?_) rfl
    rw [show (4 : Int32) = nI 4 from rfl, s_ckI d σ hi (by omega), Option.bind_some, gd_t (by rw [nI_i (by omega)]; exact ⟨by omega, by show (i : Int) < ((4 : Nat) : Int); omega⟩), nI_c (by omega)]
  refine cI_ev mi_41 ((u_41_1006 d σ _).trans ?_) rfl
  rw [e0, Option.bind_some]
  (try simp only)
  rw [if_neg (by decide), e1, Option.bind_some]
  have h : ∀ j : Fin 4, ((((((W1006.getD j.val 0) &&& 255).toUInt32 % 65536).toInt32).toUInt32.toUInt16.toUInt32.toInt32 : Int32).toUInt32.toUInt16.toUInt32.toInt32) = W1006.getD j.val 0 := by decide
  have h := h ⟨i, hi⟩
  simp only at h ⊢
  rw [h]
theorem s_atName_1006 (d : Nat) {σ : ax_S} {b : Nat → Int32} {n k s e : Nat} (hb : cBy σ b n) (ho : tkO b n k s e) (h5 : σ.1 5 5 = nI (cso k)) (h6 : σ.1 5 6 = nI s) (h7 : σ.1 5 7 = nI e) : cI sO (d + 4) 38 [.ref 5, .ref 1006] σ = some (bi (nmP b W1006 k s e), σ) := by
  obtain ⟨hn, h1, hB⟩ := hb
  obtain ⟨o1, o2, o3, -⟩ := ho
  refine cI_ev mi_38 ((u_38_5_1006 d σ).trans ?_) rfl
  have ck : σ.1 5 5 = 1 ↔ k = 2 := by
    rw [h5]
    unfold cso
    constructor
    · intro q
      by_cases k2 : k = 2
      · exact k2
      · exfalso
        rw [if_neg (show ¬ k = 2 from k2)] at q
        repeat' split at q
        all_goals exact absurd q (by decide)
    · intro q
      rw [q]
      rfl
  by_cases k2 : k = 2
  · rw [if_pos (ck.mpr k2), s_len_1006 (d + 2), Option.bind_some]
    simp only [h6, h7]
    have ee : nI e - nI s = nI (e - s) := by
      apply Int32.toInt_inj.mp
      rw [i_sub (by rw [nI_i (by omega), nI_i (by omega)]; omega) (by rw [nI_i (by omega), nI_i (by omega)]; omega), nI_i (by omega), nI_i (by omega), nI_i (by omega)]
      omega
    rw [ee]
    by_cases hl : e - s = 4
    · rw [if_pos (by rw [hl]; rfl)]
      have h := loop_E (E := fun i (_ : Unit) => ev sO (d + 4) 38 28 [.ref 5, .ref 1006, .int (nI i)] [] σ) (N := 4) (P := fun i _ => ∀ j, j < i → b (s + j) = W1006.getD j 0) (R := fun β => β = some (some (.int 0), σ) ∧ ∃ j, j < 4 ∧ ¬ b (s + j) = W1006.getD j 0) (fun i _ hi hp => by
        have hbi := hB (s + i) (by omega)
        have cw : ∀ j : Fin 4, ∃ m : Nat, m < 128 ∧ W1006.getD j.val 0 = (OfNat.ofNat m : Int32) := by
          intro j
          have h := (show ∀ j : Fin 4, 0 ≤ (W1006.getD j.val 0).toInt ∧ (W1006.getD j.val 0).toInt < 128 by decide) j
          exact ⟨(W1006.getD j.val 0).toInt.toNat, by omega, (i_eq _ _).mpr (by rw [lit_i _ (by omega)]; omega)⟩
        obtain ⟨m, hm, em⟩ := cw ⟨i, hi⟩
        simp only at em
        have eq : σ.1 6 (s + i) = W1006.getD i 0 ↔ b (s + i) = W1006.getD i 0 := by
          rw [em]
          exact byR_eq hbi m hm
        rw [u_38_5_1006p28, s_len_1006 (d + 2), Option.bind_some]
        (try simp only)
        rw [if_pos (show nI i < (4 : Int32) from nlt (N := 4) hi), h6, nI_pl (by omega), s_byteAt _ h1 hn (by omega), Option.bind_some]
        (try simp only)
        rw [if_pos (show s + i < n by omega), s_chr_1006 d σ hi, Option.bind_some]
        (try simp only)
        by_cases q : b (s + i) = W1006.getD i 0
        · rw [if_pos (eq.mpr q), nI_add1]
          refine Or.inl ⟨(), fun j hj => ?_, rfl⟩
          by_cases qq : j = i
          · rw [qq]; exact q
          · exact hp j (by omega)
        · rw [if_neg (fun z => q (eq.mp z))]
          exact Or.inr ⟨rfl, i, hi, q⟩) () (fun j hj => absurd hj (Nat.not_lt_zero j))
      obtain ⟨-, hp, e1⟩ | ⟨e1, j, hj, hne⟩ := h
      · refine Eq.trans e1 ?_
        rw [u_38_5_1006p28, s_len_1006 (d + 2), Option.bind_some]
        (try simp only)
        rw [if_neg (show ¬ nI 4 < (4 : Int32) from nnl (N := 4) (Nat.le_refl _)), bi_t ⟨k2, hl, fun i hi => hp i hi⟩]
      · refine Eq.trans e1 ?_
        rw [bi_f (fun q => hne (q.2.2 j hj))]
    · rw [if_neg (show ¬ (4 : Int32) = nI (e - s) from fun q => hl (nI_inj (a := 4) (by omega) (by omega) q).symm), bi_f (fun q => hl q.2.1)]
  · rw [if_neg (fun q => k2 (ck.mp q)), bi_f (fun q => k2 q.1)]
theorem wd_1006 {g : Nat → Nat} {m : Nat} (hm : m < 8) (hg : ∀ i, i < m → 97 ≤ g i ∧ g i ≤ 122) : wn g m = 1751474548 ↔ m = 4 ∧ g 0 = 104 ∧ g 1 = 101 ∧ g 2 = 97 ∧ g 3 = 116 := by
  have h0 : wn g 0 = 0 := rfl
  have h1 : wn g 1 = wn g 0 * 256 + g 0 := rfl
  have h2 : wn g 2 = wn g 1 * 256 + g 1 := rfl
  have h3 : wn g 3 = wn g 2 * 256 + g 2 := rfl
  have h4 : wn g 4 = wn g 3 * 256 + g 3 := rfl
  have h5 : wn g 5 = wn g 4 * 256 + g 4 := rfl
  have h6 : wn g 6 = wn g 5 * 256 + g 5 := rfl
  have h7 : wn g 7 = wn g 6 * 256 + g 6 := rfl
  have hm2 : m = 0 ∨ m = 1 ∨ m = 2 ∨ m = 3 ∨ m = 4 ∨ m = 5 ∨ m = 6 ∨ m = 7 := by omega
  obtain q | q | q | q | q | q | q | q := hm2
  · subst q
    omega
  · subst q
    have b0 := hg 0 (by omega)
    omega
  · subst q
    have b0 := hg 0 (by omega)
    have b1 := hg 1 (by omega)
    omega
  · subst q
    have b0 := hg 0 (by omega)
    have b1 := hg 1 (by omega)
    have b2 := hg 2 (by omega)
    omega
  · subst q
    have b0 := hg 0 (by omega)
    have b1 := hg 1 (by omega)
    have b2 := hg 2 (by omega)
    have b3 := hg 3 (by omega)
    omega
  · subst q
    have b0 := hg 0 (by omega)
    have b1 := hg 1 (by omega)
    have b2 := hg 2 (by omega)
    have b3 := hg 3 (by omega)
    have b4 := hg 4 (by omega)
    omega
  · subst q
    have b0 := hg 0 (by omega)
    have b1 := hg 1 (by omega)
    have b2 := hg 2 (by omega)
    have b3 := hg 3 (by omega)
    have b4 := hg 4 (by omega)
    have b5 := hg 5 (by omega)
    omega
  · subst q
    have b0 := hg 0 (by omega)
    have b1 := hg 1 (by omega)
    have b2 := hg 2 (by omega)
    have b3 := hg 3 (by omega)
    have b4 := hg 4 (by omega)
    have b5 := hg 5 (by omega)
    have b6 := hg 6 (by omega)
    omega
abbrev W1007 : List Int32 := [98, 101, 97, 116]
theorem s_len_1007 (d : Nat) (σ : ax_S) : cI sO (d + 1) 39 [.ref 1007] σ = some (4, σ) := by
  have e : cI sO d 40 [.ref 1007] σ = some (0, σ) := cI_ev mi_40 (u_40_1007 d σ) rfl
  refine cI_ev mi_39 ((u_39_1007 d σ).trans ?_) rfl
  rw [e, Option.bind_some]
  (try simp only)
  rw [show (4 : Int32) >>> ((0 : Int32) &&& 31) = 4 from by decide]
theorem s_chr_1007 (d : Nat) (σ : ax_S) {i : Nat} (hi : i < 4) : cI sO (d + 3) 41 [.ref 1007, .int (nI i)] σ = some (W1007.getD i 0, σ) := by
  have e0 : cI sO (d + 2) 42 [.ref 1007] σ = some (1, σ) := cI_ev mi_42 (u_42_1007 _ σ) rfl
  have e1 : cI sO (d + 2) 43 [.ref 1107, .int (nI i)] σ = some (((((W1007.getD i 0) &&& 255).toUInt32 % 65536).toInt32).toUInt32.toUInt16.toUInt32.toInt32, σ) := by
    refine cI_ev mi_43 ((u_43_1107 d σ _).trans ?_) rfl
    rw [show (4 : Int32) = nI 4 from rfl, s_ckI d σ hi (by omega), Option.bind_some, gd_t (by rw [nI_i (by omega)]; exact ⟨by omega, by show (i : Int) < ((4 : Nat) : Int); omega⟩), nI_c (by omega)]
  refine cI_ev mi_41 ((u_41_1007 d σ _).trans ?_) rfl
  rw [e0, Option.bind_some]
  (try simp only)
  rw [if_neg (by decide), e1, Option.bind_some]
  have h : ∀ j : Fin 4, ((((((W1007.getD j.val 0) &&& 255).toUInt32 % 65536).toInt32).toUInt32.toUInt16.toUInt32.toInt32 : Int32).toUInt32.toUInt16.toUInt32.toInt32) = W1007.getD j.val 0 := by decide
  have h := h ⟨i, hi⟩
  simp only at h ⊢
  rw [h]
theorem s_atName_1007 (d : Nat) {σ : ax_S} {b : Nat → Int32} {n k s e : Nat} (hb : cBy σ b n) (ho : tkO b n k s e) (h5 : σ.1 5 5 = nI (cso k)) (h6 : σ.1 5 6 = nI s) (h7 : σ.1 5 7 = nI e) : cI sO (d + 4) 38 [.ref 5, .ref 1007] σ = some (bi (nmP b W1007 k s e), σ) := by
  obtain ⟨hn, h1, hB⟩ := hb
  obtain ⟨o1, o2, o3, -⟩ := ho
  refine cI_ev mi_38 ((u_38_5_1007 d σ).trans ?_) rfl
  have ck : σ.1 5 5 = 1 ↔ k = 2 := by
    rw [h5]
    unfold cso
    constructor
    · intro q
      by_cases k2 : k = 2
      · exact k2
      · exfalso
        rw [if_neg (show ¬ k = 2 from k2)] at q
        repeat' split at q
        all_goals exact absurd q (by decide)
    · intro q
      rw [q]
      rfl
  by_cases k2 : k = 2
  · rw [if_pos (ck.mpr k2), s_len_1007 (d + 2), Option.bind_some]
    simp only [h6, h7]
    have ee : nI e - nI s = nI (e - s) := by
      apply Int32.toInt_inj.mp
      rw [i_sub (by rw [nI_i (by omega), nI_i (by omega)]; omega) (by rw [nI_i (by omega), nI_i (by omega)]; omega), nI_i (by omega), nI_i (by omega), nI_i (by omega)]
      omega
    rw [ee]
    by_cases hl : e - s = 4
    · rw [if_pos (by rw [hl]; rfl)]
      have h := loop_E (E := fun i (_ : Unit) => ev sO (d + 4) 38 28 [.ref 5, .ref 1007, .int (nI i)] [] σ) (N := 4) (P := fun i _ => ∀ j, j < i → b (s + j) = W1007.getD j 0) (R := fun β => β = some (some (.int 0), σ) ∧ ∃ j, j < 4 ∧ ¬ b (s + j) = W1007.getD j 0) (fun i _ hi hp => by
        have hbi := hB (s + i) (by omega)
        have cw : ∀ j : Fin 4, ∃ m : Nat, m < 128 ∧ W1007.getD j.val 0 = (OfNat.ofNat m : Int32) := by
          intro j
          have h := (show ∀ j : Fin 4, 0 ≤ (W1007.getD j.val 0).toInt ∧ (W1007.getD j.val 0).toInt < 128 by decide) j
          exact ⟨(W1007.getD j.val 0).toInt.toNat, by omega, (i_eq _ _).mpr (by rw [lit_i _ (by omega)]; omega)⟩
        obtain ⟨m, hm, em⟩ := cw ⟨i, hi⟩
        simp only at em
        have eq : σ.1 6 (s + i) = W1007.getD i 0 ↔ b (s + i) = W1007.getD i 0 := by
          rw [em]
          exact byR_eq hbi m hm
        rw [u_38_5_1007p28, s_len_1007 (d + 2), Option.bind_some]
        (try simp only)
        rw [if_pos (show nI i < (4 : Int32) from nlt (N := 4) hi), h6, nI_pl (by omega), s_byteAt _ h1 hn (by omega), Option.bind_some]
        (try simp only)
        rw [if_pos (show s + i < n by omega), s_chr_1007 d σ hi, Option.bind_some]
        (try simp only)
        by_cases q : b (s + i) = W1007.getD i 0
        · rw [if_pos (eq.mpr q), nI_add1]
          refine Or.inl ⟨(), fun j hj => ?_, rfl⟩
          by_cases qq : j = i
          · rw [qq]; exact q
          · exact hp j (by omega)
        · rw [if_neg (fun z => q (eq.mp z))]
          exact Or.inr ⟨rfl, i, hi, q⟩) () (fun j hj => absurd hj (Nat.not_lt_zero j))
      obtain ⟨-, hp, e1⟩ | ⟨e1, j, hj, hne⟩ := h
      · refine Eq.trans e1 ?_
        rw [u_38_5_1007p28, s_len_1007 (d + 2), Option.bind_some]
        (try simp only)
        rw [if_neg (show ¬ nI 4 < (4 : Int32) from nnl (N := 4) (Nat.le_refl _)), bi_t ⟨k2, hl, fun i hi => hp i hi⟩]
      · refine Eq.trans e1 ?_
        rw [bi_f (fun q => hne (q.2.2 j hj))]
    · rw [if_neg (show ¬ (4 : Int32) = nI (e - s) from fun q => hl (nI_inj (a := 4) (by omega) (by omega) q).symm), bi_f (fun q => hl q.2.1)]
  · rw [if_neg (fun q => k2 (ck.mp q)), bi_f (fun q => k2 q.1)]
theorem wd_1007 {g : Nat → Nat} {m : Nat} (hm : m < 8) (hg : ∀ i, i < m → 97 ≤ g i ∧ g i ≤ 122) : wn g m = 1650811252 ↔ m = 4 ∧ g 0 = 98 ∧ g 1 = 101 ∧ g 2 = 97 ∧ g 3 = 116 := by
  have h0 : wn g 0 = 0 := rfl
  have h1 : wn g 1 = wn g 0 * 256 + g 0 := rfl
  have h2 : wn g 2 = wn g 1 * 256 + g 1 := rfl
  have h3 : wn g 3 = wn g 2 * 256 + g 2 := rfl
  have h4 : wn g 4 = wn g 3 * 256 + g 3 := rfl
  have h5 : wn g 5 = wn g 4 * 256 + g 4 := rfl
  have h6 : wn g 6 = wn g 5 * 256 + g 5 := rfl
  have h7 : wn g 7 = wn g 6 * 256 + g 6 := rfl
  have hm2 : m = 0 ∨ m = 1 ∨ m = 2 ∨ m = 3 ∨ m = 4 ∨ m = 5 ∨ m = 6 ∨ m = 7 := by omega
  obtain q | q | q | q | q | q | q | q := hm2
  · subst q
    omega
  · subst q
    have b0 := hg 0 (by omega)
    omega
  · subst q
    have b0 := hg 0 (by omega)
    have b1 := hg 1 (by omega)
    omega
  · subst q
    have b0 := hg 0 (by omega)
    have b1 := hg 1 (by omega)
    have b2 := hg 2 (by omega)
    omega
  · subst q
    have b0 := hg 0 (by omega)
    have b1 := hg 1 (by omega)
    have b2 := hg 2 (by omega)
    have b3 := hg 3 (by omega)
    omega
  · subst q
    have b0 := hg 0 (by omega)
    have b1 := hg 1 (by omega)
    have b2 := hg 2 (by omega)
    have b3 := hg 3 (by omega)
    have b4 := hg 4 (by omega)
    omega
  · subst q
    have b0 := hg 0 (by omega)
    have b1 := hg 1 (by omega)
    have b2 := hg 2 (by omega)
    have b3 := hg 3 (by omega)
    have b4 := hg 4 (by omega)
    have b5 := hg 5 (by omega)
    omega
  · subst q
    have b0 := hg 0 (by omega)
    have b1 := hg 1 (by omega)
    have b2 := hg 2 (by omega)
    have b3 := hg 3 (by omega)
    have b4 := hg 4 (by omega)
    have b5 := hg 5 (by omega)
    have b6 := hg 6 (by omega)
    omega
