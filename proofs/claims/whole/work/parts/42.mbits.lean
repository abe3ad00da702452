/-! THE REFERENCE'S COUNT OF BITS -/
def pcN (X : Nat) : Nat := cn (fun k => X.testBit k = true) 12
/-- one turn of the count -/
def pcT (X : Nat) : Bool := X == 0 || (Nat.blt (X &&& (X - 1)) X && pcN X == pcN (X &&& (X - 1)) + 1)
theorem pc_all : (List.range 4096).all pcT = true := by decide +kernel
theorem pc_step {X : Nat} (h : X < 4096) (h0 : X ≠ 0) : (X &&& (X - 1)) < X ∧ pcN X = pcN (X &&& (X - 1)) + 1 := by
  have h1 := List.all_eq_true.mp pc_all X (List.mem_range.mpr h)
  unfold pcT at h1
  simp only [Bool.or_eq_true, Bool.and_eq_true, beq_iff_eq] at h1
  obtain h1 | ⟨h1, h2⟩ := h1
  · exact absurd h1 h0
  · exact ⟨Nat.blt_eq.mp h1, h2⟩
theorem nI_and1 {X : Nat} (h : X < 4096) (h0 : X ≠ 0) : nI X &&& (nI X - 1) = nI (X &&& (X - 1)) := by
  have e : nI X - 1 = nI (X - 1) := by
    apply Int32.toInt_inj.mp
    rw [i_sub, nI_i (by omega), nI_i (by omega), i_1]
    · omega
    · rw [nI_i (by omega), i_1]; omega
    · rw [nI_i (by omega), i_1]; omega
  rw [e]
  apply Int32.toBitVec_inj.mp
  rw [Int32.toBitVec_and]
  exact (BitVec.ofNat_and).symm
theorem m_bits (d : Nat) (σ : ax_S) {X : Nat} (h : X < 4096) : cI sO d 240 [.int (nI X)] σ = some (nI (pcN X), σ) := by
  have go : ∀ X, X < 4096 → ∀ (w : Value) (a : Nat), w.category = 1 → ev sO d 240 4 [w, .int (nI a), .int (nI X)] [] σ = some (some (.int (nI (a + pcN X))), σ) := by
    intro X
    induction X using Nat.strongRecOn with
    | _ X ih =>
      intro h w a hw
      rw [u_240p4 d σ w hw]
      by_cases h0 : X = 0
      · subst h0
        rw [if_pos (show nI 0 = 0 from rfl)]
        rfl
      · rw [if_neg (show ¬ nI X = 0 from fun q => h0 (nI_inj (by omega) (by omega) q)), nI_and1 h h0, nI_add1]
        obtain ⟨h1, h2⟩ := pc_step h h0
        rw [ih _ h1 (by omega) w (a + 1) hw, h2, show a + 1 + pcN (X &&& (X - 1)) = a + (pcN (X &&& (X - 1)) + 1) by omega]
  refine cI_ev mi_240 ((u_240 d σ _).trans ((go X h _ 0 rfl).trans ?_)) rfl
  rw [Nat.zero_add]
/-- a number of few bits -/
theorem few {x : Int32} (m : Nat) (hm : m < 31) (h : ∀ k, m ≤ k → k < 32 → bt x k = false) : ∃ X, X < 2 ^ m ∧ x = nI X ∧ ∀ k, k < 32 → bt x k = X.testBit k := by
  refine ⟨x.toBitVec.toNat, ?_, ?_, fun k hk => ?_⟩
  · apply Nat.lt_pow_two_of_testBit
    intro i hi
    by_cases h2 : i < 32
    · have := h i hi h2
      unfold bt at this
      rw [← BitVec.testBit_toNat] at this
      exact this
    · exact Nat.testBit_lt_two_pow (Nat.lt_of_lt_of_le x.toBitVec.isLt (Nat.pow_le_pow_right (by omega) (by omega)))
  · apply Int32.toBitVec_inj.mp
    show x.toBitVec = BitVec.ofNat 32 x.toBitVec.toNat
    rw [BitVec.ofNat_toNat, BitVec.setWidth_eq]
  · unfold bt
    rw [← BitVec.testBit_toNat]
