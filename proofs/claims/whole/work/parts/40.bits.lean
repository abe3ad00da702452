/-! BITS -/
def bt (x : Int32) (k : Nat) : Bool := x.toBitVec.getLsbD k
theorem sh_amt : ∀ k : Fin 32, (((nI k.val) &&& 31).toBitVec.smod 32#32).toNat = k.val := by decide
theorem bt_at (x : Int32) {k : Nat} (hk : k < 32) : (x >>> (nI k &&& 31)) &&& 1 = if bt x k then 1 else 0 := by
  apply Int32.toBitVec_inj.mp
  have e : ((x >>> (nI k &&& 31)) &&& 1).toBitVec = (x.toBitVec.sshiftRight k) &&& 1#32 := by
    rw [Int32.toBitVec_and, Int32.toBitVec_shiftRight]
    show (x.toBitVec.sshiftRight (((nI k) &&& 31).toBitVec.smod 32#32).toNat) &&& 1#32 = _
    rw [sh_amt ⟨k, hk⟩]
  rw [e]
  unfold bt
  apply BitVec.eq_of_getLsbD_eq
  intro i hi
  rw [BitVec.getLsbD_and, BitVec.getLsbD_sshiftRight, BitVec.getLsbD_one]
  by_cases h0 : i = 0
  · subst h0
    simp only [Nat.add_zero, hk, if_true]
    split <;> simp_all
  · have z : (if x.toBitVec.getLsbD k = true then (1 : Int32) else 0).toBitVec.getLsbD i = false := by
      split
      · show (1#32).getLsbD i = false
        rw [BitVec.getLsbD_one]
        simp [h0]
      · show (0#32).getLsbD i = false
        exact BitVec.getLsbD_zero
    rw [z]
    split <;> simp [h0]
theorem bt_or (x y : Int32) (k : Nat) : bt (x ||| y) k = (bt x k || bt y k) := by
  unfold bt
  rw [Int32.toBitVec_or, BitVec.getLsbD_or]
theorem bt_and (x y : Int32) (k : Nat) : bt (x &&& y) k = (bt x k && bt y k) := by
  unfold bt
  rw [Int32.toBitVec_and, BitVec.getLsbD_and]
theorem bt_xor (x y : Int32) (k : Nat) : bt (x ^^^ y) k = (bt x k ^^ bt y k) := by
  unfold bt
  rw [Int32.toBitVec_xor, BitVec.getLsbD_xor]
theorem bt_0 (k : Nat) : bt 0 k = false := by
  unfold bt
  exact BitVec.getLsbD_zero
theorem bt_m1 {k : Nat} (hk : k < 32) : bt (-1) k = true := by
  unfold bt
  show (BitVec.allOnes 32).getLsbD k = true
  rw [BitVec.getLsbD_allOnes]
  exact decide_eq_true hk
/-- one bit -/
def b1 (k : Nat) : Int32 := 1 <<< (nI k &&& 31)
theorem bt_1f : ∀ j k : Fin 32, bt (b1 j.val) k.val = decide (k.val = j.val) := by decide
theorem bt_1 {j k : Nat} (hj : j < 32) (hk : k < 32) : bt (b1 j) k = decide (k = j) := bt_1f ⟨j, hj⟩ ⟨k, hk⟩
theorem bt_ext {x y : Int32} (h : ∀ k, k < 32 → bt x k = bt y k) : x = y := by
  apply Int32.toBitVec_inj.mp
  apply BitVec.eq_of_getLsbD_eq
  intro i hi
  exact h i hi
