/-! THE JDK'S COUNTS OF BITS, on sets of at most twelve -/
def ntzV (x0 : Int32) : Int32 := if 0 < ((x0 ^^^ (-1 : Int32)) &&& (x0 - (1 : Int32))) then (if (65536 : Int32) < ((x0 ^^^ (-1 : Int32)) &&& (x0 - (1 : Int32))) then (if (256 : Int32) < ((((x0 ^^^ (-1 : Int32)) &&& (x0 - (1 : Int32))).toUInt32 >>> ((16 : Int32).toUInt32 &&& Int32.toUInt32 31)).toInt32) then (if (16 : Int32) < ((((((x0 ^^^ (-1 : Int32)) &&& (x0 - (1 : Int32))).toUInt32 >>> ((16 : Int32).toUInt32 &&& Int32.toUInt32 31)).toInt32).toUInt32 >>> ((8 : Int32).toUInt32 &&& Int32.toUInt32 31)).toInt32) then (if (4 : Int32) < ((((((((x0 ^^^ (-1 : Int32)) &&& (x0 - (1 : Int32))).toUInt32 >>> ((16 : Int32).toUInt32 &&& Int32.toUInt32 31)).toInt32).toUInt32 >>> ((8 : Int32).toUInt32 &&& Int32.toUInt32 31)).toInt32).toUInt32 >>> ((4 : Int32).toUInt32 &&& Int32.toUInt32 31)).toInt32) then (((((((1 : Int32) + (16 : Int32)) + (8 : Int32)) + (4 : Int32)) + (2 : Int32)) + ((((((((((((x0 ^^^ (-1 : Int32)) &&& (x0 - (1 : Int32))).toUInt32 >>> ((16 : Int32).toUInt32 &&& Int32.toUInt32 31)).toInt32).toUInt32 >>> ((8 : Int32).toUInt32 &&& Int32.toUInt32 31)).toInt32).toUInt32 >>> ((4 : Int32).toUInt32 &&& Int32.toUInt32 31)).toInt32).toUInt32 >>> ((2 : Int32).toUInt32 &&& Int32.toUInt32 31)).toInt32).toUInt32 >>> ((1 : Int32).toUInt32 &&& Int32.toUInt32 31)).toInt32))) else ((((((1 : Int32) + (16 : Int32)) + (8 : Int32)) + (4 : Int32)) + ((((((((((x0 ^^^ (-1 : Int32)) &&& (x0 - (1 : Int32))).toUInt32 >>> ((16 : Int32).toUInt32 &&& Int32.toUInt32 31)).toInt32).toUInt32 >>> ((8 : Int32).toUInt32 &&& Int32.toUInt32 31)).toInt32).toUInt32 >>> ((4 : Int32).toUInt32 &&& Int32.toUInt32 31)).toInt32).toUInt32 >>> ((1 : Int32).toUInt32 &&& Int32.toUInt32 31)).toInt32)))) else (if (4 : Int32) < ((((((x0 ^^^ (-1 : Int32)) &&& (x0 - (1 : Int32))).toUInt32 >>> ((16 : Int32).toUInt32 &&& Int32.toUInt32 31)).toInt32).toUInt32 >>> ((8 : Int32).toUInt32 &&& Int32.toUInt32 31)).toInt32) then ((((((1 : Int32) + (16 : Int32)) + (8 : Int32)) + (2 : Int32)) + ((((((((((x0 ^^^ (-1 : Int32)) &&& (x0 - (1 : Int32))).toUInt32 >>> ((16 : Int32).toUInt32 &&& Int32.toUInt32 31)).toInt32).toUInt32 >>> ((8 : Int32).toUInt32 &&& Int32.toUInt32 31)).toInt32).toUInt32 >>> ((2 : Int32).toUInt32 &&& Int32.toUInt32 31)).toInt32).toUInt32 >>> ((1 : Int32).toUInt32 &&& Int32.toUInt32 31)).toInt32))) else (((((1 : Int32) + (16 : Int32)) + (8 : Int32)) + ((((((((x0 ^^^ (-1 : Int32)) &&& (x0 - (1 : Int32))).toUInt32 >>> ((16 : Int32).toUInt32 &&& Int32.toUInt32 31)).toInt32).toUInt32 >>> ((8 : Int32).toUInt32 &&& Int32.toUInt32 31)).toInt32).toUInt32 >>> ((1 : Int32).toUInt32 &&& Int32.toUInt32 31)).toInt32))))) else (if (16 : Int32) < ((((x0 ^^^ (-1 : Int32)) &&& (x0 - (1 : Int32))).toUInt32 >>> ((16 : Int32).toUInt32 &&& Int32.toUInt32 31)).toInt32) then (if (4 : Int32) < ((((((x0 ^^^ (-1 : Int32)) &&& (x0 - (1 : Int32))).toUInt32 >>> ((16 : Int32).toUInt32 &&& Int32.toUInt32 31)).toInt32).toUInt32 >>> ((4 : Int32).toUInt32 &&& Int32.toUInt32 31)).toInt32) then ((((((1 : Int32) + (16 : Int32)) + (4 : Int32)) + (2 : Int32)) + ((((((((((x0 ^^^ (-1 : Int32)) &&& (x0 - (1 : Int32))).toUInt32 >>> ((16 : Int32).toUInt32 &&& Int32.toUInt32 31)).toInt32).toUInt32 >>> ((4 : Int32).toUInt32 &&& Int32.toUInt32 31)).toInt32).toUInt32 >>> ((2 : Int32).toUInt32 &&& Int32.toUInt32 31)).toInt32).toUInt32 >>> ((1 : Int32).toUInt32 &&& Int32.toUInt32 31)).toInt32))) else (((((1 : Int32) + (16 : Int32)) + (4 : Int32)) + ((((((((x0 ^^^ (-1 : Int32)) &&& (x0 - (1 : Int32))).toUInt32 >>> ((16 : Int32).toUInt32 &&& Int32.toUInt32 31)).toInt32).toUInt32 >>> ((4 : Int32).toUInt32 &&& Int32.toUInt32 31)).toInt32).toUInt32 >>> ((1 : Int32).toUInt32 &&& Int32.toUInt32 31)).toInt32)))) else (if (4 : Int32) < ((((x0 ^^^ (-1 : Int32)) &&& (x0 - (1 : Int32))).toUInt32 >>> ((16 : Int32).toUInt32 &&& Int32.toUInt32 31)).toInt32) then (((((1 : Int32) + (16 : Int32)) + (2 : Int32)) + ((((((((x0 ^^^ (-1 : Int32)) &&& (x0 - (1 : Int32))).toUInt32 >>> ((16 : Int32).toUInt32 &&& Int32.toUInt32 31)).toInt32).toUInt32 >>> ((2 : Int32).toUInt32 &&& Int32.toUInt32 31)).toInt32).toUInt32 >>> ((1 : Int32).toUInt32 &&& Int32.toUInt32 31)).toInt32))) else ((((1 : Int32) + (16 : Int32)) + ((((((x0 ^^^ (-1 : Int32)) &&& (x0 - (1 : Int32))).toUInt32 >>> ((16 : Int32).toUInt32 &&& Int32.toUInt32 31)).toInt32).toUInt32 >>> ((1 : Int32).toUInt32 &&& Int32.toUInt32 31)).toInt32)))))) else (if (256 : Int32) < ((x0 ^^^ (-1 : Int32)) &&& (x0 - (1 : Int32))) then (if (16 : Int32) < ((((x0 ^^^ (-1 : Int32)) &&& (x0 - (1 : Int32))).toUInt32 >>> ((8 : Int32).toUInt32 &&& Int32.toUInt32 31)).toInt32) then (if (4 : Int32) < ((((((x0 ^^^ (-1 : Int32)) &&& (x0 - (1 : Int32))).toUInt32 >>> ((8 : Int32).toUInt32 &&& Int32.toUInt32 31)).toInt32).toUInt32 >>> ((4 : Int32).toUInt32 &&& Int32.toUInt32 31)).toInt32) then ((((((1 : Int32) + (8 : Int32)) + (4 : Int32)) + (2 : Int32)) + ((((((((((x0 ^^^ (-1 : Int32)) &&& (x0 - (1 : Int32))).toUInt32 >>> ((8 : Int32).toUInt32 &&& Int32.toUInt32 31)).toInt32).toUInt32 >>> ((4 : Int32).toUInt32 &&& Int32.toUInt32 31)).toInt32).toUInt32 >>> ((2 : Int32).toUInt32 &&& Int32.toUInt32 31)).toInt32).toUInt32 >>> ((1 : Int32).toUInt32 &&& Int32.toUInt32 31)).toInt32))) else (((((1 : Int32) + (8 : Int32)) + (4 : Int32)) + ((((((((x0 ^^^ (-1 : Int32)) &&& (x0 - (1 : Int32))).toUInt32 >>> ((8 : Int32).toUInt32 &&& Int32.toUInt32 31)).toInt32).toUInt32 >>> ((4 : Int32).toUInt32 &&& Int32.toUInt32 31)).toInt32).toUInt32 >>> ((1 : Int32).toUInt32 &&& Int32.toUInt32 31)).toInt32)))) else (if (4 : Int32) < ((((x0 ^^^ (-1 : Int32)) &&& (x0 - (1 : Int32))).toUInt32 >>> ((8 : Int32).toUInt32 &&& Int32.toUInt32 31)).toInt32) then (((((1 : Int32) + (8 : Int32)) + (2 : Int32)) + ((((((((x0 ^^^ (-1 : Int32)) &&& (x0 - (1 : Int32))).toUInt32 >>> ((8 : Int32).toUInt32 &&& Int32.toUInt32 31)).toInt32).toUInt32 >>> ((2 : Int32).toUInt32 &&& Int32.toUInt32 31)).toInt32).toUInt32 >>> ((1 : Int32).toUInt32 &&& Int32.toUInt32 31)).toInt32))) else ((((1 : Int32) + (8 : Int32)) + ((((((x0 ^^^ (-1 : Int32)) &&& (x0 - (1 : Int32))).toUInt32 >>> ((8 : Int32).toUInt32 &&& Int32.toUInt32 31)).toInt32).toUInt32 >>> ((1 : Int32).toUInt32 &&& Int32.toUInt32 31)).toInt32))))) else (if (16 : Int32) < ((x0 ^^^ (-1 : Int32)) &&& (x0 - (1 : Int32))) then (if (4 : Int32) < ((((x0 ^^^ (-1 : Int32)) &&& (x0 - (1 : Int32))).toUInt32 >>> ((4 : Int32).toUInt32 &&& Int32.toUInt32 31)).toInt32) then (((((1 : Int32) + (4 : Int32)) + (2 : Int32)) + ((((((((x0 ^^^ (-1 : Int32)) &&& (x0 - (1 : Int32))).toUInt32 >>> ((4 : Int32).toUInt32 &&& Int32.toUInt32 31)).toInt32).toUInt32 >>> ((2 : Int32).toUInt32 &&& Int32.toUInt32 31)).toInt32).toUInt32 >>> ((1 : Int32).toUInt32 &&& Int32.toUInt32 31)).toInt32))) else ((((1 : Int32) + (4 : Int32)) + ((((((x0 ^^^ (-1 : Int32)) &&& (x0 - (1 : Int32))).toUInt32 >>> ((4 : Int32).toUInt32 &&& Int32.toUInt32 31)).toInt32).toUInt32 >>> ((1 : Int32).toUInt32 &&& Int32.toUInt32 31)).toInt32)))) else (if (4 : Int32) < ((x0 ^^^ (-1 : Int32)) &&& (x0 - (1 : Int32))) then ((((1 : Int32) + (2 : Int32)) + ((((((x0 ^^^ (-1 : Int32)) &&& (x0 - (1 : Int32))).toUInt32 >>> ((2 : Int32).toUInt32 &&& Int32.toUInt32 31)).toInt32).toUInt32 >>> ((1 : Int32).toUInt32 &&& Int32.toUInt32 31)).toInt32))) else (((1 : Int32) + ((((x0 ^^^ (-1 : Int32)) &&& (x0 - (1 : Int32))).toUInt32 >>> ((1 : Int32).toUInt32 &&& Int32.toUInt32 31)).toInt32))))))) else ((((x0 ^^^ (-1 : Int32)) &&& (x0 - (1 : Int32))) &&& (32 : Int32)))
theorem s_ntz (d : Nat) (σ : ax_S) (x : Int32) : cI sO d 118 [.int x] σ = some (ntzV x, σ) := by
  refine cI_ev mi_118 ((u_118 d σ x).trans ?_) rfl
  unfold ntzV
  repeat' split
  all_goals rfl
def bcV (x0 : Int32) : Int32 := ((((((((x0 - (((x0.toUInt32 >>> ((1 : Int32).toUInt32 &&& Int32.toUInt32 31)).toInt32) &&& (1431655765 : Int32))) &&& (858993459 : Int32)) + ((((x0 - (((x0.toUInt32 >>> ((1 : Int32).toUInt32 &&& Int32.toUInt32 31)).toInt32) &&& (1431655765 : Int32))).toUInt32 >>> ((2 : Int32).toUInt32 &&& Int32.toUInt32 31)).toInt32) &&& (858993459 : Int32))) + (((((x0 - (((x0.toUInt32 >>> ((1 : Int32).toUInt32 &&& Int32.toUInt32 31)).toInt32) &&& (1431655765 : Int32))) &&& (858993459 : Int32)) + ((((x0 - (((x0.toUInt32 >>> ((1 : Int32).toUInt32 &&& Int32.toUInt32 31)).toInt32) &&& (1431655765 : Int32))).toUInt32 >>> ((2 : Int32).toUInt32 &&& Int32.toUInt32 31)).toInt32) &&& (858993459 : Int32))).toUInt32 >>> ((4 : Int32).toUInt32 &&& Int32.toUInt32 31)).toInt32)) &&& (252645135 : Int32)) + (((((((x0 - (((x0.toUInt32 >>> ((1 : Int32).toUInt32 &&& Int32.toUInt32 31)).toInt32) &&& (1431655765 : Int32))) &&& (858993459 : Int32)) + ((((x0 - (((x0.toUInt32 >>> ((1 : Int32).toUInt32 &&& Int32.toUInt32 31)).toInt32) &&& (1431655765 : Int32))).toUInt32 >>> ((2 : Int32).toUInt32 &&& Int32.toUInt32 31)).toInt32) &&& (858993459 : Int32))) + (((((x0 - (((x0.toUInt32 >>> ((1 : Int32).toUInt32 &&& Int32.toUInt32 31)).toInt32) &&& (1431655765 : Int32))) &&& (858993459 : Int32)) + ((((x0 - (((x0.toUInt32 >>> ((1 : Int32).toUInt32 &&& Int32.toUInt32 31)).toInt32) &&& (1431655765 : Int32))).toUInt32 >>> ((2 : Int32).toUInt32 &&& Int32.toUInt32 31)).toInt32) &&& (858993459 : Int32))).toUInt32 >>> ((4 : Int32).toUInt32 &&& Int32.toUInt32 31)).toInt32)) &&& (252645135 : Int32)).toUInt32 >>> ((8 : Int32).toUInt32 &&& Int32.toUInt32 31)).toInt32)) + ((((((((x0 - (((x0.toUInt32 >>> ((1 : Int32).toUInt32 &&& Int32.toUInt32 31)).toInt32) &&& (1431655765 : Int32))) &&& (858993459 : Int32)) + ((((x0 - (((x0.toUInt32 >>> ((1 : Int32).toUInt32 &&& Int32.toUInt32 31)).toInt32) &&& (1431655765 : Int32))).toUInt32 >>> ((2 : Int32).toUInt32 &&& Int32.toUInt32 31)).toInt32) &&& (858993459 : Int32))) + (((((x0 - (((x0.toUInt32 >>> ((1 : Int32).toUInt32 &&& Int32.toUInt32 31)).toInt32) &&& (1431655765 : Int32))) &&& (858993459 : Int32)) + ((((x0 - (((x0.toUInt32 >>> ((1 : Int32).toUInt32 &&& Int32.toUInt32 31)).toInt32) &&& (1431655765 : Int32))).toUInt32 >>> ((2 : Int32).toUInt32 &&& Int32.toUInt32 31)).toInt32) &&& (858993459 : Int32))).toUInt32 >>> ((4 : Int32).toUInt32 &&& Int32.toUInt32 31)).toInt32)) &&& (252645135 : Int32)) + (((((((x0 - (((x0.toUInt32 >>> ((1 : Int32).toUInt32 &&& Int32.toUInt32 31)).toInt32) &&& (1431655765 : Int32))) &&& (858993459 : Int32)) + ((((x0 - (((x0.toUInt32 >>> ((1 : Int32).toUInt32 &&& Int32.toUInt32 31)).toInt32) &&& (1431655765 : Int32))).toUInt32 >>> ((2 : Int32).toUInt32 &&& Int32.toUInt32 31)).toInt32) &&& (858993459 : Int32))) + (((((x0 - (((x0.toUInt32 >>> ((1 : Int32).toUInt32 &&& Int32.toUInt32 31)).toInt32) &&& (1431655765 : Int32))) &&& (858993459 : Int32)) + ((((x0 - (((x0.toUInt32 >>> ((1 : Int32).toUInt32 &&& Int32.toUInt32 31)).toInt32) &&& (1431655765 : Int32))).toUInt32 >>> ((2 : Int32).toUInt32 &&& Int32.toUInt32 31)).toInt32) &&& (858993459 : Int32))).toUInt32 >>> ((4 : Int32).toUInt32 &&& Int32.toUInt32 31)).toInt32)) &&& (252645135 : Int32)).toUInt32 >>> ((8 : Int32).toUInt32 &&& Int32.toUInt32 31)).toInt32)).toUInt32 >>> ((16 : Int32).toUInt32 &&& Int32.toUInt32 31)).toInt32)) &&& (63 : Int32))
theorem s_bitCount (d : Nat) (σ : ax_S) (x : Int32) : cI sO d 120 [.int x] σ = some (bcV x, σ) := cI_ev mi_120 (u_120 d σ x) rfl
def bcT (X : Nat) : Bool := bcV (nI X) == nI (pcN X)
theorem bc_all : (List.range 4096).all bcT = true := by decide +kernel
theorem bc_n {X : Nat} (h : X < 4096) : bcV (nI X) = nI (pcN X) := eq_of_beq (List.all_eq_true.mp bc_all X (List.mem_range.mpr h))
/-- the lowest of a set -/
def lbT (X : Nat) : Bool := X == 0 || (List.range 12).any (fun j => ntzV (nI X) == nI j && X.testBit j && (X &&& (X - 1)) == X ^^^ 2 ^ j)
theorem lb_all : (List.range 4096).all lbT = true := by decide +kernel
theorem lb_n {X : Nat} (h : X < 4096) (h0 : X ≠ 0) : ∃ j, j < 12 ∧ ntzV (nI X) = nI j ∧ X.testBit j = true ∧ ∀ k, (X &&& (X - 1)).testBit k = (X.testBit k && decide (k ≠ j)) := by
  have h1 := List.all_eq_true.mp lb_all X (List.mem_range.mpr h)
  unfold lbT at h1
  rw [Bool.or_eq_true] at h1
  obtain h1 | h1 := h1
  · exact absurd (eq_of_beq h1) h0
  · obtain ⟨j, hj, h2⟩ := List.any_eq_true.mp h1
    rw [Bool.and_eq_true, Bool.and_eq_true] at h2
    obtain ⟨⟨a, b⟩, c⟩ := h2
    refine ⟨j, List.mem_range.mp hj, eq_of_beq a, b, fun k => ?_⟩
    rw [eq_of_beq c, Nat.testBit_xor, Nat.testBit_two_pow]
    by_cases q : k = j
    · rw [q, b]
      simp
    · rw [decide_eq_false (fun e => q e.symm), decide_eq_true q, Bool.xor_false, Bool.and_true]
theorem fn_all : (List.range 13).all (fun n => (List.range (2 ^ n - 1)).all (fun S => Nat.blt (pcN S) n)) = true := by decide +kernel
theorem pc_fn {n S : Nat} (hn : n ≤ 12) (h : S < 2 ^ n - 1) : pcN S < n := Nat.blt_eq.mp (List.all_eq_true.mp (List.all_eq_true.mp fn_all n (List.mem_range.mpr (by omega))) S (List.mem_range.mpr h))
theorem pw_all : (List.range 13).all (fun n => pcN (2 ^ n - 1) == (if n = 0 then 0 else n)) = true := by decide +kernel
theorem pc_pw {n : Nat} (hn : n ≤ 12) : pcN (2 ^ n - 1) = n := by
  have h := eq_of_beq (List.all_eq_true.mp pw_all n (List.mem_range.mpr (by omega)))
  rw [h]
  split <;> omega
theorem pc_12 (X : Nat) : pcN X ≤ 12 := cn_le _ 12
/-- bits that come together -/
theorem bt_it {P : Nat → Prop} [DecidablePred P] (F : Nat → Int32) (x0 : Int32) (b : Nat) : ∀ N, bt (it (fun k u => if P k then u ||| F k else u) N x0) b = true ↔ (bt x0 b = true ∨ ∃ k, k < N ∧ P k ∧ bt (F k) b = true)
  | 0 => ⟨fun h => Or.inl h, fun h => h.elim id (fun ⟨k, hk, _⟩ => absurd hk (Nat.not_lt_zero k))⟩
  | N + 1 => by
    rw [it_s]
    by_cases p : P N
    · rw [if_pos p, bt_or, Bool.or_eq_true, bt_it F x0 b N]
      constructor
      · rintro ((h | ⟨k, a, c⟩) | h)
        · exact Or.inl h
        · exact Or.inr ⟨k, by omega, c⟩
        · exact Or.inr ⟨N, by omega, p, h⟩
      · rintro (h | ⟨k, a, c, e⟩)
        · exact Or.inl (Or.inl h)
        · by_cases q : k = N
          · exact Or.inr (by rw [← q]; exact e)
          · exact Or.inl (Or.inr ⟨k, by omega, c, e⟩)
    · rw [if_neg p, bt_it F x0 b N]
      constructor
      · rintro (h | ⟨k, a, c⟩)
        · exact Or.inl h
        · exact Or.inr ⟨k, by omega, c⟩
      · rintro (h | ⟨k, a, c, e⟩)
        · exact Or.inl h
        · by_cases q : k = N
          · rw [q] at c; exact absurd c p
          · exact Or.inr ⟨k, by omega, c, e⟩
theorem bt_eq {x y : Int32} (h : ∀ b, b < 32 → (bt x b = true ↔ bt y b = true)) : x = y := bt_ext (fun b hb => by
  have := h b hb
  cases e : bt x b <;> cases e2 : bt y b <;> simp_all)
theorem nI_bt (X : Nat) {k : Nat} (hk : k < 32) : bt (nI X) k = X.testBit k := by
  show (BitVec.ofNat 32 X).getLsbD k = _
  rw [BitVec.getLsbD_ofNat, decide_eq_true hk, Bool.true_and]
theorem or_z (x : Int32) : x ||| 0 = x := bt_ext (fun k _ => by rw [bt_or, bt_0, Bool.or_false])
theorem nI_sub1 {X : Nat} (h : 0 < X) (h2 : X < 2147483648) : nI X - 1 = nI (X - 1) := by
  apply Int32.toInt_inj.mp
  rw [i_sub (by rw [nI_i h2, i_1]; omega) (by rw [nI_i h2, i_1]; omega), nI_i h2, i_1, nI_i (by omega)]
  omega
