/-! THE CLASS'S CARDS (the deck that is now: cell 17; its rows 18 lands, 19 years, 20 mothers, 21 marks) -/
theorem cI_ev {H : Type} {O : ax_O H} {d M np oc mx : Nat} {s i : Bool} {rt : Option FieldType} {as L : List Value} {v : Int32} {h h' : H} (hm : ax_mi M = some (np, oc, s, i, rt, mx)) (e : ev O d M 0 L [] h = some (some (.int v), h')) (hL : ax_ent as mx = L) : cI O d M as h = some (v, h') := by
  obtain ⟨r, hr, -, -, -, -, -, h6⟩ := ax_mi_of hm
  exact cI_of hr (by rw [h6]; exact hL) e
theorem cL_ev {H : Type} {O : ax_O H} {d M np oc mx : Nat} {s i : Bool} {rt : Option FieldType} {as L : List Value} {v : Int64} {h h' : H} (hm : ax_mi M = some (np, oc, s, i, rt, mx)) (e : ev O d M 0 L [] h = some (some (.long v), h')) (hL : ax_ent as mx = L) : cL O d M as h = some (v, h') := by
  obtain ⟨r, hr, -, -, -, -, -, h6⟩ := ax_mi_of hm
  exact cL_of hr (by rw [h6]; exact hL) e
theorem cV_ev {H : Type} {O : ax_O H} {d M np oc mx : Nat} {s i : Bool} {rt : Option FieldType} {as L : List Value} {h h' : H} (hm : ax_mi M = some (np, oc, s, i, rt, mx)) (e : ev O d M 0 L [] h = some (none, h')) (hL : ax_ent as mx = L) : cV O d M as h = some h' := by
  obtain ⟨r, hr, -, -, -, -, -, h6⟩ := ax_mi_of hm
  exact cV_of hr (by rw [h6]; exact hL) e
/-- 1 or 0 -/
def bi (p : Prop) [Decidable p] : Int32 := if p then 1 else 0
theorem bi_0 {p : Prop} [Decidable p] : bi p = 0 ↔ ¬ p := by
  unfold bi
  split
  · rename_i h
    exact ⟨fun q => absurd q (by decide), fun q => absurd h q⟩
  · rename_i h
    exact ⟨fun _ => h, fun _ => rfl⟩
theorem bi_t {p : Prop} [Decidable p] (h : p) : bi p = 1 := if_pos h
theorem bi_f {p : Prop} [Decidable p] (h : ¬ p) : bi p = 0 := if_neg h
theorem bi_a {p : Prop} [Decidable p] : bi p &&& 1 = bi p := by unfold bi; split <;> decide
theorem bi_c {p q : Prop} [Decidable p] [Decidable q] (h : p ↔ q) : bi p = bi q := by
  by_cases hp : p
  · rw [bi_t hp, bi_t (h.mp hp)]
  · rw [bi_f hp, bi_f (fun x => hp (h.mpr x))]
theorem lit_i (n : Nat) (h : n < 2147483648) : (OfNat.ofNat n : Int32).toInt = (n : Int) := nI_i h
theorem i_none : (-1000000 : Int32).toInt = -1000000 := by decide
theorem i_0 : (0 : Int32).toInt = 0 := rfl
theorem i_1 : (1 : Int32).toInt = 1 := rfl
abbrev hasP (n c : Int32) : Prop := 0 ≤ c.toInt ∧ c.toInt < n.toInt ∧ c.toInt < 12
theorem s_has (d : Nat) (σ : ax_S) (x : Int32) : cI sO d 84 [.ref 17, .int x] σ = some (bi (hasP (σ.1 17 0) x), σ) := by
  refine cI_ev mi_84 ((u_84_17 d σ x).trans ?_) rfl
  by_cases h : hasP (σ.1 17 0) x
  · rw [bi_t h, if_neg (by rw [i_lt, i_0]; omega), if_pos (by rw [i_lt]; omega), if_pos (by rw [i_lt, lit_i 12 (by decide)]; omega)]
  · rw [bi_f h]
    split
    · rfl
    · split
      · split
        · rename_i h1 h2 h3
          rw [i_lt, i_0] at h1
          rw [i_lt] at h2
          rw [i_lt, lit_i 12 (by decide)] at h3
          exact absurd ⟨by omega, h2, by omega⟩ h
        · rfl
      · rfl
abbrev mkP (m : Int32) : Prop := 0 ≤ m.toInt ∧ m.toInt < 11
theorem s_isMark (d : Nat) (σ : ax_S) (x : Int32) : cI sO d 82 [.int x] σ = some (bi (mkP x), σ) := by
  refine cI_ev mi_82 ((u_82 d σ x).trans ?_) rfl
  by_cases h : mkP x
  · rw [bi_t h, if_neg (by rw [i_lt, i_0]; omega), if_pos (by rw [i_lt, lit_i 11 (by decide)]; omega)]
  · rw [bi_f h]
    split
    · rfl
    · split
      · rename_i h1 h2
        rw [i_lt, i_0] at h1
        rw [i_lt, lit_i 11 (by decide)] at h2
        exact absurd ⟨by omega, by omega⟩ h
      · rfl
/-- a mark of a card, as the class tells it: of what is none, NONE -/
def kMk (σ : ax_S) (c m : Int32) : Int32 := if hasP (σ.1 17 0) c ∧ mkP m then σ.1 21 (c.toInt * 11 + m.toInt).toNat else -1000000
theorem s_markAt (d : Nat) (σ : ax_S) (x y : Int32) : cI sO (d + 1) 97 [.ref 17, .int x, .int y] σ = some (kMk σ x y, σ) := by
  refine cI_ev mi_97 ((u_97_17 d σ x y).trans ?_) rfl
  rw [s_has, Option.bind_some]
  simp only [bi_0]
  unfold kMk
  by_cases h1 : hasP (σ.1 17 0) x
  · rw [if_neg (by simp only [Decidable.not_not]; exact h1), s_isMark, Option.bind_some]
    simp only [bi_0]
    by_cases h2 : mkP y
    · have e : (x * (11 : Int32) + y).toInt = x.toInt * 11 + y.toInt := by
        have e1 : (x * (11 : Int32)).toInt = x.toInt * 11 := by
          rw [i_mul (by rw [lit_i 11 (by decide)]; omega) (by rw [lit_i 11 (by decide)]; omega), lit_i 11 (by decide)]
          rfl
        rw [i_add (by rw [e1]; omega) (by rw [e1]; omega), e1]
      rw [if_neg (by simp only [Decidable.not_not]; exact h2), gd_t (by rw [e]; omega), if_pos ⟨h1, h2⟩]
      show some (some (Value.int (σ.1 21 (x * 11 + y).toInt.toNat)), σ) = _
      rw [e]
    · rw [if_pos h2, if_neg (fun q => h2 q.2)]
  · rw [if_pos h1, if_neg (fun q => h1 q.1)]
