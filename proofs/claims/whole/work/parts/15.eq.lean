/-! EQUATIONS, one an instruction: bodies over the numbers -/
def gd {α : Type} (c : Prop) [Decidable c] (x : Option α) : Option α := if c then x else none
theorem gd_t {α : Type} {c : Prop} [Decidable c] {x : Option α} (h : c) : gd c x = x := if_pos h
theorem gd_f {α : Type} {c : Prop} [Decidable c] {x : Option α} (h : ¬ c) : gd c x = none := if_neg h
theorem ax_ite {α : Type} {c : Prop} [Decidable c] {a b a' b' : α} (h1 : a = a') (h2 : b = b') : (if c then a else b) = if c then a' else b' := by rw [h1, h2]
theorem ax_gd {α : Type} {c : Prop} [Decidable c] {a a' : Option α} (h : a = a') : gd c a = gd c a' := by rw [h]
theorem ax_bnd {α β : Type} {x : Option α} {f g : α → Option β} (h : ∀ u, f u = g u) : x.bind f = x.bind g := by rw [show f = g from funext h]
def ax_mi (M : Nat) : Option (Nat × Nat × Bool × Bool × Option FieldType × Nat) := ax_M[M]?.map fun r => (r.2.2.2.2.2.2.1, r.2.2.2.2.1, r.2.2.2.2.2.1, decide (r.1.name = "<init>"), r.2.2.2.1, r.2.2.1)
theorem ax_mi_of {M np oc mx : Nat} {s i : Bool} {rt : Option FieldType} (h : ax_mi M = some (np, oc, s, i, rt, mx)) : ∃ r, ax_M[M]? = some r ∧ r.2.2.2.2.2.2.1 = np ∧ r.2.2.2.2.1 = oc ∧ r.2.2.2.2.2.1 = s ∧ decide (r.1.name = "<init>") = i ∧ r.2.2.2.1 = rt ∧ r.2.2.1 = mx := by
  obtain ⟨r, hr, e⟩ := Option.map_eq_some_iff.mp h
  cases e
  exact ⟨r, hr, rfl, rfl, rfl, rfl, rfl, rfl⟩
section EQ
variable {H : Type} {O : ax_O H} {d m pc pc' : Nat} {L L' st st' : List Value} {h h' : H}
theorem E_stp {J : Instr} {p : Nat} (hc : ax_code m pc = some (J, pc')) (hk : ax_kd J = 0) (hs : ax_step O J pc' L st h = some (p, L', st', h')) : ev O d m pc L st h = ev O d m p L' st' h' := E_step (u := (p, L', st', h')) hc hk hs
theorem E_ic {n : Int} {v : Int32} (hc : ax_code m pc = some (.iconst n, pc')) (hv : Int32.ofInt n = v) : ev O d m pc L st h = ev O d m pc' L (.int v :: st) h := by subst hv; exact E_stp hc rfl rfl
theorem E_lc {n : Fin 2} {v : Int64} (hc : ax_code m pc = some (.lconst n, pc')) (hv : Int64.ofNat n = v) : ev O d m pc L st h = ev O d m pc' L (.long v :: st) h := by subst hv; exact E_stp hc rfl rfl
theorem E_l2 {j : Nat} {v : Int64} (hc : ax_code m pc = some (.ldc2_w j, pc')) (hv : ax_LC.getD j 0 = v) : ev O d m pc L st h = ev O d m pc' L (.long v :: st) h := by subst hv; exact E_stp hc rfl rfl
theorem E_ls {j a : Nat} (hc : ax_code m pc = some (.ldc j, pc')) (hv : 1001 + j = a) : ev O d m pc L st h = ev O d m pc' L (.ref a :: st) h := by subst hv; exact E_stp hc rfl rfl
theorem E_il {k : Nat} {x : Int32} (hc : ax_code m pc = some (.iload k, pc')) (hl : L[k]? = some (.int x)) : ev O d m pc L st h = ev O d m pc' L (.int x :: st) h := E_stp hc rfl (by show ax_ri (L[k]?.toList) _ = _; rw [hl]; rfl)
theorem E_ll {k : Nat} {x : Int64} (hc : ax_code m pc = some (.lload k, pc')) (hl : L[k]? = some (.long x)) : ev O d m pc L st h = ev O d m pc' L (.long x :: st) h := E_stp hc rfl (by show ax_rl (L[k]?.toList) _ = _; rw [hl]; rfl)
theorem E_al {k x : Nat} (hc : ax_code m pc = some (.aload k, pc')) (hl : L[k]? = some (.ref x)) (hx : x < 2000) : ev O d m pc L st h = ev O d m pc' L (.ref x :: st) h := E_stp hc rfl (by show ax_ra (L[k]?.toList) _ = _; rw [hl]; exact if_pos hx)
theorem E_is {k : Nat} {x : Int32} (hc : ax_code m pc = some (.istore k, pc')) (hk : k < L.length) (hL : ax_st1 L k (.int x) = L') : ev O d m pc L (.int x :: st) h = ev O d m pc' L' st h := by subst hL; exact E_stp hc rfl (if_pos hk)
theorem E_as {k x : Nat} (hc : ax_code m pc = some (.astore k, pc')) (hk : k < L.length) (hx : x < 2000) (hL : ax_st1 L k (.ref x) = L') : ev O d m pc L (.ref x :: st) h = ev O d m pc' L' st h := by subst hL; exact E_stp hc rfl (if_pos ⟨hk, hx⟩)
theorem E_lss {k : Nat} {x : Int64} (hc : ax_code m pc = some (.lstore k, pc')) (hk : k + 1 < L.length) (hL : ax_st2 L k (.long x) = L') : ev O d m pc L (.long x :: st) h = ev O d m pc' L' st h := by subst hL; exact E_stp hc rfl (if_pos hk)
theorem E_inc {k : Nat} {n : Int} {x v : Int32} (hc : ax_code m pc = some (.iinc k n, pc')) (hl : L[k]? = some (.int x)) (hv : Int32.ofInt n = v) (hL : ax_st1 L k (.int (x + v)) = L') : ev O d m pc L st h = ev O d m pc' L' st h := by subst hL; subst hv; exact E_stp hc rfl (by show ax_ri (L[k]?.toList) _ = _; rw [hl]; rfl)
theorem E_iadd {x y : Int32} (hc : ax_code m pc = some (.iadd, pc')) : ev O d m pc L (.int y :: .int x :: st) h = ev O d m pc' L (.int (x + y) :: st) h := E_stp hc rfl rfl
theorem E_isub {x y : Int32} (hc : ax_code m pc = some (.isub, pc')) : ev O d m pc L (.int y :: .int x :: st) h = ev O d m pc' L (.int (x - y) :: st) h := E_stp hc rfl rfl
theorem E_imul {x y : Int32} (hc : ax_code m pc = some (.imul, pc')) : ev O d m pc L (.int y :: .int x :: st) h = ev O d m pc' L (.int (x * y) :: st) h := E_stp hc rfl rfl
theorem E_iand {x y : Int32} (hc : ax_code m pc = some (.iand, pc')) : ev O d m pc L (.int y :: .int x :: st) h = ev O d m pc' L (.int (x &&& y) :: st) h := E_stp hc rfl rfl
theorem E_ior {x y : Int32} (hc : ax_code m pc = some (.ior, pc')) : ev O d m pc L (.int y :: .int x :: st) h = ev O d m pc' L (.int (x ||| y) :: st) h := E_stp hc rfl rfl
theorem E_ixor {x y : Int32} (hc : ax_code m pc = some (.ixor, pc')) : ev O d m pc L (.int y :: .int x :: st) h = ev O d m pc' L (.int (x ^^^ y) :: st) h := E_stp hc rfl rfl
theorem E_ishl {x y : Int32} (hc : ax_code m pc = some (.ishl, pc')) : ev O d m pc L (.int y :: .int x :: st) h = ev O d m pc' L (.int (x <<< (y &&& 31)) :: st) h := E_stp hc rfl rfl
theorem E_ishr {x y : Int32} (hc : ax_code m pc = some (.ishr, pc')) : ev O d m pc L (.int y :: .int x :: st) h = ev O d m pc' L (.int (x >>> (y &&& 31)) :: st) h := E_stp hc rfl rfl
theorem E_iushr {x y : Int32} (hc : ax_code m pc = some (.iushr, pc')) : ev O d m pc L (.int y :: .int x :: st) h = ev O d m pc' L (.int ((x.toUInt32 >>> (y.toUInt32 &&& Int32.toUInt32 31)).toInt32) :: st) h := E_stp hc rfl rfl
theorem E_idiv {x y : Int32} (hc : ax_code m pc = some (.idiv, pc')) (hy : ¬ y = 0) : ev O d m pc L (.int y :: .int x :: st) h = ev O d m pc' L (.int (x / y) :: st) h := E_stp hc rfl (if_neg hy)
theorem E_idivg {x y : Int32} (hc : ax_code m pc = some (.idiv, pc')) : ev O d m pc L (.int y :: .int x :: st) h = gd (¬ y = 0) (ev O d m pc' L (.int (x / y) :: st) h) := by
  by_cases hy : y = 0
  · rw [gd_f (by simp [hy])]
    exact E_none hc rfl (if_pos hy)
  · rw [gd_t hy]
    exact E_idiv hc hy
theorem E_irem {x y : Int32} (hc : ax_code m pc = some (.irem, pc')) (hy : ¬ y = 0) : ev O d m pc L (.int y :: .int x :: st) h = ev O d m pc' L (.int (x - x / y * y) :: st) h := E_stp hc rfl (if_neg hy)
theorem E_iremg {x y : Int32} (hc : ax_code m pc = some (.irem, pc')) : ev O d m pc L (.int y :: .int x :: st) h = gd (¬ y = 0) (ev O d m pc' L (.int (x - x / y * y) :: st) h) := by
  by_cases hy : y = 0
  · rw [gd_f (by simp [hy])]
    exact E_none hc rfl (if_pos hy)
  · rw [gd_t hy]
    exact E_irem hc hy
theorem E_ladd {x y : Int64} (hc : ax_code m pc = some (.ladd, pc')) : ev O d m pc L (.long y :: .long x :: st) h = ev O d m pc' L (.long (x + y) :: st) h := E_stp hc rfl rfl
theorem E_lsub {x y : Int64} (hc : ax_code m pc = some (.lsub, pc')) : ev O d m pc L (.long y :: .long x :: st) h = ev O d m pc' L (.long (x - y) :: st) h := E_stp hc rfl rfl
theorem E_lmul {x y : Int64} (hc : ax_code m pc = some (.lmul, pc')) : ev O d m pc L (.long y :: .long x :: st) h = ev O d m pc' L (.long (x * y) :: st) h := E_stp hc rfl rfl
theorem E_land {x y : Int64} (hc : ax_code m pc = some (.land, pc')) : ev O d m pc L (.long y :: .long x :: st) h = ev O d m pc' L (.long (x &&& y) :: st) h := E_stp hc rfl rfl
theorem E_lor {x y : Int64} (hc : ax_code m pc = some (.lor, pc')) : ev O d m pc L (.long y :: .long x :: st) h = ev O d m pc' L (.long (x ||| y) :: st) h := E_stp hc rfl rfl
theorem E_lshl {x : Int64} {y : Int32} (hc : ax_code m pc = some (.lshl, pc')) : ev O d m pc L (.int y :: .long x :: st) h = ev O d m pc' L (.long (x <<< (y.toInt64 &&& 63)) :: st) h := E_stp hc rfl rfl
theorem E_lshr {x : Int64} {y : Int32} (hc : ax_code m pc = some (.lshr, pc')) : ev O d m pc L (.int y :: .long x :: st) h = ev O d m pc' L (.long (x >>> (y.toInt64 &&& 63)) :: st) h := E_stp hc rfl rfl
theorem E_lcmp {x y : Int64} (hc : ax_code m pc = some (.lcmp, pc')) : ev O d m pc L (.long y :: .long x :: st) h = ev O d m pc' L (.int (lg_cmp x y) :: st) h := E_stp hc rfl rfl
theorem E_ineg {x : Int32} (hc : ax_code m pc = some (.ineg, pc')) : ev O d m pc L (.int x :: st) h = ev O d m pc' L (.int (-x) :: st) h := E_stp hc rfl rfl
theorem E_i2l {x : Int32} (hc : ax_code m pc = some (.i2l, pc')) : ev O d m pc L (.int x :: st) h = ev O d m pc' L (.long (x.toInt64) :: st) h := E_stp hc rfl rfl
theorem E_l2i {x : Int64} (hc : ax_code m pc = some (.l2i, pc')) : ev O d m pc L (.long x :: st) h = ev O d m pc' L (.int (x.toInt32) :: st) h := E_stp hc rfl rfl
theorem E_i2b {x : Int32} (hc : ax_code m pc = some (.i2b, pc')) : ev O d m pc L (.int x :: st) h = ev O d m pc' L (.int (x.toInt8.toInt32) :: st) h := E_stp hc rfl rfl
theorem E_i2s {x : Int32} (hc : ax_code m pc = some (.i2s, pc')) : ev O d m pc L (.int x :: st) h = ev O d m pc' L (.int (x.toInt16.toInt32) :: st) h := E_stp hc rfl rfl
theorem E_i2c {x : Int32} (hc : ax_code m pc = some (.i2c, pc')) : ev O d m pc L (.int x :: st) h = ev O d m pc' L (.int ((x.toUInt32 % 65536).toInt32) :: st) h := E_stp hc rfl rfl
theorem E_dup {v : Value} (hc : ax_code m pc = some (.dup, pc')) (hv : v.category = 1) : ev O d m pc L (v :: st) h = ev O d m pc' L (v :: v :: st) h := E_stp hc rfl (if_pos hv)
theorem E_dup2 {v w : Value} (hc : ax_code m pc = some (.dup2, pc')) (hv : v.category = 1 ∧ w.category = 1) : ev O d m pc L (v :: w :: st) h = ev O d m pc' L (v :: w :: v :: w :: st) h := E_stp hc rfl (if_pos hv)
theorem E_pop {v : Value} (hc : ax_code m pc = some (.pop, pc')) (hv : v.category = 1) : ev O d m pc L (v :: st) h = ev O d m pc' L st h := E_stp hc rfl (if_pos hv)
theorem E_goto {t : Int} {q : Nat} (hc : ax_code m pc = some (.goto t, pc')) (ht : t = (q : Int)) : ev O d m pc L st h = ev O d m q L st h := by
  subst ht
  have hs : ax_step O (.goto (q : Int)) pc' L st h = some (((q : Int)).toNat, L, st, h) := if_pos (e := none) (Int.natCast_nonneg q)
  exact E_stp hc rfl hs
theorem E_br {c : ClassFile.Cond} {t : Int} {q : Nat} {x y : Int32} (hc : ax_code m pc = some (.if_icmp c t, pc')) (ht : t = (q : Int)) : ev O d m pc L (.int y :: .int x :: st) h = ev O d m (if ax_cnd c x y = true then q else pc') L st h := by
  subst ht
  have hs : ax_step O (.if_icmp c (q : Int)) pc' L (.int y :: .int x :: st) h = some (if ax_cnd c x y = true then ((q : Int)).toNat else pc', L, st, h) := if_pos (e := none) (Int.natCast_nonneg q)
  exact E_stp hc rfl hs
theorem E_b0 {c : ClassFile.Cond} {t : Int} {q : Nat} {x : Int32} (hc : ax_code m pc = some (.ifCond c t, pc')) (ht : t = (q : Int)) : ev O d m pc L (.int x :: st) h = ev O d m (if ax_cnd c x 0 = true then q else pc') L st h := by
  subst ht
  have hs : ax_step O (.ifCond c (q : Int)) pc' L (.int x :: st) h = some (if ax_cnd c x 0 = true then ((q : Int)).toNat else pc', L, st, h) := if_pos (e := none) (Int.natCast_nonneg q)
  exact E_stp hc rfl hs
theorem ev_if {c : Prop} [Decidable c] {a b : Nat} : ev O d m (if c then a else b) L st h = if c then ev O d m a L st h else ev O d m b L st h := by split <;> rfl
theorem E_br_eq {t : Int} {q : Nat} {x y : Int32} (hc : ax_code m pc = some (.if_icmp .eq t, pc')) (ht : t = (q : Int)) : ev O d m pc L (.int y :: .int x :: st) h = if x = y then ev O d m q L st h else ev O d m pc' L st h := by
  rw [E_br hc ht]
  by_cases k : x = y
  · rw [if_pos k, if_pos (by simp [ax_cnd, k])]
  · rw [if_neg k, if_neg (by simp [ax_cnd, k])]
theorem E_b0_eq {t : Int} {q : Nat} {x : Int32} (hc : ax_code m pc = some (.ifCond .eq t, pc')) (ht : t = (q : Int)) : ev O d m pc L (.int x :: st) h = if x = 0 then ev O d m q L st h else ev O d m pc' L st h := by
  rw [E_b0 hc ht]
  by_cases k : x = 0
  · rw [if_pos k, if_pos (by simp [ax_cnd, k])]
  · rw [if_neg k, if_neg (by simp [ax_cnd, k])]
theorem E_br_ne {t : Int} {q : Nat} {x y : Int32} (hc : ax_code m pc = some (.if_icmp .ne t, pc')) (ht : t = (q : Int)) : ev O d m pc L (.int y :: .int x :: st) h = if x = y then ev O d m pc' L st h else ev O d m q L st h := by
  rw [E_br hc ht]
  by_cases k : x = y
  · rw [if_pos k, if_neg (by simp [ax_cnd, k])]
  · rw [if_neg k, if_pos (by simp [ax_cnd, k])]
theorem E_b0_ne {t : Int} {q : Nat} {x : Int32} (hc : ax_code m pc = some (.ifCond .ne t, pc')) (ht : t = (q : Int)) : ev O d m pc L (.int x :: st) h = if x = 0 then ev O d m pc' L st h else ev O d m q L st h := by
  rw [E_b0 hc ht]
  by_cases k : x = 0
  · rw [if_pos k, if_neg (by simp [ax_cnd, k])]
  · rw [if_neg k, if_pos (by simp [ax_cnd, k])]
theorem E_br_lt {t : Int} {q : Nat} {x y : Int32} (hc : ax_code m pc = some (.if_icmp .lt t, pc')) (ht : t = (q : Int)) : ev O d m pc L (.int y :: .int x :: st) h = if x < y then ev O d m q L st h else ev O d m pc' L st h := by
  rw [E_br hc ht]
  by_cases k : x < y
  · rw [if_pos k, if_pos (by simp [ax_cnd, k])]
  · rw [if_neg k, if_neg (by simp [ax_cnd, k])]
theorem E_b0_lt {t : Int} {q : Nat} {x : Int32} (hc : ax_code m pc = some (.ifCond .lt t, pc')) (ht : t = (q : Int)) : ev O d m pc L (.int x :: st) h = if x < 0 then ev O d m q L st h else ev O d m pc' L st h := by
  rw [E_b0 hc ht]
  by_cases k : x < 0
  · rw [if_pos k, if_pos (by simp [ax_cnd, k])]
  · rw [if_neg k, if_neg (by simp [ax_cnd, k])]
theorem E_br_ge {t : Int} {q : Nat} {x y : Int32} (hc : ax_code m pc = some (.if_icmp .ge t, pc')) (ht : t = (q : Int)) : ev O d m pc L (.int y :: .int x :: st) h = if x < y then ev O d m pc' L st h else ev O d m q L st h := by
  rw [E_br hc ht]
  by_cases k : x < y
  · rw [if_pos k, if_neg (by simp [ax_cnd, Int32.not_le.mpr k])]
  · rw [if_neg k, if_pos (by simp [ax_cnd, Int32.not_lt.mp k])]
theorem E_b0_ge {t : Int} {q : Nat} {x : Int32} (hc : ax_code m pc = some (.ifCond .ge t, pc')) (ht : t = (q : Int)) : ev O d m pc L (.int x :: st) h = if x < 0 then ev O d m pc' L st h else ev O d m q L st h := by
  rw [E_b0 hc ht]
  by_cases k : x < 0
  · rw [if_pos k, if_neg (by simp [ax_cnd, Int32.not_le.mpr k])]
  · rw [if_neg k, if_pos (by simp [ax_cnd, Int32.not_lt.mp k])]
theorem E_br_gt {t : Int} {q : Nat} {x y : Int32} (hc : ax_code m pc = some (.if_icmp .gt t, pc')) (ht : t = (q : Int)) : ev O d m pc L (.int y :: .int x :: st) h = if y < x then ev O d m q L st h else ev O d m pc' L st h := by
  rw [E_br hc ht]
  by_cases k : y < x
  · rw [if_pos k, if_pos (by simp [ax_cnd, k])]
  · rw [if_neg k, if_neg (by simp [ax_cnd, k])]
theorem E_b0_gt {t : Int} {q : Nat} {x : Int32} (hc : ax_code m pc = some (.ifCond .gt t, pc')) (ht : t = (q : Int)) : ev O d m pc L (.int x :: st) h = if 0 < x then ev O d m q L st h else ev O d m pc' L st h := by
  rw [E_b0 hc ht]
  by_cases k : 0 < x
  · rw [if_pos k, if_pos (by simp [ax_cnd, k])]
  · rw [if_neg k, if_neg (by simp [ax_cnd, k])]
theorem E_br_le {t : Int} {q : Nat} {x y : Int32} (hc : ax_code m pc = some (.if_icmp .le t, pc')) (ht : t = (q : Int)) : ev O d m pc L (.int y :: .int x :: st) h = if y < x then ev O d m pc' L st h else ev O d m q L st h := by
  rw [E_br hc ht]
  by_cases k : y < x
  · rw [if_pos k, if_neg (by simp [ax_cnd, Int32.not_le.mpr k])]
  · rw [if_neg k, if_pos (by simp [ax_cnd, Int32.not_lt.mp k])]
theorem E_b0_le {t : Int} {q : Nat} {x : Int32} (hc : ax_code m pc = some (.ifCond .le t, pc')) (ht : t = (q : Int)) : ev O d m pc L (.int x :: st) h = if 0 < x then ev O d m pc' L st h else ev O d m q L st h := by
  rw [E_b0 hc ht]
  by_cases k : 0 < x
  · rw [if_pos k, if_neg (by simp [ax_cnd, Int32.not_le.mpr k])]
  · rw [if_neg k, if_pos (by simp [ax_cnd, Int32.not_lt.mp k])]
theorem E_gf {a z : Nat} {v : Value} (hc : ax_code m pc = some (.getfield z, pc')) (hv : O.1 h a z = some v) : ev O d m pc L (.ref a :: st) h = ev O d m pc' L (v :: st) h := E_stp hc rfl (by show Option.map _ (O.1 h a z) = _; rw [hv]; rfl)
theorem E_gs2 (hc : ax_code m pc = some (.getstatic 2, pc')) : ev O d m pc L st h = ev O d m pc' L (.int 1 :: st) h := E_stp hc rfl rfl
theorem E_gs3 (hc : ax_code m pc = some (.getstatic 3, pc')) : ev O d m pc L st h = ev O d m pc' L (.ref 2000 :: st) h := E_stp hc rfl rfl
theorem E_pf {a z : Nat} {v : Value} (hc : ax_code m pc = some (.putfield z, pc')) (hv : O.2.1 h a z v = some h') : ev O d m pc L (v :: .ref a :: st) h = ev O d m pc' L st h' := E_stp hc rfl (by show Option.map _ (O.2.1 h a z v) = _; rw [hv]; rfl)
theorem E_pfn {a z : Nat} {v : Value} (hc : ax_code m pc = some (.putfield z, pc')) (hv : O.2.1 h a z v = none) : ev O d m pc L (v :: .ref a :: st) h = none := E_none hc rfl (by show Option.map _ (O.2.1 h a z v) = _; rw [hv]; rfl)
theorem E_max {x y : Int32} (hc : ax_code m pc = some (.invokedynamic 0, pc')) (h8 : (st.map fun v => v.category).sum ≤ 8) : ev O d m pc L (.int y :: .int x :: st) h = ev O d m pc' L (.int (if x < y then y else x) :: st) h := E_stp hc rfl (if_pos h8)
theorem E_min {x y : Int32} (hc : ax_code m pc = some (.invokedynamic 1, pc')) (h8 : (st.map fun v => v.category).sum ≤ 8) : ev O d m pc L (.int y :: .int x :: st) h = ev O d m pc' L (.int (if y < x then y else x) :: st) h := E_stp hc rfl (if_pos h8)
theorem E_abs {x : Int32} (hc : ax_code m pc = some (.invokedynamic 2, pc')) (h8 : (st.map fun v => v.category).sum ≤ 8) : ev O d m pc L (.int x :: st) h = ev O d m pc' L (.int (if 0 ≤ x then x else 0 - x) :: st) h := E_stp hc rfl (if_pos h8)
theorem E_obj {a : Nat} (hc : ax_code m pc = some (.invokedynamic 6, pc')) (h8 : (st.map fun v => v.category).sum ≤ 8 ∧ a < 2000) : ev O d m pc L (.ref a :: st) h = ev O d m pc' L st h := E_stp hc rfl (if_pos h8)
theorem ax_mi_row {np oc mx : Nat} {s i : Bool} {rt : Option FieldType} (h : ax_mi m = some (np, oc, s, i, rt, mx)) : ∃ r, ax_row m = some r ∧ r.2.2.2.1 = rt := by
  obtain ⟨r, hr, -, -, -, -, h5, -⟩ := ax_mi_of h
  exact ⟨r, ax_row_of hr, h5⟩
theorem E_rI {x : Int32} {np oc mx : Nat} {s i : Bool} (hc : ax_code m pc = some (.ireturn, pc')) (hm : ax_mi m = some (np, oc, s, i, some .int, mx)) : ev O d m pc L [.int x] h = some (some (.int x), h) := by
  obtain ⟨r, hr, h1⟩ := ax_mi_row hm
  exact E_ret hc rfl hr (by rw [h1]; rfl)
theorem E_rZ {x v : Int32} {np oc mx : Nat} {s i : Bool} (hc : ax_code m pc = some (.ireturn, pc')) (hm : ax_mi m = some (np, oc, s, i, some .boolean, mx)) (hv : x &&& 1 = v) : ev O d m pc L [.int x] h = some (some (.int v), h) := by
  obtain ⟨r, hr, h1⟩ := ax_mi_row hm
  subst hv
  exact E_ret hc rfl hr (by rw [h1]; rfl)
theorem E_rB {x v : Int32} {np oc mx : Nat} {s i : Bool} (hc : ax_code m pc = some (.ireturn, pc')) (hm : ax_mi m = some (np, oc, s, i, some .byte, mx)) (hv : x.toInt8.toInt32 = v) : ev O d m pc L [.int x] h = some (some (.int v), h) := by
  obtain ⟨r, hr, h1⟩ := ax_mi_row hm
  subst hv
  exact E_ret hc rfl hr (by rw [h1]; rfl)
theorem E_rC {x v : Int32} {np oc mx : Nat} {s i : Bool} (hc : ax_code m pc = some (.ireturn, pc')) (hm : ax_mi m = some (np, oc, s, i, some .char, mx)) (hv : x.toUInt32.toUInt16.toUInt32.toInt32 = v) : ev O d m pc L [.int x] h = some (some (.int v), h) := by
  obtain ⟨r, hr, h1⟩ := ax_mi_row hm
  subst hv
  exact E_ret hc rfl hr (by rw [h1]; rfl)
theorem E_rL {x : Int64} {np oc mx : Nat} {s i : Bool} (hc : ax_code m pc = some (.lreturn, pc')) (hm : ax_mi m = some (np, oc, s, i, some .long, mx)) : ev O d m pc L [.long x] h = some (some (.long x), h) := by
  obtain ⟨r, hr, h1⟩ := ax_mi_row hm
  exact E_ret hc rfl hr (by rw [h1]; rfl)
theorem E_rA {x np oc mx : Nat} {s i : Bool} {nm : String} (hc : ax_code m pc = some (.areturn, pc')) (hm : ax_mi m = some (np, oc, s, i, some (.object nm), mx)) (hx : x < 1000) : ev O d m pc L [.ref x] h = some (some (.ref x), h) := by
  obtain ⟨r, hr, h1⟩ := ax_mi_row hm
  exact E_ret hc rfl hr (by rw [h1]; exact if_pos ⟨rfl, hx⟩)
theorem E_rV {np oc mx : Nat} {s i : Bool} (hc : ax_code m pc = some (.return_, pc')) (hm : ax_mi m = some (np, oc, s, i, none, mx)) : ev O d m pc L [] h = some (none, h) := by
  obtain ⟨r, hr, h1⟩ := ax_mi_row hm
  exact E_ret hc rfl hr (by rw [h1]; rfl)
/-- the stack's arguments, in their order, and what lies below -/
def ax_tk (st : List Value) (n : Nat) : Option (List Value × List Value) := if n ≤ st.length then some ((st.take n).reverse, st.drop n) else none
theorem ax_tk_of {n : Nat} {as rest : List Value} (h : ax_tk st n = some (as, rest)) : n ≤ st.length ∧ (st.take n).reverse = as ∧ st.drop n = rest := by
  unfold ax_tk at h
  split at h
  · rename_i hn
    cases h
    exact ⟨hn, rfl, rfl⟩
  · cases h
theorem ax_calS {M np oc mx : Nat} {i : Bool} {rt : Option FieldType} {as rest : List Value} (hm : ax_mi M = some (np, oc, true, i, rt, mx)) (ht : ax_tk st np = some (as, rest)) : ax_cal O (.invokestatic M) st h = some (M, as, rest) := by
  obtain ⟨r, hr, h1, h2, h3, h4, h5, h6⟩ := ax_mi_of hm
  obtain ⟨t1, t2, t3⟩ := ax_tk_of ht
  show (match ax_M[M]? with
    | none => none
    | some r => if r.2.2.2.2.2.1 = true ∧ r.2.2.2.2.2.2.1 ≤ st.length then some (M, (st.take r.2.2.2.2.2.2.1).reverse, st.drop r.2.2.2.2.2.2.1) else none) = _
  rw [hr]
  simp only
  rw [h1, if_pos ⟨h3, t1⟩, t2, t3]
theorem ax_calV {M np oc mx a : Nat} {rt : Option FieldType} {as rest : List Value} (hm : ax_mi M = some (np, oc, false, false, rt, mx)) (ht : ax_tk st np = some (as, Value.ref a :: rest)) (hk : O.2.2.2.2.2.2.2.2 h a = some oc) : ax_cal O (.invokevirtual M) st h = some (M, Value.ref a :: as, rest) := by
  obtain ⟨r, hr, h1, h2, h3, h4, h5, h6⟩ := ax_mi_of hm
  obtain ⟨t1, t2, t3⟩ := ax_tk_of ht
  show (match ax_M[M]? with
    | none => none
    | some r => ax_ra (st.drop r.2.2.2.2.2.2.1) fun a b => if r.2.2.2.2.2.1 = false ∧ r.2.2.2.2.2.2.1 ≤ st.length ∧ O.2.2.2.2.2.2.2.2 h a = some r.2.2.2.2.1 ∧ r.1.name ≠ "<init>" then some (M, Value.ref a :: (st.take r.2.2.2.2.2.2.1).reverse, b) else none) = _
  rw [hr]
  simp only
  rw [h1, t3]
  show (if _ then _ else none) = _
  rw [if_pos ⟨h3, t1, by rw [h2]; exact hk, of_decide_eq_false h4⟩, t2]
theorem ax_calI {M np oc mx a : Nat} {as rest : List Value} (hm : ax_mi M = some (np, oc, false, true, none, mx)) (ht : ax_tk st np = some (as, Value.ref a :: rest)) (ha : a < 2000) : ax_cal O (.invokespecial M) st h = some (M, Value.ref a :: as, rest) := by
  obtain ⟨r, hr, h1, h2, h3, h4, h5, h6⟩ := ax_mi_of hm
  obtain ⟨t1, t2, t3⟩ := ax_tk_of ht
  show (match ax_M[M]? with
    | none => none
    | some r => ax_ra (st.drop r.2.2.2.2.2.2.1) fun a b => if r.2.2.2.2.2.1 = false ∧ r.2.2.2.2.2.2.1 ≤ st.length ∧ r.1.name = "<init>" ∧ r.2.2.2.1 = none ∧ a < 2000 then some (M, Value.ref a :: (st.take r.2.2.2.2.2.2.1).reverse, b) else none) = _
  rw [hr]
  simp only
  rw [h1, t3]
  show (if _ then _ else none) = _
  rw [if_pos ⟨h3, t1, of_decide_eq_true h4, h5, ha⟩, t2]
theorem E_cIS {M np oc mx : Nat} {i : Bool} {rt : Option FieldType} {as rest : List Value} (hc : ax_code m pc = some (.invokestatic M, pc')) (hm : ax_mi M = some (np, oc, true, i, rt, mx)) (hi : ax_ik rt = true) (ht : ax_tk st np = some (as, rest)) (h8 : (rest.map fun v => v.category).sum ≤ 8) (hl : (ax_sl as).length ≤ mx) : ev O (d + 1) m pc L st h = (cI O d M as h).bind fun u => ev O (d + 1) m pc' L (.int u.1 :: rest) u.2 := by
  obtain ⟨r, hr, h1, h2, h3, h4, h5, h6⟩ := ax_mi_of hm
  exact E_callI (c := (M, as, rest)) (r := r) (mx := 0) hc rfl (ax_calS hm ht) h8 hr (by rw [h5]; exact hi) (by rw [h6]; exact hl)
theorem E_cIV {M np oc mx a : Nat} {rt : Option FieldType} {as rest : List Value} (hc : ax_code m pc = some (.invokevirtual M, pc')) (hm : ax_mi M = some (np, oc, false, false, rt, mx)) (hi : ax_ik rt = true) (ht : ax_tk st np = some (as, Value.ref a :: rest)) (hk : O.2.2.2.2.2.2.2.2 h a = some oc) (h8 : (rest.map fun v => v.category).sum ≤ 8) (hl : (ax_sl (Value.ref a :: as)).length ≤ mx) : ev O (d + 1) m pc L st h = (cI O d M (Value.ref a :: as) h).bind fun u => ev O (d + 1) m pc' L (.int u.1 :: rest) u.2 := by
  obtain ⟨r, hr, h1, h2, h3, h4, h5, h6⟩ := ax_mi_of hm
  exact E_callI (c := (M, (Value.ref a :: as), rest)) (r := r) (mx := 0) hc rfl (ax_calV hm ht hk) h8 hr (by rw [h5]; exact hi) (by rw [h6]; exact hl)
theorem E_cLS {M np oc mx : Nat} {i : Bool} {as rest : List Value} (hc : ax_code m pc = some (.invokestatic M, pc')) (hm : ax_mi M = some (np, oc, true, i, some .long, mx)) (ht : ax_tk st np = some (as, rest)) (h8 : (rest.map fun v => v.category).sum ≤ 8) (hl : (ax_sl as).length ≤ mx) : ev O (d + 1) m pc L st h = (cL O d M as h).bind fun u => ev O (d + 1) m pc' L (.long u.1 :: rest) u.2 := by
  obtain ⟨r, hr, h1, h2, h3, h4, h5, h6⟩ := ax_mi_of hm
  exact E_callL (c := (M, as, rest)) (r := r) hc rfl (ax_calS hm ht) h8 hr h5 (by rw [h6]; exact hl)
theorem E_cLV {M np oc mx a : Nat} {as rest : List Value} (hc : ax_code m pc = some (.invokevirtual M, pc')) (hm : ax_mi M = some (np, oc, false, false, some .long, mx)) (ht : ax_tk st np = some (as, Value.ref a :: rest)) (hk : O.2.2.2.2.2.2.2.2 h a = some oc) (h8 : (rest.map fun v => v.category).sum ≤ 8) (hl : (ax_sl (Value.ref a :: as)).length ≤ mx) : ev O (d + 1) m pc L st h = (cL O d M (Value.ref a :: as) h).bind fun u => ev O (d + 1) m pc' L (.long u.1 :: rest) u.2 := by
  obtain ⟨r, hr, h1, h2, h3, h4, h5, h6⟩ := ax_mi_of hm
  exact E_callL (c := (M, (Value.ref a :: as), rest)) (r := r) hc rfl (ax_calV hm ht hk) h8 hr h5 (by rw [h6]; exact hl)
theorem E_cVS {M np oc mx : Nat} {i : Bool} {as rest : List Value} (hc : ax_code m pc = some (.invokestatic M, pc')) (hm : ax_mi M = some (np, oc, true, i, none, mx)) (ht : ax_tk st np = some (as, rest)) (h8 : (rest.map fun v => v.category).sum ≤ 8) (hl : (ax_sl as).length ≤ mx) : ev O (d + 1) m pc L st h = (cV O d M as h).bind fun u => ev O (d + 1) m pc' L (rest) u := by
  obtain ⟨r, hr, h1, h2, h3, h4, h5, h6⟩ := ax_mi_of hm
  exact E_callV (c := (M, as, rest)) (r := r) hc rfl (ax_calS hm ht) h8 hr h5 (by rw [h6]; exact hl)
theorem E_cVV {M np oc mx a : Nat} {as rest : List Value} (hc : ax_code m pc = some (.invokevirtual M, pc')) (hm : ax_mi M = some (np, oc, false, false, none, mx)) (ht : ax_tk st np = some (as, Value.ref a :: rest)) (hk : O.2.2.2.2.2.2.2.2 h a = some oc) (h8 : (rest.map fun v => v.category).sum ≤ 8) (hl : (ax_sl (Value.ref a :: as)).length ≤ mx) : ev O (d + 1) m pc L st h = (cV O d M (Value.ref a :: as) h).bind fun u => ev O (d + 1) m pc' L (rest) u := by
  obtain ⟨r, hr, h1, h2, h3, h4, h5, h6⟩ := ax_mi_of hm
  exact E_callV (c := (M, (Value.ref a :: as), rest)) (r := r) hc rfl (ax_calV hm ht hk) h8 hr h5 (by rw [h6]; exact hl)
theorem E_cRS {M np oc mx : Nat} {i : Bool} {nm : String} {as rest : List Value} (hc : ax_code m pc = some (.invokestatic M, pc')) (hm : ax_mi M = some (np, oc, true, i, some (.object nm), mx)) (ht : ax_tk st np = some (as, rest)) (h8 : (rest.map fun v => v.category).sum ≤ 8) (hl : (ax_sl as).length ≤ mx) : ev O (d + 1) m pc L st h = (cR O d M as h).bind fun u => ev O (d + 1) m pc' L (.ref u.1 :: rest) u.2 := by
  obtain ⟨r, hr, h1, h2, h3, h4, h5, h6⟩ := ax_mi_of hm
  exact E_callR (c := (M, as, rest)) (r := r) hc rfl (ax_calS hm ht) h8 hr h5 (by rw [h6]; exact hl)
theorem E_cRV {M np oc mx a : Nat} {nm : String} {as rest : List Value} (hc : ax_code m pc = some (.invokevirtual M, pc')) (hm : ax_mi M = some (np, oc, false, false, some (.object nm), mx)) (ht : ax_tk st np = some (as, Value.ref a :: rest)) (hk : O.2.2.2.2.2.2.2.2 h a = some oc) (h8 : (rest.map fun v => v.category).sum ≤ 8) (hl : (ax_sl (Value.ref a :: as)).length ≤ mx) : ev O (d + 1) m pc L st h = (cR O d M (Value.ref a :: as) h).bind fun u => ev O (d + 1) m pc' L (.ref u.1 :: rest) u.2 := by
  obtain ⟨r, hr, h1, h2, h3, h4, h5, h6⟩ := ax_mi_of hm
  exact E_callR (c := (M, (Value.ref a :: as), rest)) (r := r) hc rfl (ax_calV hm ht hk) h8 hr h5 (by rw [h6]; exact hl)
end EQ
/-! over the numbers -/
section EQS
variable {d m pc pc' : Nat} {L L' st st' : List Value} {σ : ax_S}
theorem sO_ld {a ty n t : Nat} {i : Int32} (hs : ax_Sh[a]? = some (.inl (ty, n))) (ht : ty = 0 ∧ t = 0 ∨ ty = 1 ∧ t = 1 ∨ ty = 2 ∧ t = 1) : sO.2.2.1 σ a t i = if 0 ≤ i.toInt ∧ i.toInt < n then some (σ.1 a i.toNatClampNeg) else none := by
  show ax_sld σ a t i = _
  have hl := ax_Sh_lt hs
  unfold ax_sld
  rw [if_neg (by omega), hs]
  simp only
  by_cases hi : 0 ≤ i.toInt ∧ i.toInt < n
  · rw [if_pos hi, if_pos ⟨ht, hi⟩]
  · rw [if_neg hi, if_neg (fun q => hi q.2)]
theorem sO_st {a ty n t : Nat} {i x : Int32} (hs : ax_Sh[a]? = some (.inl (ty, n))) (ht : ty = 0 ∧ t = 0 ∨ ty = 1 ∧ t = 1 ∨ ty = 2 ∧ t = 1) : sO.2.2.2.1 σ a t i x = if 0 ≤ i.toInt ∧ i.toInt < n then some (sI σ a i.toNatClampNeg (ax_na ty x)) else none := by
  show ax_sst σ a t i x = _
  unfold ax_sst
  rw [hs]
  simp only
  by_cases hi : 0 ≤ i.toInt ∧ i.toInt < n
  · rw [if_pos hi, if_pos ⟨ht, hi⟩]
  · rw [if_neg hi, if_neg (fun q => hi q.2)]
theorem E_ial {a n : Nat} {i : Int32} (hc : ax_code m pc = some (.iaload, pc')) (hs : ax_Sh[a]? = some (.inl (0, n))) : ev sO d m pc L (.int i :: .ref a :: st) σ = gd (0 ≤ i.toInt ∧ i.toInt < n) (ev sO d m pc' L (.int (σ.1 a i.toNatClampNeg) :: st) σ) := by
  by_cases hi : 0 ≤ i.toInt ∧ i.toInt < n
  · rw [gd_t hi]
    exact E_step (u := (pc', L, .int (σ.1 a i.toNatClampNeg) :: st, σ)) hc rfl (by show Option.map _ (sO.2.2.1 σ a 0 i) = _; rw [sO_ld hs (Or.inl ⟨rfl, rfl⟩), if_pos hi]; rfl)
  · rw [gd_f hi]
    exact E_none hc rfl (by show Option.map _ (sO.2.2.1 σ a 0 i) = _; rw [sO_ld hs (Or.inl ⟨rfl, rfl⟩), if_neg hi]; rfl)
theorem E_ialk {a n k : Nat} {i : Int32} (hc : ax_code m pc = some (.iaload, pc')) (hs : ax_Sh[a]? = some (.inl (0, n))) (hk : i.toInt = (k : Int)) (hn : k < n) : ev sO d m pc L (.int i :: .ref a :: st) σ = ev sO d m pc' L (.int (σ.1 a k) :: st) σ := by
  rw [E_ial hc hs, gd_t (by omega)]
  have e : i.toNatClampNeg = k := by show i.toInt.toNat = k; omega
  rw [e]
theorem E_bal {a n : Nat} {i : Int32} (hc : ax_code m pc = some (.baload, pc')) (hs : ax_Sh[a]? = some (.inl (1, n))) : ev sO d m pc L (.int i :: .ref a :: st) σ = gd (0 ≤ i.toInt ∧ i.toInt < n) (ev sO d m pc' L (.int (σ.1 a i.toNatClampNeg) :: st) σ) := by
  by_cases hi : 0 ≤ i.toInt ∧ i.toInt < n
  · rw [gd_t hi]
    exact E_step (u := (pc', L, .int (σ.1 a i.toNatClampNeg) :: st, σ)) hc rfl (by show Option.map _ (sO.2.2.1 σ a 1 i) = _; rw [sO_ld hs (Or.inr (Or.inl ⟨rfl, rfl⟩)), if_pos hi]; rfl)
  · rw [gd_f hi]
    exact E_none hc rfl (by show Option.map _ (sO.2.2.1 σ a 1 i) = _; rw [sO_ld hs (Or.inr (Or.inl ⟨rfl, rfl⟩)), if_neg hi]; rfl)
theorem E_balk {a n k : Nat} {i : Int32} (hc : ax_code m pc = some (.baload, pc')) (hs : ax_Sh[a]? = some (.inl (1, n))) (hk : i.toInt = (k : Int)) (hn : k < n) : ev sO d m pc L (.int i :: .ref a :: st) σ = ev sO d m pc' L (.int (σ.1 a k) :: st) σ := by
  rw [E_bal hc hs, gd_t (by omega)]
  have e : i.toNatClampNeg = k := by show i.toInt.toNat = k; omega
  rw [e]
theorem E_balz {a n : Nat} {i : Int32} (hc : ax_code m pc = some (.baload, pc')) (hs : ax_Sh[a]? = some (.inl (2, n))) : ev sO d m pc L (.int i :: .ref a :: st) σ = gd (0 ≤ i.toInt ∧ i.toInt < n) (ev sO d m pc' L (.int (σ.1 a i.toNatClampNeg) :: st) σ) := by
  by_cases hi : 0 ≤ i.toInt ∧ i.toInt < n
  · rw [gd_t hi]
    exact E_step (u := (pc', L, .int (σ.1 a i.toNatClampNeg) :: st, σ)) hc rfl (by show Option.map _ (sO.2.2.1 σ a 1 i) = _; rw [sO_ld hs (Or.inr (Or.inr ⟨rfl, rfl⟩)), if_pos hi]; rfl)
  · rw [gd_f hi]
    exact E_none hc rfl (by show Option.map _ (sO.2.2.1 σ a 1 i) = _; rw [sO_ld hs (Or.inr (Or.inr ⟨rfl, rfl⟩)), if_neg hi]; rfl)
theorem E_balzk {a n k : Nat} {i : Int32} (hc : ax_code m pc = some (.baload, pc')) (hs : ax_Sh[a]? = some (.inl (2, n))) (hk : i.toInt = (k : Int)) (hn : k < n) : ev sO d m pc L (.int i :: .ref a :: st) σ = ev sO d m pc' L (.int (σ.1 a k) :: st) σ := by
  rw [E_balz hc hs, gd_t (by omega)]
  have e : i.toNatClampNeg = k := by show i.toInt.toNat = k; omega
  rw [e]
theorem E_ias {a n : Nat} {i x v : Int32} (hc : ax_code m pc = some (.iastore, pc')) (hs : ax_Sh[a]? = some (.inl (0, n))) (hv : x = v) : ev sO d m pc L (.int x :: .int i :: .ref a :: st) σ = gd (0 ≤ i.toInt ∧ i.toInt < n) (ev sO d m pc' L st (sI σ a i.toNatClampNeg v)) := by
  subst hv
  by_cases hi : 0 ≤ i.toInt ∧ i.toInt < n
  · rw [gd_t hi]
    exact E_step (u := (pc', L, st, sI σ a i.toNatClampNeg (ax_na 0 x))) hc rfl (by show Option.map _ (sO.2.2.2.1 σ a 0 i x) = _; rw [sO_st hs (Or.inl ⟨rfl, rfl⟩), if_pos hi]; rfl)
  · rw [gd_f hi]
    exact E_none hc rfl (by show Option.map _ (sO.2.2.2.1 σ a 0 i x) = _; rw [sO_st hs (Or.inl ⟨rfl, rfl⟩), if_neg hi]; rfl)
theorem E_iask {a n k : Nat} {i x v : Int32} (hc : ax_code m pc = some (.iastore, pc')) (hs : ax_Sh[a]? = some (.inl (0, n))) (hv : x = v) (hk : i.toInt = (k : Int)) (hn : k < n) : ev sO d m pc L (.int x :: .int i :: .ref a :: st) σ = ev sO d m pc' L st (sI σ a k v) := by
  rw [E_ias hc hs hv, gd_t (by omega)]
  have e : i.toNatClampNeg = k := by show i.toInt.toNat = k; omega
  rw [e]
theorem E_bas {a n : Nat} {i x v : Int32} (hc : ax_code m pc = some (.bastore, pc')) (hs : ax_Sh[a]? = some (.inl (1, n))) (hv : x.toInt8.toInt32 = v) : ev sO d m pc L (.int x :: .int i :: .ref a :: st) σ = gd (0 ≤ i.toInt ∧ i.toInt < n) (ev sO d m pc' L st (sI σ a i.toNatClampNeg v)) := by
  subst hv
  by_cases hi : 0 ≤ i.toInt ∧ i.toInt < n
  · rw [gd_t hi]
    exact E_step (u := (pc', L, st, sI σ a i.toNatClampNeg (ax_na 1 x))) hc rfl (by show Option.map _ (sO.2.2.2.1 σ a 1 i x) = _; rw [sO_st hs (Or.inr (Or.inl ⟨rfl, rfl⟩)), if_pos hi]; rfl)
  · rw [gd_f hi]
    exact E_none hc rfl (by show Option.map _ (sO.2.2.2.1 σ a 1 i x) = _; rw [sO_st hs (Or.inr (Or.inl ⟨rfl, rfl⟩)), if_neg hi]; rfl)
theorem E_bask {a n k : Nat} {i x v : Int32} (hc : ax_code m pc = some (.bastore, pc')) (hs : ax_Sh[a]? = some (.inl (1, n))) (hv : x.toInt8.toInt32 = v) (hk : i.toInt = (k : Int)) (hn : k < n) : ev sO d m pc L (.int x :: .int i :: .ref a :: st) σ = ev sO d m pc' L st (sI σ a k v) := by
  rw [E_bas hc hs hv, gd_t (by omega)]
  have e : i.toNatClampNeg = k := by show i.toInt.toNat = k; omega
  rw [e]
theorem E_basz {a n : Nat} {i x v : Int32} (hc : ax_code m pc = some (.bastore, pc')) (hs : ax_Sh[a]? = some (.inl (2, n))) (hv : (x &&& 1) = v) : ev sO d m pc L (.int x :: .int i :: .ref a :: st) σ = gd (0 ≤ i.toInt ∧ i.toInt < n) (ev sO d m pc' L st (sI σ a i.toNatClampNeg v)) := by
  subst hv
  by_cases hi : 0 ≤ i.toInt ∧ i.toInt < n
  · rw [gd_t hi]
    exact E_step (u := (pc', L, st, sI σ a i.toNatClampNeg (ax_na 2 x))) hc rfl (by show Option.map _ (sO.2.2.2.1 σ a 1 i x) = _; rw [sO_st hs (Or.inr (Or.inr ⟨rfl, rfl⟩)), if_pos hi]; rfl)
  · rw [gd_f hi]
    exact E_none hc rfl (by show Option.map _ (sO.2.2.2.1 σ a 1 i x) = _; rw [sO_st hs (Or.inr (Or.inr ⟨rfl, rfl⟩)), if_neg hi]; rfl)
theorem E_baszk {a n k : Nat} {i x v : Int32} (hc : ax_code m pc = some (.bastore, pc')) (hs : ax_Sh[a]? = some (.inl (2, n))) (hv : (x &&& 1) = v) (hk : i.toInt = (k : Int)) (hn : k < n) : ev sO d m pc L (.int x :: .int i :: .ref a :: st) σ = ev sO d m pc' L st (sI σ a k v) := by
  rw [E_basz hc hs hv, gd_t (by omega)]
  have e : i.toNatClampNeg = k := by show i.toInt.toNat = k; omega
  rw [e]
theorem E_bals {a : Nat} {i : Int32} {t : List Int32} (hc : ax_code m pc = some (.baload, pc')) (ha : 1101 ≤ a ∧ a < 1108) (ht : ax_SB.getD (a - 1101) [] = t) : ev sO d m pc L (.int i :: .ref a :: st) σ = gd (0 ≤ i.toInt ∧ i.toInt < t.length) (ev sO d m pc' L (.int (t.getD i.toNatClampNeg 0) :: st) σ) := by
  subst ht
  by_cases hi : 0 ≤ i.toInt ∧ i.toInt < (ax_SB.getD (a - 1101) []).length
  · rw [gd_t hi]
    exact E_step (u := (pc', L, .int ((ax_SB.getD (a - 1101) []).getD i.toNatClampNeg 0) :: st, σ)) hc rfl (by show Option.map _ (ax_sld σ a 1 i) = _; unfold ax_sld; rw [if_pos ha.1, if_pos ⟨ha.2, rfl, hi⟩]; rfl)
  · rw [gd_f hi]
    exact E_none hc rfl (by show Option.map _ (ax_sld σ a 1 i) = _; unfold ax_sld; rw [if_pos ha.1, if_neg (fun q => hi q.2.2)]; rfl)
theorem E_aln {a n ty : Nat} {v : Int32} (hc : ax_code m pc = some (.arraylength, pc')) (hs : ax_Sh[a]? = some (.inl (ty, n))) (hty : ty < 3) (hv : Int32.ofNat n = v) : ev sO d m pc L (.ref a :: st) σ = ev sO d m pc' L (.int v :: st) σ := by
  subst hv
  refine E_step (u := (pc', L, .int (Int32.ofNat n) :: st, σ)) hc rfl ?_
  show Option.map _ (ax_sln σ a) = _
  have hl := ax_Sh_lt hs
  unfold ax_sln
  rw [if_neg (by omega), hs]
  show Option.map _ (if ty < 3 then some (Int32.ofNat n) else none) = _
  rw [if_pos hty]
  rfl
theorem E_alns {a : Nat} {v : Int32} (hc : ax_code m pc = some (.arraylength, pc')) (ha : 1101 ≤ a ∧ a < 1108) (hv : Int32.ofNat (ax_SB.getD (a - 1101) []).length = v) : ev sO d m pc L (.ref a :: st) σ = ev sO d m pc' L (.int v :: st) σ := by
  subst hv
  refine E_step (u := (pc', L, .int (Int32.ofNat (ax_SB.getD (a - 1101) []).length) :: st, σ)) hc rfl ?_
  show Option.map _ (ax_sln σ a) = _
  unfold ax_sln
  rw [if_pos ha.1, if_pos ha.2]
  rfl
/-- where a stretch may be copied -/
def cpOk (n0 n1 : Nat) (sp dp n : Int32) : Prop := ¬ sp < 0 ∧ ¬ dp < 0 ∧ ¬ n < 0 ∧ sp.toNatClampNeg + n.toNatClampNeg ≤ n0 ∧ dp.toNatClampNeg + n.toNatClampNeg ≤ n1
theorem E_cpy {a0 a n0 n1 : Nat} {sp dp n : Int32} (hc : ax_code m pc = some (.invokedynamic 3, pc')) (hs0 : ax_Sh[a0]? = some (.inl (0, n0))) (hs1 : ax_Sh[a]? = some (.inl (0, n1))) (h8 : (st.map fun v => v.category).sum ≤ 8) (hok : cpOk n0 n1 sp dp n) : ev sO d m pc L (.int n :: .int dp :: .ref a :: .int sp :: .ref a0 :: st) σ = ev sO d m pc' L st (sR σ a (va_cpy (σ.1 a0) (σ.1 a) sp.toNatClampNeg dp.toNatClampNeg n.toNatClampNeg)) := by
  refine E_step (u := (pc', L, st, sR σ a (va_cpy (σ.1 a0) (σ.1 a) sp.toNatClampNeg dp.toNatClampNeg n.toNatClampNeg))) hc rfl ?_
  show (if _ then Option.map _ (ax_scp σ a0 sp a dp n) else none) = _
  rw [if_pos h8]
  unfold ax_scp
  rw [hs0]
  simp only
  rw [hs1]
  simp only
  rw [if_pos ⟨trivial, trivial, hok⟩]
  rfl
theorem E_pfb {a z : Nat} {x : Int32} {ci : Nat} {ks : List Nat} (hc : ax_code m pc = some (.putfield z, pc')) (hs : ax_Sh[a]? = some (.inr (ci, ks))) (hz : ci = z / 64) (hk : ks[z % 64]? = some 1) (hx : x = 0 ∨ x = 1) : ev sO d m pc L (.int x :: .ref a :: st) σ = ev sO d m pc' L st (sI σ a (z % 64) x) := by
  refine E_pf hc ?_
  show ax_sput σ a z (.int x) = _
  unfold ax_sput
  rw [hs]
  simp only
  rw [if_pos hz, hk]
  exact if_pos hx
end EQS
