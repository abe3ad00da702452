/-! TREES: the class's joins -/
def bl (x : Int64) (k : Nat) : Bool := x.toBitVec.getLsbD k
theorem sh_amt64 : ∀ k : Fin 64, (((nI k.val).toInt64 &&& 63).toBitVec.smod 64#64).toNat = k.val := by decide +kernel
theorem bl_at (x : Int64) {k : Nat} (hk : k < 64) : (x >>> ((nI k).toInt64 &&& 63)) &&& 1 = if bl x k then 1 else 0 := by
  apply Int64.toBitVec_inj.mp
  have e : ((x >>> ((nI k).toInt64 &&& 63)) &&& 1).toBitVec = (x.toBitVec.sshiftRight k) &&& 1#64 := by
    rw [Int64.toBitVec_and, Int64.toBitVec_shiftRight]
    show (x.toBitVec.sshiftRight (((nI k).toInt64 &&& 63).toBitVec.smod 64#64).toNat) &&& 1#64 = _
    rw [sh_amt64 ⟨k, hk⟩]
  rw [e]
  unfold bl
  apply BitVec.eq_of_getLsbD_eq
  intro i hi
  rw [BitVec.getLsbD_and, BitVec.getLsbD_sshiftRight, BitVec.getLsbD_one]
  by_cases h0 : i = 0
  · subst h0
    simp only [Nat.add_zero, hk, if_true]
    split <;> simp_all
  · have z : (if x.toBitVec.getLsbD k = true then (1 : Int64) else 0).toBitVec.getLsbD i = false := by
      split
      · show (1#64).getLsbD i = false
        rw [BitVec.getLsbD_one]
        simp [h0]
      · show (0#64).getLsbD i = false
        exact BitVec.getLsbD_zero
    rw [z]
    split <;> simp [h0]
theorem bl_or (x y : Int64) (k : Nat) : bl (x ||| y) k = (bl x k || bl y k) := by
  unfold bl
  rw [Int64.toBitVec_or, BitVec.getLsbD_or]
theorem bl_and (x y : Int64) (k : Nat) : bl (x &&& y) k = (bl x k && bl y k) := by
  unfold bl
  rw [Int64.toBitVec_and, BitVec.getLsbD_and]
theorem bl_0 (k : Nat) : bl 0 k = false := by
  unfold bl
  exact BitVec.getLsbD_zero
theorem bl_m1 {k : Nat} (hk : k < 64) : bl (-1) k = true := by
  unfold bl
  show (BitVec.allOnes 64).getLsbD k = true
  rw [BitVec.getLsbD_allOnes]
  exact decide_eq_true hk
def l1 (k : Nat) : Int64 := 1 <<< ((nI k).toInt64 &&& 63)
theorem bl_1f : ∀ j k : Fin 64, bl (l1 j.val) k.val = decide (k.val = j.val) := by decide +kernel
theorem bl_1 {j k : Nat} (hj : j < 64) (hk : k < 64) : bl (l1 j) k = decide (k = j) := bl_1f ⟨j, hj⟩ ⟨k, hk⟩
abbrev fO (a b : Int32) : Int32 := a ||| b
def jn : Nat → List (Nat × Nat × Nat) → (Nat → Int32) → Int64
  | 0, _, _ => 0
  | _ + 1, [], _ => 0
  | r + 1, p :: xs, V => (1 <<< ((V p.2.1 ||| V p.2.2).toInt64 &&& 63)) ||| jn r xs (upd V p.1 (V p.2.1 ||| V p.2.2))
def orS : List Int32 → Int32
  | [] => 0
  | a :: r => a ||| orS r
theorem em_or {V : Nat → Int32} : ∀ (x : Tr) (s : List Int32), (∀ n, n ∈ x → n ≠ 200 → V n = nI (2 ^ ((n + 1) / 2))) → orS (evT fO x V s) = orS s ||| nI (emT x)
  | [], s, _ => by
    show orS s = orS s ||| 0
    rw [Int32.or_zero]
  | a :: xs, s, h => by
    have ih := fun s => em_or xs s (fun n hn => h n (List.mem_cons_of_mem _ hn))
    show orS (evT fO xs V (if a = 200 then _ else V a :: s)) = orS s ||| nI ((if a = 200 then 0 else 2 ^ ((a + 1) / 2)) ||| emT xs)
    by_cases q : a = 200
    · rw [if_pos q, if_pos q, ih, Nat.zero_or]
      congr 1
      match s with
      | [] => rfl
      | [b] => rfl
      | b :: c :: r =>
        show (c ||| b) ||| orS r = b ||| (c ||| orS r)
        rw [Int32.or_comm c b, Int32.or_assoc]
    · rw [if_neg q, if_neg q, ih, ← nI_or, ← h a (List.mem_cons_self ..) q]
      show (V a ||| orS s) ||| _ = orS s ||| (V a ||| _)
      rw [Int32.or_comm (V a), Int32.or_assoc]
theorem em_v {V : Nat → Int32} {x : Tr} {v : Int32} (h : ∀ n, n ∈ x → n ≠ 200 → V n = nI (2 ^ ((n + 1) / 2))) (o : okT fO x V v) : v = nI (emT x) := by
  have h1 := em_or x [] h
  rw [o []] at h1
  have h2 : v ||| 0 = (0 : Int32) ||| nI (emT x) := h1
  rw [Int32.or_zero, Int32.zero_or] at h2
  exact h2
theorem em_lt : ∀ (x : Tr), (∀ n, n ∈ x → n ≠ 200 → (n + 1) / 2 < 6) → emT x < 64
  | [], _ => by show 0 < 64; omega
  | a :: xs, h => by
    show (if a = 200 then 0 else 2 ^ ((a + 1) / 2)) ||| emT xs < 2 ^ 6
    refine Nat.or_lt_two_pow ?_ (em_lt xs (fun n hn => h n (List.mem_cons_of_mem _ hn)))
    by_cases q : a = 200
    · rw [if_pos q]
      decide
    · rw [if_neg q]
      exact Nat.pow_lt_pow_right (by omega) (h a (List.mem_cons_self ..) q)
theorem jn_b (V0 : Nat → Int32) {b : Nat} (hb : b < 64) : ∀ (r : Nat) (L : List (Nat × Nat × Nat)) (s : Nat → Tr) (V : Nat → Int32), (∀ n, n < 11 → okT fO (s n) V0 (V n)) → (∀ p, p ∈ L → p.2.1 < 11 ∧ p.2.2 < 11) → (∀ x, x ∈ symRun L s → emT x < 64 ∧ ∀ v, okT fO x V0 v → v = nI (emT x)) → (bl (jn r L V) b = true ↔ b ∈ ((symRun L s).take r).map emT)
  | 0, L, s, V, _, _, _ => by
    show bl 0 b = true ↔ _
    rw [bl_0, List.take_zero]
    simp
  | r + 1, [], s, V, _, _, _ => by
    show bl 0 b = true ↔ b ∈ (List.take (r + 1) []).map emT
    rw [bl_0]
    simp
  | r + 1, p :: xs, s, V, hs, hp, hx => by
    obtain ⟨p1, p2⟩ := hp p (List.mem_cons_self ..)
    have o : okT fO (fkT (s p.2.1) (s p.2.2)) V0 (V p.2.1 ||| V p.2.2) := okT_fk (f := fO) (hs _ p1) (hs _ p2)
    obtain ⟨x1, x2⟩ := hx (fkT (s p.2.1) (s p.2.2)) (List.mem_cons_self ..)
    have ev := x2 _ o
    have ih := jn_b V0 hb r xs (fun j => if j = p.1 then fkT (s p.2.1) (s p.2.2) else s j) (upd V p.1 (V p.2.1 ||| V p.2.2)) (fun n hn => by
      by_cases q : n = p.1
      · (try simp only)
        rw [if_pos q, q, upd_1]
        exact o
      · (try simp only)
        rw [if_neg q, upd_n _ _ q]
        exact hs n hn) (fun q hq => hp q (List.mem_cons_of_mem _ hq)) (fun x hxx => hx x (List.mem_cons_of_mem _ hxx))
    show bl ((1 <<< ((V p.2.1 ||| V p.2.2).toInt64 &&& 63)) ||| jn r xs _) b = true ↔ b ∈ (List.take (r + 1) (fkT (s p.2.1) (s p.2.2) :: symRun xs _)).map emT
    rw [List.take_succ_cons, List.map_cons, List.mem_cons, bl_or, ev, show (1 : Int64) <<< ((nI (emT (fkT (s p.2.1) (s p.2.2)))).toInt64 &&& 63) = l1 (emT (fkT (s p.2.1) (s p.2.2))) from rfl, bl_1 x1 hb, Bool.or_eq_true, decide_eq_true_eq, ← ev, ih]
theorem s_jn (d : Nat) {g : CG} {e : Nat} (h2 : 2 ≤ e) (he : e ≤ 6) : ∀ r k (J : Int64) (w4 : Value) (σ : ax_S) (V : Nat → Int32), c1 w4 → k + r = e - 2 → GRel σ g e → (∀ n, n < 11 → σ.1 76 n = V n) → ∃ τ : ax_S, ev sO d 149 4 [.ref 66, .long J, .null, .int (nI k), w4] [] σ = some (some (.long (J ||| jn r ((cProg g).drop k) V)), τ) ∧ sm [76] σ τ ∧ ∀ n, lfN n → τ.1 76 n = σ.1 76 n
  | 0, k, J, w4, σ, V, h4, hk, hg, hV => by
    refine ⟨σ, ?_, sm.rf _ _, fun _ _ => rfl⟩
    rw [u_149_66p4 d σ J (nI k) w4 h4, hg.2.2.2.2, nI_sub1 (show 0 < e - 1 by omega) (by omega), if_neg (nnl (show e - 1 - 1 ≤ k by omega) (by omega))]
    show some (some (Value.long J), σ) = some (some (Value.long (J ||| 0)), σ)
    rw [Int64.or_zero]
  | r + 1, k, J, w4, σ, V, h4, hk, hg, hV => by
    obtain ⟨i, i1, i2, e1, f77, f74, f75, ha, hb⟩ := GRel_f hg (show k < e - 1 by omega)
    have e0 := cP_d (g := g) (k := k) (by rw [hg.1.1.2.2.2]; omega)
    rw [e1] at e0
    generalize gN g.2.1 (2 * i) = a at f74 ha e0
    generalize gN g.2.2.1 (2 * i) = b at f75 hb e0
    have eu := u_149_66p4 d σ J (nI k) w4 h4
    simp only [hg.2.2.2.2, nI_sub1 (show 0 < e - 1 by omega) (show e - 1 < 2147483648 by omega), nI_c (show k < 2147483648 by omega), f77, nI_c (show 2 * i < 2147483648 by omega), f74, f75, nI_c (show a < 2147483648 by omega), nI_c (show b < 2147483648 by omega), hV a (by omega), hV b (by omega), nI_add1, sI_1] at eu
    rw [if_pos (nlt (show k < e - 1 - 1 by omega)), gd_t (nI_g (show k < 6 by omega) (by omega)), gd_t (nI_g (show 2 * i < 11 by omega) (by omega)), gd_t (nI_g (show a < 11 by omega) (by omega)), gd_t (nI_g (show 2 * i < 11 by omega) (by omega)), gd_t (nI_g (show b < 11 by omega) (by omega)), gd_t (nI_g (show 2 * i < 11 by omega) (by omega)), gd_t (nI_g (show 2 * i < 11 by omega) (by omega))] at eu
    obtain ⟨T, hT⟩ : ∃ T, T = sI σ 76 (2 * i) (V a ||| V b) := ⟨_, rfl⟩
    have sT : sm [76] σ T := by rw [hT]; exact (sm.rf _ _).set _ _ (by decide)
    obtain ⟨τ, g1, g2, g3⟩ := s_jn d h2 he r (k + 1) (J ||| (1 <<< ((V a ||| V b).toInt64 &&& 63))) (.int (nI (2 * i))) T (upd V (2 * i) (V a ||| V b)) rfl (by omega) (GRel_c hg (sT.1 73 (by decide)) (sT.1 74 (by decide)) (sT.1 75 (by decide)) (sT.1 77 (by decide)) (by rw [sT.1 66 (by decide)])) (fun n hn => by
      rw [hT]
      by_cases q : n = 2 * i
      · rw [q, sI_1, upd_1]
      · rw [sI_k _ q, upd_n _ _ q]
        exact hV n hn)
    refine ⟨τ, ?_, sT.tr g2, fun n hn => ?_⟩
    · rw [eu, ← hT, g1, e0]
      show _ = some (some (Value.long (J ||| ((1 <<< ((V a ||| V b).toInt64 &&& 63)) ||| jn r _ _))), τ)
      rw [Int64.or_assoc]
    · rw [g3 n hn, hT, sI_k _ (by omega)]
theorem dropLast_take {α : Type} (l : List α) : l.dropLast = l.take (l.length - 1) := List.dropLast_eq_take
theorem s_joins (d : Nat) {σ : ax_S} {e t : Nat} (h2 : 2 ≤ e) (he : e ≤ 6) (ht : t < allN e) (hg : GRel σ (cTree e t) e) (hV : ∀ j, j < e → σ.1 76 (leafN j) = nI (2 ^ j)) : ∃ (τ : ax_S) (J : Int64), cL sO d 149 [.ref 66] σ = some (J, τ) ∧ sm [76] σ τ ∧ (∀ n, lfN n → τ.1 76 n = σ.1 76 n) ∧ ∀ b, b < 64 → (bl J b = true ↔ b ∈ cJ e t) := by
  obtain ⟨d1, -, d3, d4, -, -⟩ := chd_of h2 he ht
  obtain ⟨τ, a1, a2, a3⟩ := s_jn d h2 he (e - 2) 0 0 .null σ (σ.1 76) rfl (by omega) hg (fun _ _ => rfl)
  rw [List.drop_zero, Int64.zero_or] at a1
  refine ⟨τ, _, cL_ev mi_149 ((u_149_66 d σ).trans a1) rfl, a2, a3, fun b hb => ?_⟩
  have h := jn_b (σ.1 76) hb (e - 2) (cProg (cTree e t)) (fun n => [n]) (σ.1 76) (fun n hn => okT_at fO _ (by omega)) (fun p hp => ⟨(d1 p hp).1.2, (d1 p hp).2⟩) (fun x hx => by
    have hx : x ∈ cSym e t := hx
    refine ⟨em_lt x (fun n hn h => ?_), fun v o => em_v (fun n hn h => ?_) o⟩
    · obtain z | ⟨z1, z2⟩ := d3 x hx n hn
      · exact absurd z h
      · omega
    · obtain z | ⟨z1, z2⟩ := d3 x hx n hn
      · exact absurd z h
      · have : n = leafN ((n + 1) / 2) := by
          unfold leafN
          split <;> omega
        have h3 := hV _ z2
        rw [← this] at h3
        exact h3)
  rw [h]
  show b ∈ ((cSym e t).take (e - 2)).map emT ↔ b ∈ (cSym e t).dropLast.map emT
  have hl : (cSym e t).length = e - 1 := by
    obtain ⟨-, r2, -⟩ := rn_sym fF (fun _ => 0) (fun n => n < 11) (cProg (cTree e t)) (fun n => [n]) (fun _ => 0) (fun n hn => okT_at fF _ (by omega)) (fun p hp => ⟨(d1 p hp).1.2, (d1 p hp).2⟩)
    refine (show (cSym e t).length = _ from r2).trans ?_
    show (List.map _ _).length = _
    rw [List.length_map]
    exact d4
  rw [dropLast_take, hl, show e - 1 - 1 = e - 2 by omega]
