/-! A RUN OVER THE NUMBERS is a run over the cells: first of any two heaps of which one shows the other -/
def ax_Sim {H1 H2 : Type} (O1 : ax_O H1) (O2 : ax_O H2) (f : H1 → H2) : Prop :=
  (∀ {h : H1} {a z : Nat} {v : Value}, O1.1 h a z = some v → O2.1 (f h) a z = some v) ∧
  (∀ {h h' : H1} {a z : Nat} {v : Value}, O1.2.1 h a z v = some h' → O2.2.1 (f h) a z v = some (f h')) ∧
  (∀ {h : H1} {a t : Nat} {i x : Int32}, O1.2.2.1 h a t i = some x → O2.2.2.1 (f h) a t i = some x) ∧
  (∀ {h h' : H1} {a t : Nat} {i x : Int32}, O1.2.2.2.1 h a t i x = some h' → O2.2.2.2.1 (f h) a t i x = some (f h')) ∧
  (∀ {h : H1} {a : Nat} {x : Int32}, O1.2.2.2.2.1 h a = some x → O2.2.2.2.2.1 (f h) a = some x) ∧
  (∀ {h : H1} {ci : Nat} {q : Nat × H1}, O1.2.2.2.2.2.1 h ci = some q → O2.2.2.2.2.2.1 (f h) ci = some (q.1, f q.2)) ∧
  (∀ {h : H1} {t : ArrayType} {n : Int32} {q : Nat × H1}, O1.2.2.2.2.2.2.1 h t n = some q → O2.2.2.2.2.2.2.1 (f h) t n = some (q.1, f q.2)) ∧
  (∀ {h h' : H1} {a0 a : Nat} {sp dp n : Int32}, O1.2.2.2.2.2.2.2.1 h a0 sp a dp n = some h' → O2.2.2.2.2.2.2.2.1 (f h) a0 sp a dp n = some (f h')) ∧
  (∀ {h : H1} {a ci : Nat}, O1.2.2.2.2.2.2.2.2 h a = some ci → O2.2.2.2.2.2.2.2.2 (f h) a = some ci)
section SIM
variable {H1 H2 : Type} {O1 : ax_O H1} {O2 : ax_O H2} {f : H1 → H2}
set_option maxHeartbeats 4000000 in
theorem gs_step (hs : ax_Sim O1 O2 f) {J : Instr} {pc : Nat} {L st : List Value} {σ : H1} {u : Nat × List Value × List Value × H1} (hu : ax_step O1 J pc L st σ = some u) : ax_step O2 J pc L st (f σ) = some (u.1, u.2.1, u.2.2.1, f u.2.2.2) := by
  cases J with
  | iconst n =>
    cases hu
    rfl
  | lconst n =>
    cases hu
    rfl
  | ldc2_w k =>
    cases hu
    rfl
  | ldc k =>
    cases hu
    rfl
  | iload k =>
    obtain ⟨x0, r0, e1, h0⟩ := ax_ri_of hu
    cases h0
    show ax_ri (L[k]?.toList) _ = _
    rw [e1]
    rfl
  | lload k =>
    obtain ⟨x0, r0, e1, h0⟩ := ax_rl_of hu
    cases h0
    show ax_rl (L[k]?.toList) _ = _
    rw [e1]
    rfl
  | aload k =>
    obtain ⟨x0, r0, e1, h0⟩ := ax_ra_of hu
    split at h0
    · rename_i hq
      cases h0
      show ax_ra (L[k]?.toList) _ = _
      rw [e1]
      exact if_pos hq
    · cases h0
  | iinc k n =>
    obtain ⟨x0, r0, e1, h0⟩ := ax_ri_of hu
    cases h0
    show ax_ri (L[k]?.toList) _ = _
    rw [e1]
    rfl
  | istore k =>
    obtain ⟨x0, r0, rfl, h0⟩ := ax_ri_of hu
    split at h0
    · rename_i hq
      cases h0
      exact if_pos hq
    · cases h0
  | astore k =>
    obtain ⟨x0, r0, rfl, h0⟩ := ax_ra_of hu
    split at h0
    · rename_i hq
      cases h0
      exact if_pos hq
    · cases h0
  | lstore k =>
    obtain ⟨x0, r0, rfl, h0⟩ := ax_rl_of hu
    split at h0
    · rename_i hq
      cases h0
      exact if_pos hq
    · cases h0
  | iadd =>
    obtain ⟨x0, r0, rfl, h0⟩ := ax_ri_of hu
    obtain ⟨x1, r1, rfl, h1⟩ := ax_ri_of h0
    cases h1
    rfl
  | isub =>
    obtain ⟨x0, r0, rfl, h0⟩ := ax_ri_of hu
    obtain ⟨x1, r1, rfl, h1⟩ := ax_ri_of h0
    cases h1
    rfl
  | imul =>
    obtain ⟨x0, r0, rfl, h0⟩ := ax_ri_of hu
    obtain ⟨x1, r1, rfl, h1⟩ := ax_ri_of h0
    cases h1
    rfl
  | iand =>
    obtain ⟨x0, r0, rfl, h0⟩ := ax_ri_of hu
    obtain ⟨x1, r1, rfl, h1⟩ := ax_ri_of h0
    cases h1
    rfl
  | ior =>
    obtain ⟨x0, r0, rfl, h0⟩ := ax_ri_of hu
    obtain ⟨x1, r1, rfl, h1⟩ := ax_ri_of h0
    cases h1
    rfl
  | ixor =>
    obtain ⟨x0, r0, rfl, h0⟩ := ax_ri_of hu
    obtain ⟨x1, r1, rfl, h1⟩ := ax_ri_of h0
    cases h1
    rfl
  | ishl =>
    obtain ⟨x0, r0, rfl, h0⟩ := ax_ri_of hu
    obtain ⟨x1, r1, rfl, h1⟩ := ax_ri_of h0
    cases h1
    rfl
  | ishr =>
    obtain ⟨x0, r0, rfl, h0⟩ := ax_ri_of hu
    obtain ⟨x1, r1, rfl, h1⟩ := ax_ri_of h0
    cases h1
    rfl
  | iushr =>
    obtain ⟨x0, r0, rfl, h0⟩ := ax_ri_of hu
    obtain ⟨x1, r1, rfl, h1⟩ := ax_ri_of h0
    cases h1
    rfl
  | idiv =>
    obtain ⟨x0, r0, rfl, h0⟩ := ax_ri_of hu
    obtain ⟨x1, r1, rfl, h1⟩ := ax_ri_of h0
    split at h1
    · cases h1
    · rename_i hq
      cases h1
      exact if_neg hq
  | irem =>
    obtain ⟨x0, r0, rfl, h0⟩ := ax_ri_of hu
    obtain ⟨x1, r1, rfl, h1⟩ := ax_ri_of h0
    split at h1
    · cases h1
    · rename_i hq
      cases h1
      exact if_neg hq
  | ladd =>
    obtain ⟨x0, r0, rfl, h0⟩ := ax_rl_of hu
    obtain ⟨x1, r1, rfl, h1⟩ := ax_rl_of h0
    cases h1
    rfl
  | lsub =>
    obtain ⟨x0, r0, rfl, h0⟩ := ax_rl_of hu
    obtain ⟨x1, r1, rfl, h1⟩ := ax_rl_of h0
    cases h1
    rfl
  | lmul =>
    obtain ⟨x0, r0, rfl, h0⟩ := ax_rl_of hu
    obtain ⟨x1, r1, rfl, h1⟩ := ax_rl_of h0
    cases h1
    rfl
  | land =>
    obtain ⟨x0, r0, rfl, h0⟩ := ax_rl_of hu
    obtain ⟨x1, r1, rfl, h1⟩ := ax_rl_of h0
    cases h1
    rfl
  | lor =>
    obtain ⟨x0, r0, rfl, h0⟩ := ax_rl_of hu
    obtain ⟨x1, r1, rfl, h1⟩ := ax_rl_of h0
    cases h1
    rfl
  | lcmp =>
    obtain ⟨x0, r0, rfl, h0⟩ := ax_rl_of hu
    obtain ⟨x1, r1, rfl, h1⟩ := ax_rl_of h0
    cases h1
    rfl
  | lshl =>
    obtain ⟨x0, r0, rfl, h0⟩ := ax_ri_of hu
    obtain ⟨x1, r1, rfl, h1⟩ := ax_rl_of h0
    cases h1
    rfl
  | lshr =>
    obtain ⟨x0, r0, rfl, h0⟩ := ax_ri_of hu
    obtain ⟨x1, r1, rfl, h1⟩ := ax_rl_of h0
    cases h1
    rfl
  | ineg =>
    obtain ⟨x0, r0, rfl, h0⟩ := ax_ri_of hu
    cases h0
    rfl
  | i2l =>
    obtain ⟨x0, r0, rfl, h0⟩ := ax_ri_of hu
    cases h0
    rfl
  | i2b =>
    obtain ⟨x0, r0, rfl, h0⟩ := ax_ri_of hu
    cases h0
    rfl
  | i2s =>
    obtain ⟨x0, r0, rfl, h0⟩ := ax_ri_of hu
    cases h0
    rfl
  | i2c =>
    obtain ⟨x0, r0, rfl, h0⟩ := ax_ri_of hu
    cases h0
    rfl
  | l2i =>
    obtain ⟨x0, r0, rfl, h0⟩ := ax_rl_of hu
    cases h0
    rfl
  | dup =>
    obtain ⟨x0, r0, rfl, h0⟩ := ax_rv_of hu
    split at h0
    · rename_i hq
      cases h0
      exact if_pos hq
    · cases h0
  | dup2 =>
    obtain ⟨x0, r0, rfl, h0⟩ := ax_rv_of hu
    obtain ⟨x1, r1, rfl, h1⟩ := ax_rv_of h0
    split at h1
    · rename_i hq
      cases h1
      exact if_pos hq
    · cases h1
  | pop =>
    obtain ⟨x0, r0, rfl, h0⟩ := ax_rv_of hu
    split at h0
    · rename_i hq
      cases h0
      exact if_pos hq
    · cases h0
  | goto t =>
    rw [ax_step] at hu ⊢
    split at hu
    · rename_i hq
      cases hu
      exact if_pos hq
    · cases hu
  | if_icmp q t =>
    obtain ⟨x0, r0, rfl, h0⟩ := ax_ri_of hu
    obtain ⟨x1, r1, rfl, h1⟩ := ax_ri_of h0
    split at h1
    · rename_i hq
      cases h1
      exact if_pos hq
    · cases h1
  | ifCond q t =>
    obtain ⟨x0, r0, rfl, h0⟩ := ax_ri_of hu
    split at h0
    · rename_i hq
      cases h0
      exact if_pos hq
    · cases h0
  | tableswitch a b c d =>
    obtain ⟨x0, r0, rfl, h0⟩ := ax_ri_of hu
    split at h0
    · rename_i hq
      cases h0
      exact if_pos hq
    · cases h0
  | getfield z =>
    obtain ⟨x0, r0, rfl, h0⟩ := ax_ra_of hu
    obtain ⟨v, hv, rfl⟩ := Option.map_eq_some_iff.mp h0
    show Option.map _ (O2.1 (f σ) x0 z) = _
    rw [hs.1 hv]
    rfl
  | putfield z =>
    obtain ⟨x0, r0, rfl, h0⟩ := ax_rv_of hu
    obtain ⟨x1, r1, rfl, h1⟩ := ax_ra_of h0
    obtain ⟨v, hv, rfl⟩ := Option.map_eq_some_iff.mp h1
    show Option.map _ (O2.2.1 (f σ) x1 z x0) = _
    rw [hs.2.1 hv]
    rfl
  | iaload =>
    obtain ⟨x0, r0, rfl, h0⟩ := ax_ri_of hu
    obtain ⟨x1, r1, rfl, h1⟩ := ax_ra_of h0
    obtain ⟨v, hv, rfl⟩ := Option.map_eq_some_iff.mp h1
    show Option.map _ (O2.2.2.1 (f σ) x1 0 x0) = _
    rw [hs.2.2.1 hv]
    rfl
  | baload =>
    obtain ⟨x0, r0, rfl, h0⟩ := ax_ri_of hu
    obtain ⟨x1, r1, rfl, h1⟩ := ax_ra_of h0
    obtain ⟨v, hv, rfl⟩ := Option.map_eq_some_iff.mp h1
    show Option.map _ (O2.2.2.1 (f σ) x1 1 x0) = _
    rw [hs.2.2.1 hv]
    rfl
  | iastore =>
    obtain ⟨x0, r0, rfl, h0⟩ := ax_ri_of hu
    obtain ⟨x1, r1, rfl, h1⟩ := ax_ri_of h0
    obtain ⟨x2, r2, rfl, h2⟩ := ax_ra_of h1
    obtain ⟨v, hv, rfl⟩ := Option.map_eq_some_iff.mp h2
    show Option.map _ (O2.2.2.2.1 (f σ) x2 0 x1 x0) = _
    rw [hs.2.2.2.1 hv]
    rfl
  | bastore =>
    obtain ⟨x0, r0, rfl, h0⟩ := ax_ri_of hu
    obtain ⟨x1, r1, rfl, h1⟩ := ax_ri_of h0
    obtain ⟨x2, r2, rfl, h2⟩ := ax_ra_of h1
    obtain ⟨v, hv, rfl⟩ := Option.map_eq_some_iff.mp h2
    show Option.map _ (O2.2.2.2.1 (f σ) x2 1 x1 x0) = _
    rw [hs.2.2.2.1 hv]
    rfl
  | arraylength =>
    obtain ⟨x0, r0, rfl, h0⟩ := ax_ra_of hu
    obtain ⟨v, hv, rfl⟩ := Option.map_eq_some_iff.mp h0
    show Option.map _ (O2.2.2.2.2.1 (f σ) x0) = _
    rw [hs.2.2.2.2.1 hv]
    rfl
  | new ci =>
    obtain ⟨v, hv, rfl⟩ := Option.map_eq_some_iff.mp hu
    show Option.map _ (O2.2.2.2.2.2.1 (f σ) ci) = _
    rw [hs.2.2.2.2.2.1 hv]
    rfl
  | newarray t =>
    obtain ⟨x0, r0, rfl, h0⟩ := ax_ri_of hu
    obtain ⟨v, hv, rfl⟩ := Option.map_eq_some_iff.mp h0
    show Option.map _ (O2.2.2.2.2.2.2.1 (f σ) t x0) = _
    rw [hs.2.2.2.2.2.2.1 hv]
    rfl
  | getstatic j =>
    match j, hu with
    | 0, hu => cases hu
    | 1, hu => cases hu
    | 2, hu => cases hu; rfl
    | 3, hu => cases hu; rfl
    | n + 4, hu => cases hu
  | invokedynamic j =>
    match j, hu with
    | 0, hu =>
      obtain ⟨y, r1, rfl, h1⟩ := ax_ri_of hu
      obtain ⟨x, r2, rfl, h2⟩ := ax_ri_of h1
      split at h2
      · rename_i hq
        cases h2
        exact if_pos hq
      · cases h2
    | 1, hu =>
      obtain ⟨y, r1, rfl, h1⟩ := ax_ri_of hu
      obtain ⟨x, r2, rfl, h2⟩ := ax_ri_of h1
      split at h2
      · rename_i hq
        cases h2
        exact if_pos hq
      · cases h2
    | 2, hu =>
      obtain ⟨y, r1, rfl, h2⟩ := ax_ri_of hu
      split at h2
      · rename_i hq
        cases h2
        exact if_pos hq
      · cases h2
    | 3, hu =>
      obtain ⟨k, r1, rfl, h1⟩ := ax_ri_of hu
      obtain ⟨dp, r2, rfl, h2⟩ := ax_ri_of h1
      obtain ⟨a, r3, rfl, h3⟩ := ax_ra_of h2
      obtain ⟨sp, r4, rfl, h4⟩ := ax_ri_of h3
      obtain ⟨a0, r5, rfl, h5⟩ := ax_ra_of h4
      split at h5
      · rename_i hq
        obtain ⟨h9, hv, rfl⟩ := Option.map_eq_some_iff.mp h5
        show (if _ then Option.map _ (O2.2.2.2.2.2.2.2.1 (f σ) a0 sp a dp k) else none) = _
        rw [if_pos hq, hs.2.2.2.2.2.2.2.1 hv]
        rfl
      · cases h5
    | 4, hu => cases hu
    | 5, hu => cases hu
    | 6, hu =>
      obtain ⟨y, r1, rfl, h2⟩ := ax_ra_of hu
      split at h2
      · rename_i hq
        cases h2
        exact if_pos hq
      · cases h2
    | n + 7, hu => cases hu
  | _ => cases hu
theorem gs_cal (hs : ax_Sim O1 O2 f) {J : Instr} {st : List Value} {σ : H1} {c : Nat × List Value × List Value} (hc : ax_cal O1 J st σ = some c) : ax_cal O2 J st (f σ) = some c := by
  cases J with
  | invokestatic M => exact hc
  | invokespecial M => exact hc
  | invokevirtual M =>
    have hc : (match ax_M[M]? with
      | none => none
      | some r => ax_ra (st.drop r.2.2.2.2.2.2.1) fun a b => if r.2.2.2.2.2.1 = false ∧ r.2.2.2.2.2.2.1 ≤ st.length ∧ O1.2.2.2.2.2.2.2.2 σ a = some r.2.2.2.2.1 ∧ r.1.name ≠ "<init>" then some (M, .ref a :: (st.take r.2.2.2.2.2.2.1).reverse, b) else none) = some c := hc
    show (match ax_M[M]? with
      | none => none
      | some r => ax_ra (st.drop r.2.2.2.2.2.2.1) fun a b => if r.2.2.2.2.2.1 = false ∧ r.2.2.2.2.2.2.1 ≤ st.length ∧ O2.2.2.2.2.2.2.2.2 (f σ) a = some r.2.2.2.2.1 ∧ r.1.name ≠ "<init>" then some (M, .ref a :: (st.take r.2.2.2.2.2.2.1).reverse, b) else none) = some c
    cases hr : ax_M[M]? with
    | none => rw [hr] at hc; cases hc
    | some r =>
      rw [hr] at hc
      simp only at hc ⊢
      obtain ⟨a, b, hd, hc⟩ := ax_ra_of hc
      rw [hd]
      split at hc
      · rename_i hq
        cases hc
        exact if_pos ⟨hq.1, hq.2.1, hs.2.2.2.2.2.2.2.2 hq.2.2.1, hq.2.2.2⟩
      · cases hc
  | _ => cases hc
theorem gs_run (hs : ax_Sim O1 O2 f) (n : Nat) : ∀ (d m pc : Nat) (L st : List Value) (σ : H1) (w : Option Value × H1), ax_run O1 n d m pc L st σ = some w → ax_run O2 n d m pc L st (f σ) = some (w.1, f w.2) := by
  induction n with
  | zero => intro d m pc L st σ w e; cases e
  | succ n ih =>
    intro d m pc L st σ w e
    obtain ⟨q, hq, h1⟩ := ax_run_of e
    rw [ax_run, hq]
    simp only
    rcases h1 with ⟨hk, r, v, hr, hret, rfl⟩ | ⟨hk, d', c, u, rfl, hc, h8, hl, e1, e2⟩ | ⟨hk1, hk2, u, e1, e2⟩
    · rw [hk]
      simp only
      rw [hr, Option.bind_some, hret]
      rfl
    · rw [hk]
      simp only
      rw [gs_cal hs hc]
      simp only
      rw [if_pos ⟨h8, hl⟩, ih _ _ _ _ _ _ _ e1]
      exact ih _ _ _ _ _ _ _ e2
    · have hk0 : ax_kd q.1 = 0 := by
        rcases ax_kd_3 q.1 with k | k | k
        · exact k
        · exact absurd k hk1
        · exact absurd k hk2
      rw [hk0]
      simp only
      rw [gs_step hs e1]
      exact ih _ _ _ _ _ _ _ e2
theorem gs_ev (hs : ax_Sim O1 O2 f) {d m pc : Nat} {L st : List Value} {σ : H1} {w : Option Value × H1} (e : ev O1 d m pc L st σ = some w) : ev O2 d m pc L st (f σ) = some (w.1, f w.2) := by
  obtain ⟨n, hn⟩ := ev_iff.mp e
  exact ev_iff.mpr ⟨n, gs_run hs n _ _ _ _ _ _ _ hn⟩
theorem gs_cI (hs : ax_Sim O1 O2 f) {d M : Nat} {as : List Value} {σ σ' : H1} {x : Int32} (e : cI O1 d M as σ = some (x, σ')) : cI O2 d M as (f σ) = some (x, f σ') := by
  unfold cI at e ⊢
  obtain ⟨u, hu, h1⟩ := Option.bind_eq_some_iff.mp e
  rw [gs_ev hs hu, Option.bind_some]
  obtain ⟨v, h2⟩ := u
  cases v with
  | none => cases h1
  | some v =>
    cases v with
    | int y => cases h1; rfl
    | _ => cases h1
theorem gs_cL (hs : ax_Sim O1 O2 f) {d M : Nat} {as : List Value} {σ σ' : H1} {x : Int64} (e : cL O1 d M as σ = some (x, σ')) : cL O2 d M as (f σ) = some (x, f σ') := by
  unfold cL at e ⊢
  obtain ⟨u, hu, h1⟩ := Option.bind_eq_some_iff.mp e
  rw [gs_ev hs hu, Option.bind_some]
  obtain ⟨v, h2⟩ := u
  cases v with
  | none => cases h1
  | some v =>
    cases v with
    | long y => cases h1; rfl
    | _ => cases h1
end SIM
theorem lO_2 (xs : Nat → Int32) (n : Nat) : (ax_lO xs n).2.1 = ax_lput := rfl
theorem lO_4 (xs : Nat → Int32) (n : Nat) : (ax_lO xs n).2.2.2.1 = ax_lst := rfl
theorem lO_8 (xs : Nat → Int32) (n : Nat) : (ax_lO xs n).2.2.2.2.2.2.2.1 = ax_lcp := rfl
theorem ax_sim (xs : Nat → Int32) (n : Nat) : ax_Sim sO (ax_lO xs n) ax_mk := by
  refine ⟨?_, ?_, ?_, ?_, ?_, ?_, ?_, ?_, ?_⟩
  · intro h a z v e
    have e : ax_sget h a z = some v := e
    show ax_lget (ax_mk h) a z = some v
    exact sim_get e
  · intro h h' a z v e
    have e : ax_sput h a z v = some h' := e
    rw [lO_2]
    exact sim_put e
  · intro h a t i x e
    have e : ax_sld h a t i = some x := e
    show ax_lld xs n (ax_mk h) a t i = some x
    exact sim_ld e
  · intro h h' a t i x e
    have e : ax_sst h a t i x = some h' := e
    rw [lO_4]
    exact sim_st e
  · intro h a x e
    have e : ax_sln h a = some x := e
    show ax_lln n (ax_mk h) a = some x
    exact sim_ln e
  · intro h ci q e
    have e : (none : Option (Nat × ax_S)) = some q := e
    cases e
  · intro h t k q e
    have e : (none : Option (Nat × ax_S)) = some q := e
    cases e
  · intro h h' a0 a sp dp k e
    have e : ax_scp h a0 sp a dp k = some h' := e
    rw [lO_8]
    exact sim_cp e
  · intro h a ci e
    have e : ax_skl h a = some ci := e
    show ax_lkl (ax_mk h) a = some ci
    exact sim_kl e
