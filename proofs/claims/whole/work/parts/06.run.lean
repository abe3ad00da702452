/-! THE SMALL MACHINE IS SOUND: what it answers of a method, the machine answers -/
theorem ax_lput_le {h h' : ax_H} {a z : Nat} {v : Value} (e : ax_lput h a z v = some h') : ax_le h h' := by
  obtain ⟨fs, hf, h2, h3, h4, h5, rfl⟩ := ax_lput_of e
  exact ⟨by rw [List.length_set]; exact Nat.le_refl _, by rw [ax_sz_set hf (by simp [ax_cs])]; exact Nat.le_refl _⟩
theorem ax_lst_le {h h' : ax_H} {a t : Nat} {i x : Int32} (e : ax_lst h a t i x = some h') : ax_le h h' := by
  obtain ⟨ty, n, f, hf, ht, hin, rfl⟩ := ax_lst_of e
  exact ⟨by rw [List.length_set]; exact Nat.le_refl _, Nat.le_of_eq (ax_sz_set (c' := .inl (ty, n, upd f i.toNatClampNeg (ax_na ty x))) hf rfl).symm⟩
theorem ax_lcp_le {h h' : ax_H} {a0 a : Nat} {sp dp n : Int32} (e : ax_lcp h a0 sp a dp n = some h') : ax_le h h' := by
  obtain ⟨n0, f, n1, f1, e0, e1, q1, q2, q3, q4, q5, rfl⟩ := ax_lcp_of e
  exact ⟨by rw [List.length_set]; exact Nat.le_refl _, Nat.le_of_eq (ax_sz_set (c' := .inl (0, n1, va_cpy f f1 sp.toNatClampNeg dp.toNatClampNeg n.toNatClampNeg)) e1 rfl).symm⟩
theorem ax_app_le (h : ax_H) (c : ax_C) : ax_le h (h ++ [c]) := ⟨by simp, by rw [ax_sz_app]; exact Nat.le_add_right _ _⟩
theorem ax_lnw_le {h : ax_H} {ci : Nat} {w : Nat × ax_H} (e : ax_lnw h ci = some w) : ax_le h w.2 := by
  unfold ax_lnw at e
  split at e
  · split at e
    · cases e
      exact ax_app_le _ _
    · cases e
  · cases e
theorem ax_lna_le {h : ax_H} {t : ArrayType} {n : Int32} {w : Nat × ax_H} (e : ax_lna h t n = some w) : ax_le h w.2 := by
  unfold ax_lna at e
  split at e
  · cases e
    exact ax_app_le _ _
  · cases e
set_option maxHeartbeats 4000000 in
theorem ax_step_le {xs : Nat → Int32} {k : Nat} {J : Instr} {pc : Nat} {L st : List Value} {h : ax_H} {u : Nat × List Value × List Value × ax_H} (hu : ax_step (ax_lO xs k) J pc L st h = some u) : ax_le h u.2.2.2 := by
  cases J with
  | putfield z =>
    obtain ⟨v, r1, rfl, h0⟩ := ax_rv_of hu
    obtain ⟨a, r2, rfl, h1⟩ := ax_ra_of h0
    obtain ⟨h9, hv, rfl⟩ := Option.map_eq_some_iff.mp h1
    exact ax_lput_le hv
  | iastore =>
    obtain ⟨x, r0, rfl, h9⟩ := ax_ri_of hu
    obtain ⟨i, r1, rfl, h0⟩ := ax_ri_of h9
    obtain ⟨a, r2, rfl, h1⟩ := ax_ra_of h0
    obtain ⟨h8, hv, rfl⟩ := Option.map_eq_some_iff.mp h1
    exact ax_lst_le hv
  | bastore =>
    obtain ⟨x, r0, rfl, h9⟩ := ax_ri_of hu
    obtain ⟨i, r1, rfl, h0⟩ := ax_ri_of h9
    obtain ⟨a, r2, rfl, h1⟩ := ax_ra_of h0
    obtain ⟨h8, hv, rfl⟩ := Option.map_eq_some_iff.mp h1
    exact ax_lst_le hv
  | new ci =>
    obtain ⟨w, hw, rfl⟩ := Option.map_eq_some_iff.mp hu
    exact ax_lnw_le hw
  | newarray t =>
    obtain ⟨n, r1, rfl, h0⟩ := ax_ri_of hu
    obtain ⟨w, hw, rfl⟩ := Option.map_eq_some_iff.mp h0
    exact ax_lna_le hw
  | getfield z =>
    obtain ⟨a, r1, rfl, h1⟩ := ax_ra_of hu
    obtain ⟨v, hv, rfl⟩ := Option.map_eq_some_iff.mp h1
    exact ax_le.rf _
  | iaload =>
    obtain ⟨i, r1, rfl, h0⟩ := ax_ri_of hu
    obtain ⟨a, r2, rfl, h1⟩ := ax_ra_of h0
    obtain ⟨v, hv, rfl⟩ := Option.map_eq_some_iff.mp h1
    exact ax_le.rf _
  | baload =>
    obtain ⟨i, r1, rfl, h0⟩ := ax_ri_of hu
    obtain ⟨a, r2, rfl, h1⟩ := ax_ra_of h0
    obtain ⟨v, hv, rfl⟩ := Option.map_eq_some_iff.mp h1
    exact ax_le.rf _
  | arraylength =>
    obtain ⟨a, r2, rfl, h1⟩ := ax_ra_of hu
    obtain ⟨v, hv, rfl⟩ := Option.map_eq_some_iff.mp h1
    exact ax_le.rf _
  | getstatic j =>
    match j, hu with
    | 0, hu => cases hu
    | 1, hu => cases hu
    | 2, hu => cases hu; exact ax_le.rf _
    | 3, hu => cases hu; exact ax_le.rf _
    | n + 4, hu => cases hu
  | invokedynamic j =>
    match j, hu with
    | 0, hu =>
      obtain ⟨y, r1, rfl, h1⟩ := ax_ri_of hu
      obtain ⟨x, r2, rfl, h2⟩ := ax_ri_of h1
      split at h2 <;> first | (cases h2; exact ax_le.rf _) | cases h2
    | 1, hu =>
      obtain ⟨y, r1, rfl, h1⟩ := ax_ri_of hu
      obtain ⟨x, r2, rfl, h2⟩ := ax_ri_of h1
      split at h2 <;> first | (cases h2; exact ax_le.rf _) | cases h2
    | 2, hu =>
      obtain ⟨y, r1, rfl, h2⟩ := ax_ri_of hu
      split at h2 <;> first | (cases h2; exact ax_le.rf _) | cases h2
    | 3, hu =>
      obtain ⟨n, r1, rfl, h1⟩ := ax_ri_of hu
      obtain ⟨dp, r2, rfl, h2⟩ := ax_ri_of h1
      obtain ⟨a, r3, rfl, h3⟩ := ax_ra_of h2
      obtain ⟨sp, r4, rfl, h4⟩ := ax_ri_of h3
      obtain ⟨a0, r5, rfl, h5⟩ := ax_ra_of h4
      split at h5
      · obtain ⟨h9, hv, rfl⟩ := Option.map_eq_some_iff.mp h5
        exact ax_lcp_le hv
      · cases h5
    | 4, hu => cases hu
    | 5, hu => cases hu
    | 6, hu =>
      obtain ⟨y, r1, rfl, h2⟩ := ax_ra_of hu
      split at h2 <;> first | (cases h2; exact ax_le.rf _) | cases h2
    | n + 7, hu => cases hu
  | iconst n =>
    cases hu
    exact ax_le.rf _
  | lconst n =>
    cases hu
    exact ax_le.rf _
  | ldc2_w k =>
    cases hu
    exact ax_le.rf _
  | ldc k =>
    cases hu
    exact ax_le.rf _
  | iload k =>
    obtain ⟨_, _, _, h0⟩ := ax_ri_of hu
    cases h0
    exact ax_le.rf _
  | lload k =>
    obtain ⟨_, _, _, h0⟩ := ax_rl_of hu
    cases h0
    exact ax_le.rf _
  | aload k =>
    obtain ⟨_, _, _, h0⟩ := ax_ra_of hu
    split at h0
    · cases h0; exact ax_le.rf _
    · cases h0
  | istore k =>
    obtain ⟨_, _, _, h0⟩ := ax_ri_of hu
    split at h0
    · cases h0; exact ax_le.rf _
    · cases h0
  | astore k =>
    obtain ⟨_, _, _, h0⟩ := ax_ra_of hu
    split at h0
    · cases h0; exact ax_le.rf _
    · cases h0
  | lstore k =>
    obtain ⟨_, _, _, h0⟩ := ax_rl_of hu
    split at h0
    · cases h0; exact ax_le.rf _
    · cases h0
  | iinc k n =>
    obtain ⟨_, _, _, h0⟩ := ax_ri_of hu
    cases h0
    exact ax_le.rf _
  | iadd =>
    obtain ⟨_, _, _, h0⟩ := ax_ri_of hu
    obtain ⟨_, _, _, h1⟩ := ax_ri_of h0
    cases h1
    exact ax_le.rf _
  | isub =>
    obtain ⟨_, _, _, h0⟩ := ax_ri_of hu
    obtain ⟨_, _, _, h1⟩ := ax_ri_of h0
    cases h1
    exact ax_le.rf _
  | imul =>
    obtain ⟨_, _, _, h0⟩ := ax_ri_of hu
    obtain ⟨_, _, _, h1⟩ := ax_ri_of h0
    cases h1
    exact ax_le.rf _
  | iand =>
    obtain ⟨_, _, _, h0⟩ := ax_ri_of hu
    obtain ⟨_, _, _, h1⟩ := ax_ri_of h0
    cases h1
    exact ax_le.rf _
  | ior =>
    obtain ⟨_, _, _, h0⟩ := ax_ri_of hu
    obtain ⟨_, _, _, h1⟩ := ax_ri_of h0
    cases h1
    exact ax_le.rf _
  | ixor =>
    obtain ⟨_, _, _, h0⟩ := ax_ri_of hu
    obtain ⟨_, _, _, h1⟩ := ax_ri_of h0
    cases h1
    exact ax_le.rf _
  | ishl =>
    obtain ⟨_, _, _, h0⟩ := ax_ri_of hu
    obtain ⟨_, _, _, h1⟩ := ax_ri_of h0
    cases h1
    exact ax_le.rf _
  | ishr =>
    obtain ⟨_, _, _, h0⟩ := ax_ri_of hu
    obtain ⟨_, _, _, h1⟩ := ax_ri_of h0
    cases h1
    exact ax_le.rf _
  | iushr =>
    obtain ⟨_, _, _, h0⟩ := ax_ri_of hu
    obtain ⟨_, _, _, h1⟩ := ax_ri_of h0
    cases h1
    exact ax_le.rf _
  | idiv =>
    obtain ⟨_, _, _, h0⟩ := ax_ri_of hu
    obtain ⟨_, _, _, h1⟩ := ax_ri_of h0
    split at h1
    · cases h1
    · cases h1; exact ax_le.rf _
  | irem =>
    obtain ⟨_, _, _, h0⟩ := ax_ri_of hu
    obtain ⟨_, _, _, h1⟩ := ax_ri_of h0
    split at h1
    · cases h1
    · cases h1; exact ax_le.rf _
  | ladd =>
    obtain ⟨_, _, _, h0⟩ := ax_rl_of hu
    obtain ⟨_, _, _, h1⟩ := ax_rl_of h0
    cases h1
    exact ax_le.rf _
  | lsub =>
    obtain ⟨_, _, _, h0⟩ := ax_rl_of hu
    obtain ⟨_, _, _, h1⟩ := ax_rl_of h0
    cases h1
    exact ax_le.rf _
  | lmul =>
    obtain ⟨_, _, _, h0⟩ := ax_rl_of hu
    obtain ⟨_, _, _, h1⟩ := ax_rl_of h0
    cases h1
    exact ax_le.rf _
  | land =>
    obtain ⟨_, _, _, h0⟩ := ax_rl_of hu
    obtain ⟨_, _, _, h1⟩ := ax_rl_of h0
    cases h1
    exact ax_le.rf _
  | lor =>
    obtain ⟨_, _, _, h0⟩ := ax_rl_of hu
    obtain ⟨_, _, _, h1⟩ := ax_rl_of h0
    cases h1
    exact ax_le.rf _
  | lcmp =>
    obtain ⟨_, _, _, h0⟩ := ax_rl_of hu
    obtain ⟨_, _, _, h1⟩ := ax_rl_of h0
    cases h1
    exact ax_le.rf _
  | lshl =>
    obtain ⟨_, _, _, h0⟩ := ax_ri_of hu
    obtain ⟨_, _, _, h1⟩ := ax_rl_of h0
    cases h1
    exact ax_le.rf _
  | lshr =>
    obtain ⟨_, _, _, h0⟩ := ax_ri_of hu
    obtain ⟨_, _, _, h1⟩ := ax_rl_of h0
    cases h1
    exact ax_le.rf _
  | ineg =>
    obtain ⟨_, _, _, h0⟩ := ax_ri_of hu
    cases h0
    exact ax_le.rf _
  | i2l =>
    obtain ⟨_, _, _, h0⟩ := ax_ri_of hu
    cases h0
    exact ax_le.rf _
  | i2b =>
    obtain ⟨_, _, _, h0⟩ := ax_ri_of hu
    cases h0
    exact ax_le.rf _
  | i2s =>
    obtain ⟨_, _, _, h0⟩ := ax_ri_of hu
    cases h0
    exact ax_le.rf _
  | i2c =>
    obtain ⟨_, _, _, h0⟩ := ax_ri_of hu
    cases h0
    exact ax_le.rf _
  | l2i =>
    obtain ⟨_, _, _, h0⟩ := ax_rl_of hu
    cases h0
    exact ax_le.rf _
  | dup =>
    obtain ⟨_, _, _, h0⟩ := ax_rv_of hu
    split at h0
    · cases h0; exact ax_le.rf _
    · cases h0
  | dup2 =>
    obtain ⟨_, _, _, h0⟩ := ax_rv_of hu
    obtain ⟨_, _, _, h1⟩ := ax_rv_of h0
    split at h1
    · cases h1; exact ax_le.rf _
    · cases h1
  | pop =>
    obtain ⟨_, _, _, h0⟩ := ax_rv_of hu
    split at h0
    · cases h0; exact ax_le.rf _
    · cases h0
  | goto t =>
    rw [ax_step] at hu
    split at hu
    · cases hu; exact ax_le.rf _
    · cases hu
  | if_icmp q t =>
    obtain ⟨_, _, _, h0⟩ := ax_ri_of hu
    obtain ⟨_, _, _, h1⟩ := ax_ri_of h0
    split at h1
    · cases h1; exact ax_le.rf _
    · cases h1
  | ifCond q t =>
    obtain ⟨_, _, _, h0⟩ := ax_ri_of hu
    split at h0
    · cases h0; exact ax_le.rf _
    · cases h0
  | tableswitch a b c d =>
    obtain ⟨_, _, _, h0⟩ := ax_ri_of hu
    split at h0
    · cases h0; exact ax_le.rf _
    · cases h0
  | _ => cases hu
theorem ax_run_of {H : Type} {O : ax_O H} {n d m pc : Nat} {L st : List Value} {h : H} {w : Option Value × H} (e : ax_run O (n + 1) d m pc L st h = some w) : ∃ q, ax_code m pc = some q ∧
    ((ax_kd q.1 = 1 ∧ ∃ r v, ax_row m = some r ∧ ax_ret r.2.2.2.1 q.1 st = some v ∧ w = (v, h)) ∨
    (ax_kd q.1 = 2 ∧ ∃ d' c u, d = d' + 1 ∧ ax_cal O q.1 st h = some c ∧ (c.2.2.map fun v => v.category).sum ≤ 8 ∧ (ax_sl c.2.1).length ≤ (ax_M[c.1]?.map fun r => r.2.2.1).getD 0 ∧ ax_run O n d' c.1 0 (ax_ent c.2.1 ((ax_M[c.1]?.map fun r => r.2.2.1).getD 0)) [] h = some u ∧ ax_run O n (d' + 1) m q.2 L (u.1.toList ++ c.2.2) u.2 = some w) ∨
    (ax_kd q.1 ≠ 1 ∧ ax_kd q.1 ≠ 2 ∧ ∃ u, ax_step O q.1 q.2 L st h = some u ∧ ax_run O n d m u.1 u.2.1 u.2.2.1 u.2.2.2 = some w)) := by
  rw [ax_run] at e
  cases hq : ax_code m pc with
  | none => rw [hq] at e; cases e
  | some q =>
    rw [hq] at e
    simp only at e
    refine ⟨q, rfl, ?_⟩
    split at e
    · rename_i hk
      obtain ⟨v, hv, e1⟩ := Option.map_eq_some_iff.mp e
      obtain ⟨r, hr, hv2⟩ := Option.bind_eq_some_iff.mp hv
      exact Or.inl ⟨hk, r, v, hr, hv2, e1.symm⟩
    · rename_i hk
      cases d with
      | zero => cases e
      | succ d' =>
        simp only at e
        cases hc : ax_cal O q.1 st h with
        | none => rw [hc] at e; cases e
        | some c =>
          rw [hc] at e
          simp only at e
          split at e
          · rename_i h8
            cases hu : ax_run O n d' c.1 0 (ax_ent c.2.1 ((ax_M[c.1]?.map fun r => r.2.2.1).getD 0)) [] h with
            | none => rw [hu] at e; cases e
            | some u =>
              rw [hu] at e
              exact Or.inr (Or.inl ⟨hk, d', c, u, rfl, rfl, h8.1, h8.2, hu, e⟩)
          · cases e
    · rename_i hk1 hk2
      cases hu : ax_step O q.1 q.2 L st h with
      | none => rw [hu] at e; cases e
      | some u =>
        rw [hu] at e
        exact Or.inr (Or.inr ⟨hk1, hk2, u, rfl, e⟩)
theorem ax_run_le {xs : Nat → Int32} {k : Nat} (n : Nat) : ∀ (d m pc : Nat) (L st : List Value) (h : ax_H) (w : Option Value × ax_H), ax_run (ax_lO xs k) n d m pc L st h = some w → ax_le h w.2 := by
  induction n with
  | zero => intro d m pc L st h w e; cases e
  | succ n ih =>
    intro d m pc L st h w e
    obtain ⟨q, -, h1⟩ := ax_run_of e
    rcases h1 with ⟨-, r, v, -, -, rfl⟩ | ⟨-, d', c, u, -, -, -, -, e1, e2⟩ | ⟨-, -, u, e1, e2⟩
    · exact ax_le.rf _
    · exact (ih _ _ _ _ _ _ _ e1).tr (ih _ _ _ _ _ _ _ e2)
    · exact (ax_step_le e1).tr (ih _ _ _ _ _ _ _ e2)
