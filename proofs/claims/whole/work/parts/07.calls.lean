/-! calls: which there are, their words, how a method begins-/
theorem ax_code_of {m pc : Nat} {q : Instr × Nat} (h : ax_code m pc = some q) : ∃ r I len, ax_row m = some r ∧ decode r.2.1 pc = .ok (I, len) ∧ (ax_ln I = 0 ∨ ax_ln I = len) ∧ ax_nrm r.2.2.2.2.1 pc I = some q.1 ∧ ax_fin r q.1 = true ∧ q.2 = pc + len := by
  unfold ax_code at h
  split at h
  · cases h
  · rename_i r hr
    split at h
    · rename_i w hw
      split at h
      · rename_i hl
        split at h
        · rename_i J hJ
          split at h
          · rename_i hf
            cases h
            exact ⟨r, w.1, w.2, hr, hw, hl, hJ, hf, rfl⟩
          · cases h
        · cases h
      · cases h
    · cases h
set_option maxHeartbeats 4000000 in
theorem ax_nrm_ret {oc pc : Nat} {I J : Instr} (hJ : ax_nrm oc pc I = some J) (hk : ax_kd J = 1) : I = J ∧ ax_ln I = 1 := by
  cases I <;> first
    | (cases hJ; done)
    | (cases hJ; cases hk; done)
    | (cases hJ; exact ⟨rfl, rfl⟩)
    | (rw [ax_nrm] at hJ
       obtain ⟨q, hq, rfl⟩ := Option.map_eq_some_iff.mp hJ
       cases hk)
    | (rw [ax_nrm] at hJ
       obtain ⟨q, hq, h9⟩ := Option.bind_eq_some_iff.mp hJ
       split at h9 <;> first | (cases h9; cases hk; done) | (cases h9; done))
    | (rw [ax_nrm] at hJ
       split at hJ
       · cases hJ
         cases hk
       · first
           | (obtain ⟨q, hq, rfl⟩ := Option.map_eq_some_iff.mp hJ
              cases hk; done)
           | (split at hJ
              · cases hJ
                cases hk
              · obtain ⟨q, hq, h9⟩ := Option.bind_eq_some_iff.mp hJ
                split at h9 <;> first | (cases h9; cases hk; done) | (cases h9; done)))
/-- which calls there are: of a method that the class links, of a nest mate's -/
def ax_Ck (oc : Nat) (I J : Instr) : Prop := (∃ i M w, I = .invokestatic i ∧ J = .invokestatic M ∧ (ax_lq ax_Tm oc i = some (M, w) ∨ ax_lq ax_Tn oc i = some (M, w))) ∨ (∃ i M w, I = .invokevirtual i ∧ J = .invokevirtual M ∧ ax_lq ax_Tm oc i = some (M, w)) ∨ (∃ i M w, I = .invokespecial i ∧ J = .invokespecial M ∧ (ax_lq ax_Tm oc i = some (M, w) ∨ ax_lq ax_Tn oc i = some (M, w)))
set_option maxHeartbeats 4000000 in
theorem ax_nrm_call {oc pc : Nat} {I J : Instr} (hJ : ax_nrm oc pc I = some J) (hk : ax_kd J = 2) : ax_Ck oc I J := by
  cases I with
  | invokestatic i =>
    rw [ax_nrm] at hJ
    split at hJ
    · rename_i q hq
      cases hJ
      exact Or.inl ⟨i, q.1, q.2, rfl, rfl, Or.inl hq⟩
    · split at hJ
      · rename_i q hq
        cases hJ
        exact Or.inl ⟨i, q.1, q.2, rfl, rfl, Or.inr hq⟩
      · obtain ⟨q, hq, h9⟩ := Option.bind_eq_some_iff.mp hJ
        split at h9 <;> first | (cases h9; cases hk; done) | (cases h9; done)
  | invokevirtual i =>
    rw [ax_nrm] at hJ
    obtain ⟨q, hq, rfl⟩ := Option.map_eq_some_iff.mp hJ
    exact Or.inr (Or.inl ⟨i, q.1, q.2, rfl, rfl, hq⟩)
  | invokespecial i =>
    rw [ax_nrm] at hJ
    split at hJ
    · rename_i q hq
      cases hJ
      exact Or.inr (Or.inr ⟨i, q.1, q.2, rfl, rfl, Or.inl hq⟩)
    · split at hJ
      · rename_i q hq
        cases hJ
        exact Or.inr (Or.inr ⟨i, q.1, q.2, rfl, rfl, Or.inr hq⟩)
      · obtain ⟨q, hq, h9⟩ := Option.bind_eq_some_iff.mp hJ
        split at h9 <;> first | (cases h9; cases hk; done) | (cases h9; done)
  | _ => first
    | (cases hJ; done)
    | (cases hJ; cases hk; done)
    | (rw [ax_nrm] at hJ
       obtain ⟨q, hq, rfl⟩ := Option.map_eq_some_iff.mp hJ
       cases hk; done)
    | (rw [ax_nrm] at hJ
       obtain ⟨q, hq, h9⟩ := Option.bind_eq_some_iff.mp hJ
       split at h9 <;> first | (cases h9; cases hk; done) | (cases h9; done))
    | (rw [ax_nrm] at hJ
       split at hJ
       · cases hJ
         cases hk
       · first
           | (obtain ⟨q, hq, rfl⟩ := Option.map_eq_some_iff.mp hJ
              cases hk; done)
           | (split at hJ
              · cases hJ
                cases hk
              · obtain ⟨q, hq, h9⟩ := Option.bind_eq_some_iff.mp hJ
                split at h9 <;> first | (cases h9; cases hk; done) | (cases h9; done)))
theorem ax_M_len : ax_M.length = ax_law := by decide +kernel
theorem ax_row_of {M : Nat} {r : ax_R} (h : ax_M[M]? = some r) : ax_row M = some r := by
  have hl : M < ax_M.length := (List.getElem?_eq_some_iff.mp h).1
  unfold ax_row
  rw [if_neg (by rw [ax_M_len] at hl; omega), h]
theorem ax_Tm_of {oc i M w : Nat} (h : ax_lq ax_Tm oc i = some (M, w)) : ∃ r, ax_M[M]? = some r ∧ Jvm.Cond.methodLink (ax_cn oc) i r.1 ∈ ax_TB := by
  obtain ⟨h1, h2, h3⟩ := ax_lq_of h
  have k := List.all_eq_true.mp ax_Tm_b _ h1
  unfold ax_bm at k
  rw [h2, h3] at k
  split at k
  · rename_i c hc
    simp only [decide_eq_true_eq] at k
    exact ⟨c, hc, ax_in k rfl⟩
  · cases k
theorem ax_Tn_of {oc i M w : Nat} (h : ax_lq ax_Tn oc i = some (M, w)) : ∃ r, ax_M[M]? = some r ∧ Jvm.Cond.methodLinkNest (ax_cn oc) i r.1 "CakeCards" ∈ lw_tbl := by
  obtain ⟨h1, h2, h3⟩ := ax_lq_of h
  have k := List.all_eq_true.mp ax_Tn_b _ h1
  unfold ax_bn at k
  rw [h2, h3] at k
  split at k
  · rename_i c hc
    simp only [decide_eq_true_eq] at k
    exact ⟨c, hc, ax_w_in k⟩
  · cases k
theorem ax_good {ws : List Jvm.Cond} (h : ∀ w ∈ ws, w ∈ ax_TB) : GoodIn ax_TB ws := fun w hw => ⟨h w hw, good_of_word (List.mem_filter.mp (h w hw)).2⟩
def ax_ws (r : ax_R) : List Jvm.Cond := Jvm.Cond.code r.1 r.2.1 r.2.2.1 r.2.2.2.1 :: ax_TB
theorem ax_ws_in {r : ax_R} (h : ax_okM r) : ∀ w ∈ ax_ws r, w ∈ ax_TB := by
  intro w hw
  rcases List.mem_cons.mp hw with e | e
  · rw [e]
    exact ax_in h.1 rfl
  · exact e
def ax_rm (d : Nat) (h h' : ax_H) : Room := { frames := d + 6, cells := h'.length - h.length, slots := ax_sz h' - ax_sz h, locals := 60 * (d + 8) }
def ax_Wd (g : ax_G) (h : ax_H) (U : State) : Prop := ax_E g U ∧ va_P g.2.1 vwCl (ax_wl g h) U.heap ∧ U.heap.size = g.1 + h.length ∧ h.length ≤ 1000
def ax_Qc (g : ax_G) (rr : Option Value) (h' : ax_H) : State → Outcome → State → Prop := fun st oc t => oc = .returned (rr.map (ax_vv g)) ∧ va_P g.2.1 vwCl (ax_wl g h') t.heap ∧ h'.length ≤ 1000 ∧ va_F (ax_A g) st t
theorem ax_Wd.blind (g : ax_G) (h : ax_H) (as : List Value) : FrameBlind (va_Pc as (ax_Wd g h)) := fun _ U gg mk q => ⟨q.1, ax_E.eq (u := U) rfl rfl q.2.1, q.2.2.1, q.2.2.2.1, q.2.2.2.2⟩
theorem ax_sl_args (g : ax_G) : ∀ (as : List Value) (k i : Nat) (v : Value), (ax_sl as)[i]? = some v → v ≠ .null → (k + i, ax_vv g v) ∈ lv_args k (as.map (ax_vv g))
  | [], k, i, v, h, hn => by simp [ax_sl] at h
  | a :: as, k, i, v, h, hn => by
    rw [ax_sl] at h
    rw [List.map_cons, lv_args, ax_vv_cat]
    split at h
    · rename_i hc
      match i, h with
      | 0, h =>
        cases h
        exact List.mem_cons_self
      | 1, h =>
        cases h
        exact absurd rfl hn
      | i + 2, h =>
        have k1 := ax_sl_args g as (k + 2) i v (by simpa using h) hn
        rw [if_pos hc]
        rw [show k + (i + 2) = k + 2 + i by omega]
        exact List.mem_cons_of_mem _ k1
    · rename_i hc
      match i, h with
      | 0, h =>
        cases h
        exact List.mem_cons_self
      | i + 1, h =>
        have k1 := ax_sl_args g as (k + 1) i v (by simpa using h) hn
        rw [if_neg hc]
        rw [show k + (i + 1) = k + 1 + i by omega]
        exact List.mem_cons_of_mem _ k1
theorem ax_sl_len (g : ax_G) : ∀ (as : List Value), (lg_sl (as.map (ax_vv g))).length = (ax_sl as).length
  | [] => rfl
  | a :: as => by
    have k := ax_sl_len g as
    rw [List.map_cons, ax_sl]
    unfold lg_sl at k ⊢
    rw [List.flatMap_cons, List.length_append, k, ax_vv_cat]
    split <;> simp <;> omega
theorem ax_entry (g : ax_G) {as : List Value} {n : Nat} (h : (ax_sl as).length ≤ n) : ax_LL g ((lg_sl (as.map (ax_vv g)) ++ List.replicate (n - (lg_sl (as.map (ax_vv g))).length) Slot.unset).toArray) n (ax_ent as n) := by
  obtain ⟨h1, h2, h3⟩ := lv_entry (as.map (ax_vv g)) (n := n) (by rw [ax_sl_len]; exact h)
  refine ⟨h1, h2, by unfold ax_ent; rw [List.length_append, List.length_replicate]; omega, fun i v hv hn => ?_⟩
  unfold ax_ent at hv
  rw [List.getElem?_append] at hv
  split at hv
  · have k := h3 _ (ax_sl_args g as 0 i v hv hn)
    simpa using k
  · rw [List.getElem?_replicate] at hv
    split at hv
    · cases hv
      exact absurd rfl hn
    · cases hv
