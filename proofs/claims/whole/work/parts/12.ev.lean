/-! WITHOUT FUEL: what a body comes to, as equations -/
theorem ax_run_mono {H : Type} {O : ax_O H} (n : Nat) : ∀ (d m pc : Nat) (L st : List Value) (h : H) (w : Option Value × H), ax_run O n d m pc L st h = some w → ax_run O (n + 1) d m pc L st h = some w := by
  induction n with
  | zero => intro d m pc L st h w e; cases e
  | succ n ih =>
    intro d m pc L st h w e
    obtain ⟨q, hq, h1⟩ := ax_run_of e
    rw [ax_run, hq]
    simp only
    rcases h1 with ⟨hk, r, v, hr, hret, rfl⟩ | ⟨hk, d', c, u, rfl, hc, h8, hl, e1, e2⟩ | ⟨hk1, hk2, u, e1, e2⟩
    · rw [hk]
      simp only
      rw [hr, Option.bind_some, hret]
      rfl
    · rw [hk]
      simp only
      rw [hc]
      simp only
      rw [if_pos ⟨h8, hl⟩, ih _ _ _ _ _ _ _ e1]
      exact ih _ _ _ _ _ _ _ e2
    · have hk0 : ax_kd q.1 = 0 := by
        rcases ax_kd_3 q.1 with k | k | k
        · exact k
        · exact absurd k hk1
        · exact absurd k hk2
      rw [hk0]
      simp only
      rw [e1]
      exact ih _ _ _ _ _ _ _ e2
theorem ax_run_more {H : Type} {O : ax_O H} {n k d m pc : Nat} {L st : List Value} {h : H} {w : Option Value × H} (e : ax_run O n d m pc L st h = some w) : ax_run O (n + k) d m pc L st h = some w := by
  induction k with
  | zero => exact e
  | succ k ih => exact ax_run_mono _ _ _ _ _ _ _ _ ih
theorem ax_run_one {H : Type} {O : ax_O H} {n k d m pc : Nat} {L st : List Value} {h : H} {w z : Option Value × H} (e : ax_run O n d m pc L st h = some w) (f : ax_run O k d m pc L st h = some z) : w = z := by
  have e1 := ax_run_more (k := k) e
  have f1 := ax_run_more (k := n) f
  rw [Nat.add_comm] at f1
  exact Option.some.inj (e1.symm.trans f1)
noncomputable def ev {H : Type} (O : ax_O H) (d m pc : Nat) (L st : List Value) (h : H) : Option (Option Value × H) := @dite _ (∃ w n, ax_run O n d m pc L st h = some w) (Classical.propDecidable _) (fun e => some (Classical.choose e)) (fun _ => none)
theorem ev_iff {H : Type} {O : ax_O H} {d m pc : Nat} {L st : List Value} {h : H} {w : Option Value × H} : ev O d m pc L st h = some w ↔ ∃ n, ax_run O n d m pc L st h = some w := by
  unfold ev
  constructor
  · intro e
    split at e
    · rename_i q
      obtain ⟨n, hn⟩ := Classical.choose_spec q
      exact ⟨n, by rw [hn]; exact e⟩
    · cases e
  · rintro ⟨n, hn⟩
    have q : ∃ w n, ax_run O n d m pc L st h = some w := ⟨w, n, hn⟩
    rw [dif_pos q]
    obtain ⟨k, hk⟩ := Classical.choose_spec q
    rw [ax_run_one hk hn]
theorem ev_ext {α : Type} {x y : Option α} (h : ∀ w, x = some w ↔ y = some w) : x = y := by
  cases x with
  | none =>
    cases y with
    | none => rfl
    | some w => exact absurd ((h w).mpr rfl) (by simp)
  | some v => exact ((h v).mp rfl).symm
section EV
variable {H : Type} {O : ax_O H} {d m pc pc' : Nat} {L L' st st' : List Value} {h h' : H} {J : Instr}
theorem E_step {u : Nat × List Value × List Value × H} (hc : ax_code m pc = some (J, pc')) (hk : ax_kd J = 0) (hs : ax_step O J pc' L st h = some u) : ev O d m pc L st h = ev O d m u.1 u.2.1 u.2.2.1 u.2.2.2 := by
  refine ev_ext (fun w => ?_)
  rw [ev_iff, ev_iff]
  constructor
  · rintro ⟨n, hn⟩
    cases n with
    | zero => cases hn
    | succ n =>
      obtain ⟨q, hq, h1⟩ := ax_run_of hn
      cases hq.symm.trans hc
      rcases h1 with ⟨hk2, -⟩ | ⟨hk2, -⟩ | ⟨-, -, u2, e1, e2⟩
      · rw [hk] at hk2; cases hk2
      · rw [hk] at hk2; cases hk2
      · cases e1.symm.trans hs
        exact ⟨n, e2⟩
  · rintro ⟨n, hn⟩
    refine ⟨n + 1, ?_⟩
    rw [ax_run, hc]
    simp only
    rw [hk]
    simp only
    rw [hs]
    exact hn
theorem E_none (hc : ax_code m pc = some (J, pc')) (hk : ax_kd J = 0) (hs : ax_step O J pc' L st h = none) : ev O d m pc L st h = none := by
  cases he : ev O d m pc L st h with
  | none => rfl
  | some w =>
    obtain ⟨n, hn⟩ := ev_iff.mp he
    cases n with
    | zero => cases hn
    | succ n =>
      obtain ⟨q, hq, h1⟩ := ax_run_of hn
      cases hq.symm.trans hc
      rcases h1 with ⟨hk2, -⟩ | ⟨hk2, -⟩ | ⟨-, -, u2, e1, e2⟩
      · rw [hk] at hk2; cases hk2
      · rw [hk] at hk2; cases hk2
      · cases e1.symm.trans hs
theorem E_ret {r : ax_R} {v : Option Value} (hc : ax_code m pc = some (J, pc')) (hk : ax_kd J = 1) (hr : ax_row m = some r) (hv : ax_ret r.2.2.2.1 J st = some v) : ev O d m pc L st h = some (v, h) := by
  rw [ev_iff]
  refine ⟨1, ?_⟩
  rw [ax_run, hc]
  simp only
  rw [hk]
  simp only
  rw [hr, Option.bind_some, hv]
  rfl
theorem E_call {c : Nat × List Value × List Value} {mx : Nat} (hc : ax_code m pc = some (J, pc')) (hk : ax_kd J = 2) (hcal : ax_cal O J st h = some c) (h8 : (c.2.2.map fun v => v.category).sum ≤ 8) (hmx : (ax_M[c.1]?.map fun r => r.2.2.1).getD 0 = mx) (hl : (ax_sl c.2.1).length ≤ mx) : ev O (d + 1) m pc L st h = (ev O d c.1 0 (ax_ent c.2.1 mx) [] h).bind fun u => ev O (d + 1) m pc' L (u.1.toList ++ c.2.2) u.2 := by
  subst hmx
  refine ev_ext (fun w => ?_)
  rw [ev_iff, Option.bind_eq_some_iff]
  constructor
  · rintro ⟨n, hn⟩
    cases n with
    | zero => cases hn
    | succ n =>
      obtain ⟨q, hq, h1⟩ := ax_run_of hn
      cases hq.symm.trans hc
      rcases h1 with ⟨hk2, -⟩ | ⟨-, d', c2, u, e0, hc2, -, -, e1, e2⟩ | ⟨-, hk2, -⟩
      · rw [hk] at hk2; cases hk2
      · cases e0
        cases hc2.symm.trans hcal
        exact ⟨u, ev_iff.mpr ⟨n, e1⟩, ev_iff.mpr ⟨n, e2⟩⟩
      · exact absurd hk hk2
  · rintro ⟨u, e1, e2⟩
    obtain ⟨n1, h1⟩ := ev_iff.mp e1
    obtain ⟨n2, h2⟩ := ev_iff.mp e2
    refine ⟨n1 + n2 + 1, ?_⟩
    rw [ax_run, hc]
    simp only
    rw [hk]
    simp only
    rw [hcal]
    simp only
    rw [if_pos ⟨h8, hl⟩, ax_run_more (k := n2) h1]
    have h3 := ax_run_more (k := n1) h2
    rw [Nat.add_comm] at h3
    exact h3
/-! what a method answers is of its kind -/
def ax_vk (rt : Option FieldType) (v : Option Value) : Prop := match rt, v with
  | none, none => True
  | some .long, some (.long _) => True
  | some (.object _), some (.ref _) => True
  | some .int, some (.int _) => True
  | some .boolean, some (.int _) => True
  | some .byte, some (.int _) => True
  | some .char, some (.int _) => True
  | _, _ => False
theorem ax_ret_vk {rt : Option FieldType} {v : Option Value} (e : ax_ret rt J st = some v) : ax_vk rt v := by
  cases J with
  | ireturn =>
    cases rt with
    | none => cases e
    | some ty =>
      cases ty with
      | int =>
        obtain ⟨x, r1, rfl, h1⟩ := ax_ri_of e
        split at h1
        · cases h1; trivial
        · cases h1
      | boolean =>
        obtain ⟨x, r1, rfl, h1⟩ := ax_ri_of e
        split at h1
        · cases h1; trivial
        · cases h1
      | byte =>
        obtain ⟨x, r1, rfl, h1⟩ := ax_ri_of e
        split at h1
        · cases h1; trivial
        · cases h1
      | char =>
        obtain ⟨x, r1, rfl, h1⟩ := ax_ri_of e
        split at h1
        · cases h1; trivial
        · cases h1
      | _ => cases e
  | lreturn =>
    cases rt with
    | none => cases e
    | some ty =>
      cases ty with
      | long =>
        obtain ⟨x, r1, rfl, h1⟩ := ax_rl_of e
        split at h1
        · cases h1; trivial
        · cases h1
      | _ => cases e
  | areturn =>
    cases rt with
    | none => cases e
    | some ty =>
      cases ty with
      | object nm =>
        obtain ⟨x, r1, rfl, h1⟩ := ax_ra_of e
        split at h1
        · cases h1; trivial
        · cases h1
      | _ => cases e
  | return_ =>
    cases rt with
    | none =>
      have e : (if st = [] then some (none : Option Value) else none) = some v := e
      split at e
      · cases e; trivial
      · cases e
    | some ty => cases e
  | _ => cases e
theorem ev_vk {r : ax_R} (hr : ax_row m = some r) {w : Option Value × H} (e : ev O d m pc L st h = some w) : ax_vk r.2.2.2.1 w.1 := by
  obtain ⟨n, hn⟩ := ev_iff.mp e
  clear e
  induction n generalizing d pc L st h with
  | zero => cases hn
  | succ n ih =>
    obtain ⟨q, hq, h1⟩ := ax_run_of hn
    rcases h1 with ⟨hk, r2, v, hr2, hret, rfl⟩ | ⟨-, d', c, u, rfl, -, -, -, e1, e2⟩ | ⟨-, -, u, e1, e2⟩
    · cases hr.symm.trans hr2
      exact ax_ret_vk hret
    · exact ih e2
    · exact ih e2
/-- a call that answers an int, a long, nothing, a reference -/
noncomputable def cI (O : ax_O H) (d M : Nat) (as : List Value) (h : H) : Option (Int32 × H) := (ev O d M 0 (ax_ent as ((ax_M[M]?.map fun r => r.2.2.1).getD 0)) [] h).bind fun u => match u.1 with
  | some (.int x) => some (x, u.2)
  | _ => none
noncomputable def cL (O : ax_O H) (d M : Nat) (as : List Value) (h : H) : Option (Int64 × H) := (ev O d M 0 (ax_ent as ((ax_M[M]?.map fun r => r.2.2.1).getD 0)) [] h).bind fun u => match u.1 with
  | some (.long x) => some (x, u.2)
  | _ => none
noncomputable def cV (O : ax_O H) (d M : Nat) (as : List Value) (h : H) : Option H := (ev O d M 0 (ax_ent as ((ax_M[M]?.map fun r => r.2.2.1).getD 0)) [] h).bind fun u => match u.1 with
  | none => some u.2
  | _ => none
noncomputable def cR (O : ax_O H) (d M : Nat) (as : List Value) (h : H) : Option (Nat × H) := (ev O d M 0 (ax_ent as ((ax_M[M]?.map fun r => r.2.2.1).getD 0)) [] h).bind fun u => match u.1 with
  | some (.ref x) => some (x, u.2)
  | _ => none
def ax_ik (rt : Option FieldType) : Bool := match rt with
  | some .int => true
  | some .boolean => true
  | some .byte => true
  | some .char => true
  | _ => false
theorem ax_vk_i {rt : Option FieldType} {v : Option Value} (h : ax_vk rt v) (hi : ax_ik rt = true) : ∃ x, v = some (.int x) := by
  unfold ax_vk at h
  split at h <;> first | exact ⟨_, rfl⟩ | cases hi | exact absurd h id
theorem E_callI {r : ax_R} {c : Nat × List Value × List Value} {mx : Nat} (hc : ax_code m pc = some (J, pc')) (hk : ax_kd J = 2) (hcal : ax_cal O J st h = some c) (h8 : (c.2.2.map fun v => v.category).sum ≤ 8) (hr : ax_M[c.1]? = some r) (hi : ax_ik r.2.2.2.1 = true) (hl : (ax_sl c.2.1).length ≤ r.2.2.1) : ev O (d + 1) m pc L st h = (cI O d c.1 c.2.1 h).bind fun u => ev O (d + 1) m pc' L (.int u.1 :: c.2.2) u.2 := by
  rw [E_call (mx := r.2.2.1) hc hk hcal h8 (by rw [hr]; rfl) hl]
  unfold cI
  rw [hr]
  show (ev O d c.1 0 (ax_ent c.2.1 r.2.2.1) [] h).bind _ = ((ev O d c.1 0 (ax_ent c.2.1 r.2.2.1) [] h).bind _).bind _
  cases he : ev O d c.1 0 (ax_ent c.2.1 r.2.2.1) [] h with
  | none => rfl
  | some w =>
    obtain ⟨x, hx⟩ := ax_vk_i (ev_vk (ax_row_of hr) he) hi
    simp only [Option.bind_some, hx]
    rfl
theorem E_callL {r : ax_R} {c : Nat × List Value × List Value} (hc : ax_code m pc = some (J, pc')) (hk : ax_kd J = 2) (hcal : ax_cal O J st h = some c) (h8 : (c.2.2.map fun v => v.category).sum ≤ 8) (hr : ax_M[c.1]? = some r) (hi : r.2.2.2.1 = some .long) (hl : (ax_sl c.2.1).length ≤ r.2.2.1) : ev O (d + 1) m pc L st h = (cL O d c.1 c.2.1 h).bind fun u => ev O (d + 1) m pc' L (.long u.1 :: c.2.2) u.2 := by
  rw [E_call (mx := r.2.2.1) hc hk hcal h8 (by rw [hr]; rfl) hl]
  unfold cL
  rw [hr]
  show (ev O d c.1 0 (ax_ent c.2.1 r.2.2.1) [] h).bind _ = ((ev O d c.1 0 (ax_ent c.2.1 r.2.2.1) [] h).bind _).bind _
  cases he : ev O d c.1 0 (ax_ent c.2.1 r.2.2.1) [] h with
  | none => rfl
  | some w =>
    have hx := ev_vk (ax_row_of hr) he
    rw [hi] at hx
    obtain ⟨v, h2⟩ := w
    cases v with
    | none => exact absurd hx id
    | some v =>
      cases v with
      | long x => rfl
      | _ => exact absurd hx id
theorem E_callV {r : ax_R} {c : Nat × List Value × List Value} (hc : ax_code m pc = some (J, pc')) (hk : ax_kd J = 2) (hcal : ax_cal O J st h = some c) (h8 : (c.2.2.map fun v => v.category).sum ≤ 8) (hr : ax_M[c.1]? = some r) (hi : r.2.2.2.1 = none) (hl : (ax_sl c.2.1).length ≤ r.2.2.1) : ev O (d + 1) m pc L st h = (cV O d c.1 c.2.1 h).bind fun u => ev O (d + 1) m pc' L c.2.2 u := by
  rw [E_call (mx := r.2.2.1) hc hk hcal h8 (by rw [hr]; rfl) hl]
  unfold cV
  rw [hr]
  show (ev O d c.1 0 (ax_ent c.2.1 r.2.2.1) [] h).bind _ = ((ev O d c.1 0 (ax_ent c.2.1 r.2.2.1) [] h).bind _).bind _
  cases he : ev O d c.1 0 (ax_ent c.2.1 r.2.2.1) [] h with
  | none => rfl
  | some w =>
    have hx := ev_vk (ax_row_of hr) he
    rw [hi] at hx
    obtain ⟨v, h2⟩ := w
    cases v with
    | none => rfl
    | some v => exact absurd hx id
theorem E_callR {r : ax_R} {c : Nat × List Value × List Value} {nm : String} (hc : ax_code m pc = some (J, pc')) (hk : ax_kd J = 2) (hcal : ax_cal O J st h = some c) (h8 : (c.2.2.map fun v => v.category).sum ≤ 8) (hr : ax_M[c.1]? = some r) (hi : r.2.2.2.1 = some (.object nm)) (hl : (ax_sl c.2.1).length ≤ r.2.2.1) : ev O (d + 1) m pc L st h = (cR O d c.1 c.2.1 h).bind fun u => ev O (d + 1) m pc' L (.ref u.1 :: c.2.2) u.2 := by
  rw [E_call (mx := r.2.2.1) hc hk hcal h8 (by rw [hr]; rfl) hl]
  unfold cR
  rw [hr]
  show (ev O d c.1 0 (ax_ent c.2.1 r.2.2.1) [] h).bind _ = ((ev O d c.1 0 (ax_ent c.2.1 r.2.2.1) [] h).bind _).bind _
  cases he : ev O d c.1 0 (ax_ent c.2.1 r.2.2.1) [] h with
  | none => rfl
  | some w =>
    have hx := ev_vk (ax_row_of hr) he
    rw [hi] at hx
    obtain ⟨v, h2⟩ := w
    cases v with
    | none => exact absurd hx id
    | some v =>
      cases v with
      | ref x => rfl
      | _ => exact absurd hx id
/-- a call's answer, out of its body's -/
theorem cI_of {r : ax_R} {M : Nat} {as : List Value} {v : Int32} (hr : ax_M[M]? = some r) (hL : ax_ent as r.2.2.1 = L) (e : ev O d M 0 L [] h = some (some (.int v), h')) : cI O d M as h = some (v, h') := by
  unfold cI
  rw [hr]
  show (ev O d M 0 (ax_ent as r.2.2.1) [] h).bind _ = _
  rw [hL, e]
  rfl
theorem cL_of {r : ax_R} {M : Nat} {as : List Value} {v : Int64} (hr : ax_M[M]? = some r) (hL : ax_ent as r.2.2.1 = L) (e : ev O d M 0 L [] h = some (some (.long v), h')) : cL O d M as h = some (v, h') := by
  unfold cL
  rw [hr]
  show (ev O d M 0 (ax_ent as r.2.2.1) [] h).bind _ = _
  rw [hL, e]
  rfl
theorem cV_of {r : ax_R} {M : Nat} {as : List Value} (hr : ax_M[M]? = some r) (hL : ax_ent as r.2.2.1 = L) (e : ev O d M 0 L [] h = some (none, h')) : cV O d M as h = some h' := by
  unfold cV
  rw [hr]
  show (ev O d M 0 (ax_ent as r.2.2.1) [] h).bind _ = _
  rw [hL, e]
  rfl
theorem cR_of {r : ax_R} {M : Nat} {as : List Value} {v : Nat} (hr : ax_M[M]? = some r) (hL : ax_ent as r.2.2.1 = L) (e : ev O d M 0 L [] h = some (some (.ref v), h')) : cR O d M as h = some (v, h') := by
  unfold cR
  rw [hr]
  show (ev O d M 0 (ax_ent as r.2.2.1) [] h).bind _ = _
  rw [hL, e]
  rfl
end EV
