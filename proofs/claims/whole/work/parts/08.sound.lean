/-! THE SMALL MACHINE IS SOUND -/
def ax_Mt (g : ax_G) (l : Launch) (d : Nat) (r : ax_R) (as : List Value) (h : ax_H) (rr : Option Value) (h' : ax_H) : Prop :=
  Met l r.1 (ax_ws r) (ax_rm d h h') (va_Pc (as.map (ax_vv g)) (ax_Wd g h)) (fun _ => ax_Qc g rr h') (h'.length - h.length) (ax_sz h' - ax_sz h) (ax_A g)
section AXG
variable {g : ax_G} {p : Program} {l : Launch} {e : Env} {R : Room} {s : State} {mI : MethodId} {args : Array Value} {below : List Frame} {meth : Method} {c : Code} {d : Nat} {r : ax_R} {H : Heap} {locs : List Loc} {cells slots : Nat} {Q : State → Prop}
theorem ax_callk {mc ms pc : Nat} {ls : Array Slot} {st0 rest : List Value} {rr : Option Value} {h1 h : ax_H} (hr : va_Run p l e R s mI args below meth c H locs cells slots mc ms (F0 mI pc ls st0) rest (ax_Qc g rr h1) (ax_A g)) (hP : ax_P g h s H locs cells) (hmc : mc = h1.length - h.length) (hle : ax_le h h1)
    (kk : ∀ (H1 : Heap) (locs1 : List Loc), ax_P g h1 s H1 locs1 (cells + mc) → W p l e R s mI args below meth c H1 locs1 (cells + mc) (slots + ms) Q (F0 mI (pc + 3) ls ((rr.map (ax_vv g)).toList ++ rest))) : W p l e R s mI args below meth c H locs cells slots Q (F0 mI pc ls st0) := by
  intro T hT X
  obtain ⟨v, st₀, t, T', L, h0, X', hL, e1, e2, ⟨hv, hP1, hlen, hz, hk⟩, st⟩ := hr T hT X
  cases hv
  rw [h0] at hz hk
  have hS := hP.2.2.1
  obtain ⟨t2, a1, b1⟩ := kk T'.heap (locs ++ L) ⟨by rw [e1]; exact hP1, hlen, ⟨Nat.le_trans hS.1 (by rw [e1]; exact hz), fun q h1 h2 => by rw [e1, hk q (Nat.lt_of_lt_of_le h1 hS.1) h2]; exact hS.2.1 q h1 h2, fun q hq => by
      rcases List.mem_append.mp hq with h | h
      · exact hS.2.2 q h
      · exact hL q h⟩, by have e3 := hP.2.2.2.1; have e4 := hle.1; omega, hP.2.2.2.2⟩ T' rfl X'
  exact ⟨t2, st t2 a1, b1⟩
/-- an int that comes back narrowed to what the method answers -/
theorem ax_zret {Qc : Array Value → State → Outcome → State → Prop} {free : Addr → Prop} {cc : ByteArray} {v v' : Int32} {ty : FieldType} (hexec : p.tables.exec = Jvm.exec) (hb : c.code = cc) (hr : meth.sig.returnType = some ty) (hn : narrow ty (.int v) = .int v')
    (hq : ∀ t : State, t.heap = H → s.WarmedH t.vm → Qc args s (.returned (some (.int v'))) t) (hf : ∀ q ∈ locs, free q.base)
    {pc : Nat} {ls : Array Slot} (hdg : decode cc pc = .ok (.ireturn, 1)) (hlocks : meth.locks = false) : W p l e R s mI args below meth c H locs cells slots (MQ below Qc args s cells slots free) (F0 mI pc ls [.int v]) := by
  intro T hT X
  obtain ⟨fs, hret, hrun, hended, hW, hframe⟩ := X.leave (v := some (.int v')) (hlocks := hlocks) (fun h => by rw [hr] at h; cases h)
  have hmeth' : T.vm.method? mI = some meth := X.method'
  refine ⟨T.setFrames fs, ?_, .returned (some (.int v')), hrun, hended, hq _ hT hW, locs, ⟨⟨_, rfl⟩, hW, hframe⟩, hf⟩
  jvm_step X.here [X.here.top, hexec, hb, hdg, hmeth', hr, hn]
  (try refine ⟨rfl, ?_⟩); (try refine ⟨rfl, ?_⟩)
  first | (intro acts; rw [hret _ acts rfl rfl rfl]) | rw [hret _ _ rfl rfl rfl]
  exact Steps.refl _
/-- the end of a body, in the machine -/
theorem ax_end {d : Nat} (C : ax_K g p R s mI args meth c d r) {pc : Nat} {J : Instr} {st : List Value} {h : ax_H} {rr : Option Value} {ls : Array Slot} (hI : decode r.2.1 pc = .ok (J, 1)) (hr : ax_ret r.2.2.2.1 J st = some rr) (hP : ax_P g h s H locs cells) :
    W p l e R s mI args below meth c H locs cells slots (MQ below (fun _ => ax_Qc g rr h) args s cells slots (ax_A g)) (F0 mI pc ls (st.map (ax_vv g))) := by
  obtain ⟨hx, hb, hml, hown, hts, hE, hnm, hrt, hlk, hRf, hRl⟩ := C
  have post : ∀ (v : Option Value) (t : State), t.heap = H → v = rr.map (ax_vv g) → ax_Qc g rr h s (.returned v) t := fun v t ht hv => ⟨by rw [hv], by rw [ht]; exact hP.1, hP.2.1, hP.2.2.1.F ht⟩
  have hf : ∀ q ∈ locs, ax_A g q.base := hP.2.2.1.2.2
  cases J with
  | ireturn =>
    cases ht : r.2.2.2.1 with
    | none => rw [ht] at hr; cases hr
    | some ty =>
      rw [ht] at hr
      cases ty with
      | int =>
        obtain ⟨x, r1, rfl, h1⟩ := ax_ri_of hr
        split at h1
        · rename_i hr1
          subst hr1
          cases h1
          exact W.iret hx hb (hrt.trans ht) (fun t ht _ => post _ t ht rfl) hf hI hlk
        · cases h1
      | boolean =>
        obtain ⟨x, r1, rfl, h1⟩ := ax_ri_of hr
        split at h1
        · rename_i hr1
          subst hr1
          cases h1
          exact ax_zret hx hb (hrt.trans ht) rfl (fun t ht _ => post _ t ht rfl) hf hI hlk
        · cases h1
      | byte =>
        obtain ⟨x, r1, rfl, h1⟩ := ax_ri_of hr
        split at h1
        · rename_i hr1
          subst hr1
          cases h1
          exact ax_zret hx hb (hrt.trans ht) rfl (fun t ht _ => post _ t ht rfl) hf hI hlk
        · cases h1
      | char =>
        obtain ⟨x, r1, rfl, h1⟩ := ax_ri_of hr
        split at h1
        · rename_i hr1
          subst hr1
          cases h1
          exact ax_zret hx hb (hrt.trans ht) rfl (fun t ht _ => post _ t ht rfl) hf hI hlk
        · cases h1
      | _ => cases hr
  | lreturn =>
    cases ht : r.2.2.2.1 with
    | none => rw [ht] at hr; cases hr
    | some ty =>
      rw [ht] at hr
      cases ty with
      | long =>
        obtain ⟨x, r1, rfl, h1⟩ := ax_rl_of hr
        split at h1
        · rename_i hr1
          subst hr1
          cases h1
          exact W.lret hx hb (hrt.trans ht) (fun t ht _ => post _ t ht rfl) hf hI hlk
        · cases h1
      | _ => cases hr
  | areturn =>
    cases ht : r.2.2.2.1 with
    | none => rw [ht] at hr; cases hr
    | some ty =>
      rw [ht] at hr
      cases ty with
      | object nm =>
        obtain ⟨x, r1, rfl, h1⟩ := ax_ra_of hr
        split at h1
        · rename_i hr1
          obtain ⟨hr1, hx1⟩ := hr1
          subst hr1
          cases h1
          rw [List.map_cons, ax_vv_ref (by omega)]
          exact W.aret hx hb (hrt.trans ht) (Or.inl ⟨nm, rfl⟩) (Or.inr ⟨_, rfl⟩) (fun t ht _ => post _ t ht (by rw [Option.map_some, ax_vv_ref (by omega)])) hf hI hlk
        · cases h1
      | _ => cases hr
  | return_ =>
    cases ht : r.2.2.2.1 with
    | none =>
      rw [ht] at hr
      have hr : (if st = [] then some (none : Option Value) else none) = some rr := hr
      split at hr
      · rename_i hr1
        subst hr1
        cases hr
        exact W.vret hx hb (hrt.trans ht) (fun t ht _ => post _ t ht rfl) hf hI hlk
      · cases hr
    | some ty => rw [ht] at hr; cases hr
  | _ => cases hr
end AXG
