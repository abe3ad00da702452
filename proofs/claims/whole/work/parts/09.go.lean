/-! EVERY RUN of the small machine is one of the machine -/
def ax_Bd (g : ax_G) (l : Launch) (n : Nat) : Prop := ∀ (d m pc : Nat) (L st : List Value) (h : ax_H) (w : Option Value × ax_H), ax_run (ax_lO g.2.2.2.1.2.2 g.2.2.2.1.2.1) n d m pc L st h = some w → ∀ (r : ax_R), ax_row m = some r → ∀ {p : Program} {e : Env} {R : Room} {s : State} {mI : MethodId} {args : Array Value} {below : List Frame} {meth : Method} {c : Code} {H : Heap} {locs : List Loc} {cells slots : Nat} {Q : State → Prop} {ls : Array Slot}, ax_K g p R s mI args meth c d r → ax_P g h s H locs cells → ax_LL g ls r.2.2.1 L → cells + (w.2.length - h.length) ≤ R.cells → slots + (ax_sz w.2 - ax_sz h) ≤ R.slots →
  (∀ (pc1 : Nat) (J : Instr) (st1 : List Value) (H1 : Heap) (locs1 : List Loc) (ls1 : Array Slot), decode r.2.1 pc1 = .ok (J, 1) → ax_ret r.2.2.2.1 J st1 = some w.1 → ax_P g w.2 s H1 locs1 (cells + (w.2.length - h.length)) → W p l e R s mI args below meth c H1 locs1 (cells + (w.2.length - h.length)) (slots + (ax_sz w.2 - ax_sz h)) Q (F0 mI pc1 ls1 (st1.map (ax_vv g)))) →
  W p l e R s mI args below meth c H locs cells slots Q (F0 mI pc ls (st.map (ax_vv g)))
theorem ax_met {g : ax_G} {l : Launch} {n : Nat} (hB : ax_Bd g l n) {d M : Nat} {r : ax_R} {as : List Value} {h : ax_H} {w : Option Value × ax_H} (hM : ax_M[M]? = some r) (hl : (ax_sl as).length ≤ r.2.2.1) (hrun : ax_run (ax_lO g.2.2.2.1.2.2 g.2.2.2.1.2.1) n d M 0 (ax_ent as r.2.2.1) [] h = some w) : ax_Mt g l d r as h w.1 w.2 := by
  have ok := ax_M_ok (List.mem_of_getElem? hM)
  refine Met.ofW (cc := r.2.1) (maxL := r.2.2.1) (ret := r.2.2.2.1) ok.2.2.2.2.2.2.1 rfl ?_
  intro p e s m args below meth c s₁ B hml hv
  obtain ⟨rfl, hE, hP, hsz, hlen⟩ := hv
  have hts := atoms_spec (ws := ax_ws r) B.pre
  have hown : s.vm.findClass r.1.cls = some m.cls := findClass_of_methodNamed B.named
  have hnm : meth.name = r.1.name := (name_of_methodNamed B.named B.method).1
  rw [lg_entry_eq]
  have C : ax_K g p (headSpec (ax_ws r) (ax_rm d h w.2)).room s m (as.map (ax_vv g)).toArray meth c d r := ⟨B.exec, B.bytes, hml, by rw [ok.2.2.2.2.1]; exact hown, fun x hx => hts x (List.mem_cons_of_mem _ hx), hE, (fun hq => hnm.trans hq), B.returns, B.notSynchronized, Nat.le_refl _, Nat.le_refl _⟩
  refine hB d M 0 _ [] h w hrun r (ax_row_of hM) C ⟨hP, hlen, va_S.rf, by omega, by omega⟩ (ax_entry g hl) ?_ ?_ ?_
  · rw [Nat.zero_add]
    exact Nat.le_refl _
  · rw [Nat.zero_add]
    exact Nat.le_refl _
  · intro pc1 J st1 H1 locs1 ls1 hI hr hP1
    rw [Nat.zero_add] at hP1 ⊢
    rw [Nat.zero_add]
    exact ax_end C hI hr hP1
theorem ax_kd_3 (J : Instr) : ax_kd J = 0 ∨ ax_kd J = 1 ∨ ax_kd J = 2 := by
  unfold ax_kd
  split <;> simp
theorem ax_cn_cl {ci : Nat} {q : vw_C} (h : vwCl[ci]? = some q) : ax_cn ci = q.1 := by
  have hl : ci < 12 := (List.getElem?_eq_some_iff.mp h).1
  match ci, hl, h with
  | 0, _, h => cases h; rfl
  | 1, _, h => cases h; rfl
  | 2, _, h => cases h; rfl
  | 3, _, h => cases h; rfl
  | 4, _, h => cases h; rfl
  | 5, _, h => cases h; rfl
  | 6, _, h => cases h; rfl
  | 7, _, h => cases h; rfl
  | 8, _, h => cases h; rfl
  | 9, _, h => cases h; rfl
  | 10, _, h => cases h; rfl
  | 11, _, h => cases h; rfl
theorem ax_recv {g : ax_G} {s : State} {h : ax_H} {H : Heap} {locs : List Loc} {cells a ci : Nat} (hE : ax_E g s) (hP : ax_P g h s H locs cells) (hk : ax_lkl h a = some ci) : a < 2000 ∧ ∃ cell : Cell, H[ax_ad g a]? = some cell ∧ cell.vm.isStatics = false ∧ s.vm.findClass (ax_cn ci) = some cell.cls := by
  rcases ax_lkl_of hk with ⟨h1, h2, rfl⟩ | ⟨fs, hf⟩
  · refine ⟨by omega, ?_⟩
    have ea : ax_ad g a = g.2.2.2.2.1 (a - 1001) := by
      unfold ax_ad
      rw [if_neg (by omega), if_neg (by omega), if_pos (by omega)]
    rw [ea]
    exact vk_recv hE.2.2.2.1 (by omega) hP.2.2.1
  · have hl := hP.lt hf
    refine ⟨by omega, ?_⟩
    have hw := ax_wl_at (g := g) hf
    obtain ⟨q, hq, -⟩ := hP.1 _ _ hw
    rw [ax_ad_lt hl, ax_cn_cl hq]
    exact va_recv hE.1 hP.1 hq hw
theorem ax_ws_eq (r : ax_R) : ax_ws r = Jvm.Cond.code r.1 r.2.1 r.2.2.1 r.2.2.2.1 :: ax_TB := rfl
theorem ax_rm_c (d : Nat) (h h' : ax_H) : (ax_rm d h h').cells = h'.length - h.length := rfl
theorem ax_rm_s (d : Nat) (h h' : ax_H) : (ax_rm d h h').slots = ax_sz h' - ax_sz h := rfl
theorem ax_rm_r {d mx : Nat} {h h' : ax_H} {R : Room} (h1 : mx ≤ 40) (h2 : d + 1 + 6 ≤ R.frames) (h3 : 60 * (d + 1 + 8) ≤ R.locals) : (ax_rm d h h').frames + 1 ≤ R.frames ∧ 8 + (mx + 11) + (ax_rm d h h').locals ≤ R.locals := by
  constructor
  · show d + 6 + 1 ≤ _
    omega
  · have e : 60 * (d + 1 + 8) = 60 * (d + 8) + 60 := by rw [Nat.add_right_comm d 1 8, Nat.mul_succ]
    rw [e] at h3
    show 8 + (mx + 11) + 60 * (d + 8) ≤ R.locals
    generalize 60 * (d + 8) = z at h3 ⊢
    generalize R.locals = y at h3 ⊢
    omega
section AXG2
variable {g : ax_G} {p : Program} {l : Launch} {e : Env} {R : Room} {s : State} {mI : MethodId} {args : Array Value} {below : List Frame} {meth : Method} {c : Code} {d : Nat} {r : ax_R} {H : Heap} {locs : List Loc} {cells slots : Nat} {Q : State → Prop}
set_option maxHeartbeats 2000000 in
/-- a call of the small machine, in the machine -/
theorem ax_call1 (C : ax_K g p R s mI args meth c (d + 1) r) {I J : Instr} {pc len : Nat} (hI : decode r.2.1 pc = .ok (I, len)) (hln : ax_ln I = 0 ∨ ax_ln I = len) (hCk : ax_Ck r.2.2.2.2.1 I J) {st : List Value} {h : ax_H} {cc : Nat × List Value × List Value} (hc : ax_cal (ax_lO g.2.2.2.1.2.2 g.2.2.2.1.2.1) J st h = some cc) (h8 : (cc.2.2.map fun v => v.category).sum ≤ 8) {u : Option Value × ax_H} (hM : ∀ rM : ax_R, ax_M[cc.1]? = some rM → ax_Mt g l d rM cc.2.1 h u.1 u.2) (hle : ax_le h u.2) {ls : Array Slot} (hP : ax_P g h s H locs cells) (hls : ls.size = r.2.2.1) (hcl : cells + (u.2.length - h.length) ≤ R.cells) (hsl : slots + (ax_sz u.2 - ax_sz h) ≤ R.slots)
    (kk : ∀ (H1 : Heap) (locs1 : List Loc), ax_P g u.2 s H1 locs1 (cells + (u.2.length - h.length)) → W p l e R s mI args below meth c H1 locs1 (cells + (u.2.length - h.length)) (slots + (ax_sz u.2 - ax_sz h)) Q (F0 mI (pc + len) ls ((u.1.toList ++ cc.2.2).map (ax_vv g)))) :
    W p l e R s mI args below meth c H locs cells slots Q (F0 mI pc ls (st.map (ax_vv g))) := by
  obtain ⟨hx, hb, hml, hown, hts, hE, hnm, hrt, hlk, hRf, hRl⟩ := C
  refine ax_sized (fun hz => ?_)
  have hsz := hP.size hz
  have hW2 : ∀ U : State, U.heap = H → s.WarmedH U.vm → ax_Wd g h U := fun U hU hW => ⟨hE.go hP.2.2.1 hW hU hP.2.2.2.2, by rw [hU]; exact hP.1, by rw [hU]; exact hsz, hP.2.1⟩
  have hrest : ∀ rest : List Value, (rest.map fun v => v.category).sum ≤ 8 → ∀ s0, 2 * (F0 mI pc ls s0).monitorRoom + ((rest.map (ax_vv g)).map fun v => v.category).sum ≤ 8 := fun rest hr s0 => lv_room (by rw [ax_msum]; exact hr)
  have k2 : ∀ (H1 : Heap) (locs1 : List Loc), 3 = len → ax_P g u.2 s H1 locs1 (cells + (u.2.length - h.length)) → W p l e R s mI args below meth c H1 locs1 (cells + (u.2.length - h.length)) (slots + (ax_sz u.2 - ax_sz h)) Q (F0 mI (pc + 3) ls ((u.1.map (ax_vv g)).toList ++ cc.2.2.map (ax_vv g))) := by
    intro H1 locs1 e3 hP1
    have k := kk H1 locs1 hP1
    rw [← e3, List.map_append] at k
    have e4 : (u.1.map (ax_vv g)).toList = u.1.toList.map (ax_vv g) := by cases u.1 <;> rfl
    rw [e4]
    exact k
  rcases hCk with ⟨i, M, w, rfl, rfl, hq⟩ | ⟨i, M, w, rfl, rfl, hq⟩ | ⟨i, M, w, rfl, rfl, hq⟩
  · obtain rfl : 3 = len := ax_len hln (by decide)
    have hc : (match ax_M[M]? with
      | none => none
      | some r => if r.2.2.2.2.2.1 = true ∧ r.2.2.2.2.2.2.1 ≤ st.length then some (M, (st.take r.2.2.2.2.2.2.1).reverse, st.drop r.2.2.2.2.2.2.1) else none) = some cc := hc
    cases hr : ax_M[M]? with
    | none => rw [hr] at hc; cases hc
    | some rM =>
      rw [hr] at hc
      simp only at hc
      split at hc
      · rename_i hst
        cases hc
        have hm := hM rM hr
        have ok := ax_M_ok (List.mem_of_getElem? hr)
        obtain ⟨ok1, ok2, ok3, ok4, ok5, ok6, ok7, ok8, ok9, ok10⟩ := ok
        have hstat : Jvm.Cond.static rM.1 ∈ ax_TB := by
          rw [if_pos hst.1] at ok2
          exact ax_in ok2 rfl
        have hini : Jvm.Cond.initialized rM.1.cls ∈ ax_TB := ax_in ok4 rfl
        have hn : (((st.take rM.2.2.2.2.2.2.1).reverse).map (ax_vv g)).length = rM.2.2.2.2.2.2.1 := by
          rw [List.length_map, List.length_reverse, List.length_take]
          omega
        have hstack : (F0 mI pc ls (st.map (ax_vv g))).stack = (((st.take rM.2.2.2.2.2.2.1).reverse).map (ax_vv g)).reverse ++ (st.drop rM.2.2.2.2.2.2.1).map (ax_vv g) := by
          show st.map (ax_vv g) = _
          rw [← List.map_reverse, List.reverse_reverse, ← List.map_append, List.take_append_drop]
        have hpre : PreS s H (va_Pc (((st.take rM.2.2.2.2.2.2.1).reverse).map (ax_vv g)) (ax_Wd g h)) (((st.take rM.2.2.2.2.2.2.1).reverse).map (ax_vv g)) := ⟨ax_Wd.blind g h _, fun U hU hW => ⟨rfl, hW2 U hU hW⟩⟩
        rcases hq with hq | hq
        · obtain ⟨rM', hr', hlink⟩ := ax_Tm_of hq
          cases hr.symm.trans hr'
          have hG : GoodIn ax_TB (va_wsS (ax_cn r.2.2.2.2.1) i rM.1 (ax_ws rM)) := ax_good (fun x hx => by
            rcases List.mem_append.mp hx with hx | hx
            · simp only [List.mem_cons, List.not_mem_nil, or_false] at hx
              rcases hx with rfl | rfl | rfl
              · exact hlink
              · exact hstat
              · exact hini
            · exact ax_ws_in ⟨ok1, ok2, ok3, ok4, ok5, ok6, ok7, ok8, ok9, ok10⟩ x hx)
          exact ax_callk (va_runS (As := ((st.take rM.2.2.2.2.2.2.1).reverse).map (ax_vv g)) (rest := (st.drop rM.2.2.2.2.2.2.1).map (ax_vv g)) ⟨hx, hb, hml, hown, hts⟩ hm (va_cwS rM.2.2.2.2.2.2.1 hts hG (ax_ws_eq rM) (ax_rm_c _ _ _) (ax_rm_s _ _ _) ⟨ok8, ok9, ok6⟩ (ax_rm_r ok10 hRf hRl)) hpre rfl hn hls hstack (hrest _ h8 _) hI ⟨hcl, hsl⟩) hP rfl hle (fun H1 locs1 hP1 => k2 H1 locs1 rfl hP1)
        · obtain ⟨rM', hr', hlink⟩ := ax_Tn_of hq
          cases hr.symm.trans hr'
          have hG : GoodIn ax_TB (ax_ws rM) := ax_good (ax_ws_in ⟨ok1, ok2, ok3, ok4, ok5, ok6, ok7, ok8, ok9, ok10⟩)
          exact ax_callk (va_runSN (As := ((st.take rM.2.2.2.2.2.2.1).reverse).map (ax_vv g)) (rest := (st.drop rM.2.2.2.2.2.2.1).map (ax_vv g)) ⟨hx, hb, hml, hown, hts⟩ hm ⟨va_cnB rM.2.2.2.2.2.2.1 hts hG (ax_ws_eq rM) (ax_rm_c _ _ _) (ax_rm_s _ _ _) (hE.2.1 _ hlink rfl) (hts _ hini) ⟨ok8, ok9, ok6⟩ (ax_rm_r ok10 hRf hRl), hts _ hstat, trivial⟩ hpre rfl hn hls hstack (hrest _ h8 _) hI ⟨hcl, hsl⟩) hP rfl hle (fun H1 locs1 hP1 => k2 H1 locs1 rfl hP1)
      · cases hc
  · obtain rfl : 3 = len := ax_len hln (by decide)
    have hc : (match ax_M[M]? with
      | none => none
      | some r => ax_ra (st.drop r.2.2.2.2.2.2.1) fun a b => if r.2.2.2.2.2.1 = false ∧ r.2.2.2.2.2.2.1 ≤ st.length ∧ ax_lkl h a = some r.2.2.2.2.1 ∧ r.1.name ≠ "<init>" then some (M, .ref a :: (st.take r.2.2.2.2.2.2.1).reverse, b) else none) = some cc := hc
    cases hr : ax_M[M]? with
    | none => rw [hr] at hc; cases hc
    | some rM =>
      rw [hr] at hc
      obtain ⟨a, b, hd, hc⟩ := ax_ra_of hc
      split at hc
      · rename_i hst
        cases hc
        have hm := hM rM hr
        have ok := ax_M_ok (List.mem_of_getElem? hr)
        obtain ⟨ok1, ok2, ok3, ok4, ok5, ok6, ok7, ok8, ok9, ok10⟩ := ok
        have hns : ¬ rM.2.2.2.2.2.1 = true := by rw [hst.1]; simp
        have hinst : Jvm.Cond.instanceMethod rM.1 ∈ ax_TB := by
          rw [if_neg hns] at ok2
          exact ax_in ok2 rfl
        have hini : Jvm.Cond.initialized rM.1.cls ∈ ax_TB := ax_in ok4 rfl
        have hn : (((st.take rM.2.2.2.2.2.2.1).reverse).map (ax_vv g)).length = rM.2.2.2.2.2.2.1 := by
          rw [List.length_map, List.length_reverse, List.length_take]
          omega
        obtain ⟨ha2, hcell⟩ := ax_recv hE hP hst.2.2.1
        have hstack : (F0 mI pc ls (st.map (ax_vv g))).stack = (((st.take rM.2.2.2.2.2.2.1).reverse).map (ax_vv g)).reverse ++ .ref (ax_ad g a) :: b.map (ax_vv g) := by
          show st.map (ax_vv g) = _
          rw [← List.map_reverse, List.reverse_reverse, ← ax_vv_ref ha2, ← List.map_cons, ← hd, ← List.map_append, List.take_append_drop]
        rw [ok5] at hcell
        have hm : Met l rM.1 (ax_ws rM) (ax_rm d h u.2) (va_Pc (.ref (ax_ad g a) :: ((st.take rM.2.2.2.2.2.2.1).reverse).map (ax_vv g)) (ax_Wd g h)) (fun _ => ax_Qc g u.1 u.2) (u.2.length - h.length) (ax_sz u.2 - ax_sz h) (ax_A g) := by
          have k := hm
          unfold ax_Mt at k
          rw [List.map_cons, ax_vv_ref ha2] at k
          exact k
        have hpre : PreV s H rM.1.cls (ax_ad g a) (va_Pc (.ref (ax_ad g a) :: ((st.take rM.2.2.2.2.2.2.1).reverse).map (ax_vv g)) (ax_Wd g h)) (((st.take rM.2.2.2.2.2.2.1).reverse).map (ax_vv g)) := ⟨ax_Wd.blind g h _, hcell, fun U hU hW => ⟨rfl, hW2 U hU hW⟩⟩
        obtain ⟨rM', hr', hlink⟩ := ax_Tm_of hq
        cases hr.symm.trans hr'
        by_cases hnm2 : rM.1.name = "<init>"
        · exact absurd hnm2 hst.2.2.2
        · have hsel : Jvm.Cond.selects rM.1.cls rM.1 rM.1 ∈ ax_TB := ax_in ((ok3.resolve_left hns).resolve_left hnm2) rfl
          have hG : GoodIn ax_TB (wsV (ax_cn r.2.2.2.2.1) i rM.1.cls rM.1 (ax_ws rM)) := ax_good (fun x hx => by
            rcases List.mem_append.mp hx with hx | hx
            · simp only [List.mem_cons, List.not_mem_nil, or_false] at hx
              rcases hx with rfl | rfl | rfl | rfl
              · exact hlink
              · exact hinst
              · exact hsel
              · exact hini
            · exact ax_ws_in ⟨ok1, ok2, ok3, ok4, ok5, ok6, ok7, ok8, ok9, ok10⟩ x hx)
          exact ax_callk (va_runV (As := ((st.take rM.2.2.2.2.2.2.1).reverse).map (ax_vv g)) (rest := b.map (ax_vv g)) ⟨hx, hb, hml, hown, hts⟩ hm (cwV rM.2.2.2.2.2.2.1 hts hG (ax_ws_eq rM) (ax_rm_c _ _ _) (ax_rm_s _ _ _) ⟨rfl, ok8, ok9, ok6⟩ (ax_rm_r ok10 hRf hRl)) hpre rfl hn hls hstack (hrest _ h8 _) hI ⟨hcl, hsl⟩) hP rfl hle (fun H1 locs1 hP1 => k2 H1 locs1 rfl hP1)
      · cases hc
  · obtain rfl : 3 = len := ax_len hln (by decide)
    have hc : (match ax_M[M]? with
      | none => none
      | some r => ax_ra (st.drop r.2.2.2.2.2.2.1) fun a b => if r.2.2.2.2.2.1 = false ∧ r.2.2.2.2.2.2.1 ≤ st.length ∧ r.1.name = "<init>" ∧ r.2.2.2.1 = none ∧ a < 2000 then some (M, .ref a :: (st.take r.2.2.2.2.2.2.1).reverse, b) else none) = some cc := hc
    cases hr : ax_M[M]? with
    | none => rw [hr] at hc; cases hc
    | some rM =>
      rw [hr] at hc
      obtain ⟨a, b, hd, hc⟩ := ax_ra_of hc
      split at hc
      · rename_i hst
        cases hc
        obtain ⟨hst1, hst2, hinm, hrn, ha2⟩ := hst
        have hm := hM rM hr
        have ok := ax_M_ok (List.mem_of_getElem? hr)
        obtain ⟨ok1, ok2, ok3, ok4, ok5, ok6, ok7, ok8, ok9, ok10⟩ := ok
        have hns : ¬ rM.2.2.2.2.2.1 = true := by rw [hst1]; simp
        have hinst : Jvm.Cond.instanceMethod rM.1 ∈ ax_TB := by
          rw [if_neg hns] at ok2
          exact ax_in ok2 rfl
        have hini : Jvm.Cond.initialized rM.1.cls ∈ ax_TB := ax_in ok4 rfl
        have hn : (((st.take rM.2.2.2.2.2.2.1).reverse).map (ax_vv g)).length = rM.2.2.2.2.2.2.1 := by
          rw [List.length_map, List.length_reverse, List.length_take]
          omega
        have hstack : (F0 mI pc ls (st.map (ax_vv g))).stack = (((st.take rM.2.2.2.2.2.2.1).reverse).map (ax_vv g)).reverse ++ .ref (ax_ad g a) :: b.map (ax_vv g) := by
          show st.map (ax_vv g) = _
          rw [← List.map_reverse, List.reverse_reverse, ← ax_vv_ref ha2, ← List.map_cons, ← hd, ← List.map_append, List.take_append_drop]
        have hm : Met l rM.1 (ax_ws rM) (ax_rm d h u.2) (va_Pc (.ref (ax_ad g a) :: ((st.take rM.2.2.2.2.2.2.1).reverse).map (ax_vv g)) (ax_Wd g h)) (fun _ => ax_Qc g u.1 u.2) (u.2.length - h.length) (ax_sz u.2 - ax_sz h) (ax_A g) := by
          have k := hm
          unfold ax_Mt at k
          rw [List.map_cons, ax_vv_ref ha2] at k
          exact k
        have hpre : PreS s H (va_Pc (.ref (ax_ad g a) :: ((st.take rM.2.2.2.2.2.2.1).reverse).map (ax_vv g)) (ax_Wd g h)) (.ref (ax_ad g a) :: ((st.take rM.2.2.2.2.2.2.1).reverse).map (ax_vv g)) := ⟨ax_Wd.blind g h _, fun U hU hW => ⟨rfl, hW2 U hU hW⟩⟩
        have hG : GoodIn ax_TB (ax_ws rM) := ax_good (ax_ws_in ⟨ok1, ok2, ok3, ok4, ok5, ok6, ok7, ok8, ok9, ok10⟩)
        have hwn : ax_ws rM = Jvm.Cond.code rM.1 rM.2.1 rM.2.2.1 none :: ax_TB := by
          unfold ax_ws
          rw [hrn]
        rcases hq with hq | hq
        · obtain ⟨rM', hr', hlink⟩ := ax_Tm_of hq
          cases hr.symm.trans hr'
          exact ax_callk (va_runI (As := ((st.take rM.2.2.2.2.2.2.1).reverse).map (ax_vv g)) (rest := b.map (ax_vv g)) ⟨hx, hb, hml, hown, hts⟩ hm (cwI rM.2.2.2.2.2.2.1 hts hG hwn (ax_rm_c _ _ _) (ax_rm_s _ _ _) (hts _ hini) (hts _ hlink) (hts _ hinst) hinm ⟨ok8, ok9, ok6⟩ (ax_rm_r ok10 hRf hRl)) hpre rfl hn hls hstack (hrest _ h8 _) hI ⟨hcl, hsl⟩) hP rfl hle (fun H1 locs1 hP1 => k2 H1 locs1 rfl hP1)
        · obtain ⟨rM', hr', hlink⟩ := ax_Tn_of hq
          cases hr.symm.trans hr'
          exact ax_callk (va_runIN (As := ((st.take rM.2.2.2.2.2.2.1).reverse).map (ax_vv g)) (rest := b.map (ax_vv g)) ⟨hx, hb, hml, hown, hts⟩ hm ⟨va_cnB rM.2.2.2.2.2.2.1 hts hG hwn (ax_rm_c _ _ _) (ax_rm_s _ _ _) (hE.2.1 _ hlink rfl) (hts _ hini) ⟨ok8, ok9, ok6⟩ (ax_rm_r ok10 hRf hRl), hinm, hts _ hinst⟩ hpre rfl hn hls hstack (hrest _ h8 _) hI ⟨hcl, hsl⟩) hP rfl hle (fun H1 locs1 hP1 => k2 H1 locs1 rfl hP1)
      · cases hc
end AXG2
theorem ax_go (g : ax_G) (l : Launch) (n : Nat) : ax_Bd g l n := by
  induction n with
  | zero => intro d m pc L st h w e; cases e
  | succ n ih =>
    intro d m pc L st h w hrun r hr p e R s mI args below meth c H locs cells slots Q ls C hP hL hcl hsl kk
    obtain ⟨q, hq, hcase⟩ := ax_run_of hrun
    obtain ⟨r', I, len, hr', hI, hln, hJ, hfin, hpc⟩ := ax_code_of hq
    cases hr.symm.trans hr'
    have hwle := ax_run_le _ _ _ _ _ _ _ _ hrun
    rcases hcase with ⟨hk, r2, v, hr2, hret, rfl⟩ | ⟨hk, d', cc, u, rfl, hc, h8, hl8, hu, hgo⟩ | ⟨hk1, hk2, u, hu, hgo⟩
    · cases hr.symm.trans hr2
      obtain ⟨rfl, hl1⟩ := ax_nrm_ret hJ hk
      obtain rfl : 1 = len := by rw [hl1] at hln; exact ax_len hln (by decide)
      have k := kk pc q.1 st H locs ls hI hret (by simp only [Nat.sub_self, Nat.add_zero]; exact hP)
      simp only [Nat.sub_self, Nat.add_zero] at k
      exact k
    · have hule := ax_run_le _ _ _ _ _ _ _ _ hu
      have hgle := ax_run_le _ _ _ _ _ _ _ _ hgo
      have g1 := hule.1
      have g2 := hule.2
      have g3 := hgle.1
      have g4 := hgle.2
      have e1 : cells + (u.2.length - h.length) + (w.2.length - u.2.length) = cells + (w.2.length - h.length) := by omega
      have e2 : slots + (ax_sz u.2 - ax_sz h) + (ax_sz w.2 - ax_sz u.2) = slots + (ax_sz w.2 - ax_sz h) := by omega
      refine ax_call1 C hI hln (ax_nrm_call hJ hk) hc h8 (u := u) (fun rM hM => ?_) hule hP hL.1 (by omega) (by omega) (fun H1 locs1 hP1 => ?_)
      · rw [hM] at hu hl8
        exact ax_met ih hM hl8 hu
      · rw [← hpc]
        refine ih _ _ _ _ _ _ w hgo r hr C hP1 hL (by rw [e1]; exact hcl) (by rw [e2]; exact hsl) (fun pc1 J st1 H2 locs2 ls2 hI2 hr2 hP2 => ?_)
        rw [e1] at hP2 ⊢
        rw [e2]
        exact kk pc1 J st1 H2 locs2 ls2 hI2 hr2 hP2
    · have hule := ax_step_le hu
      have hgle := ax_run_le _ _ _ _ _ _ _ _ hgo
      have g1 := hule.1
      have g2 := hule.2
      have g3 := hgle.1
      have g4 := hgle.2
      have e1 : cells + (u.2.2.2.length - h.length) + (w.2.length - u.2.2.2.length) = cells + (w.2.length - h.length) := by omega
      have e2 : slots + (ax_sz u.2.2.2 - ax_sz h) + (ax_sz w.2 - ax_sz u.2.2.2) = slots + (ax_sz w.2 - ax_sz h) := by omega
      have hk0 : ax_kd q.1 = 0 := by
        rcases ax_kd_3 q.1 with k | k | k
        · exact k
        · exact absurd k hk1
        · exact absurd k hk2
      rw [hpc] at hu
      refine ax_go1 C hI hln hJ hfin hk0 hu hP hL (by omega) (by omega) (fun H1 locs1 ls1 hP1 hL1 => ?_)
      refine ih _ _ _ _ _ _ w hgo r hr C hP1 hL1 (by rw [e1]; exact hcl) (by rw [e2]; exact hsl) (fun pc1 J st1 H2 locs2 ls2 hI2 hr2 hP2 => ?_)
      rw [e1] at hP2 ⊢
      rw [e2]
      exact kk pc1 J st1 H2 locs2 ls2 hI2 hr2 hP2
