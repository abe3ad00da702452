/-! THE LAW, out of a run of the small machine. What is left to show is ax_OK: mathematics, no machine -/
def ax_OK : Prop := ∀ (L : Nat) (xs : Nat → Int32), L ≤ 3584 → ∃ (n : Nat) (h' : ax_H), ax_run (ax_lO xs L) n 60 ax_law 0 (ax_ent [.ref 1000] 4) [] [] = some (some (.int 1), h') ∧ h'.length ≤ 600000 ∧ ax_sz h' ≤ 7302250
def R_law : String := "CakeCardsLaw"
def lw_P (b : Addr) (xs : List Int32) (args : Array Value) (s : State) : Prop := args = #[.ref b] ∧ s.IntsAt b xs ∧ xs.length ≤ 3584 ∧ (Jvm.Cond.and given_1 narrow_1).before args s = true
def lw_Q (_ : Array Value) (s : State) (o : Outcome) (t : State) : Prop := o = .returned (some (.int 1)) ∧ Framed s o t [] 600000 7302250
def lw_Z (below : List Frame) (a : Array Value) (s : State) : State → Prop := fun t => ∃ o, t.status = .running ∧ Ended t below o ∧ lw_Q a s o t
theorem ax_lwret {p : Program} {l : Launch} {e : Env} {s : State} {m : MethodId} {below : List Frame} {meth : Method} {c : Code} {b : Nat} (hx : p.tables.exec = Jvm.exec) (hb : c.code = code) (hr : meth.sig.returnType = ret) (hlocks : meth.locks = false) {pc : Nat} {H : Heap} {ls : Array Slot} {v : Int32} (hv : v &&& 1 = 1) (hdg : decode code pc = .ok (.ireturn, 1)) : W p l e room_1 s m #[Value.ref b] below meth c H [] 600000 7302250 (lw_Z below #[Value.ref b] s) (F0 m pc ls [.int v]) := by
  intro T hT X
  obtain ⟨fs, hret, hrun, hended, hW, hframe⟩ := X.leave (v := some (.int 1)) (hlocks := hlocks) (fun h => by rw [hr] at h; cases h)
  have hmeth' : T.vm.method? m = some meth := X.method'
  have hn : narrow .boolean (.int v) = .int 1 := by rw [← hv]; rfl
  refine ⟨T.setFrames fs, ?_, .returned (some (.int 1)), hrun, hended, rfl, ⟨_, rfl⟩, hW, hframe⟩
  jvm_step X.here [X.here.top, hx, hb, hdg, hmeth', hr, ret, hn]
  (try refine ⟨rfl, ?_⟩); (try refine ⟨rfl, ?_⟩)
  first | (intro acts; rw [hret _ acts rfl rfl rfl]) | rw [hret _ _ rfl rfl rfl]
  exact Steps.refl _
/-- what holds at the law's entry -/
def lw_At (p : Program) (s : State) (m : MethodId) (meth : Method) (c : Code) (b L : Nat) (xs : Nat → Int32) : Prop :=
  p.tables.exec = Jvm.exec ∧ c.code = code ∧ meth.sig.returnType = ret ∧ c.maxLocals = 4 ∧ s.vm.findClass R_law = some m.cls ∧ (∀ w ∈ lw_tbl, w.before #[Value.ref b] s = true) ∧ va_X b L xs s s.heap ∧ b < s.heap.size ∧ meth.locks = false ∧ (Jvm.Cond.and given_1 narrow_1).before #[Value.ref b] s = true
theorem ax_start (OK : ax_OK) {p : Program} {e : Env} {s : State} {m : MethodId} {below : List Frame} {meth : Method} {c : Code} (l : Launch) {b L : Nat} {xs : Nat → Int32} (hL : L ≤ 3584) (C0 : lw_At p s m meth c b L xs) : W p l e room_1 s m #[Value.ref b] below meth c s.heap [] 0 0 (lw_Z below #[Value.ref b] s) (entryFrame m ([Value.ref b] : List Value).toArray 4) := by
  obtain ⟨hx, hb, hr, hml, hown, hts, hX, hbl, hlocks, hgv⟩ := C0
  obtain ⟨n, h', hrun, hlen, hsz⟩ := OK L xs hL
  obtain ⟨g, g1, g2, hE⟩ := ax_launch hts hX hbl hgv
  have htb : ∀ w ∈ ax_TB, w.before #[Value.ref b] s = true := fun w hw => hts w (List.mem_filter.mp hw).1
  have C : ax_K g p room_1 s m #[Value.ref b] meth c 60 (x, code, maxLocals, ret, 12, true, 1, 0, 0, 0, 0) := ⟨hx, hb, hml, hown, htb, hE, (fun h => absurd h (by decide)), hr, hlocks, Nat.le_of_ble_eq_true rfl, Nat.le_of_ble_eq_true rfl⟩
  have e1 : ([Value.ref 1000] : List Value).map (ax_vv g) = [Value.ref b] := by
    rw [List.map_cons, ax_vv_ref (by omega)]
    have : ax_ad g 1000 = b := by
      unfold ax_ad
      rw [if_neg (by omega), if_pos rfl, g2]
    rw [this]
    rfl
  have hent := ax_entry g (as := [.ref 1000]) (n := 4) (by decide)
  rw [lg_entry_eq]
  rw [e1] at hent
  have hxs : g.2.2.2.1.2.2 = xs := by rw [g2]
  have hLs : g.2.2.2.1.2.1 = L := by rw [g2]
  refine ax_go g l n 60 ax_law 0 _ [] [] (some (.int 1), h') (by rw [hxs, hLs]; exact hrun) (x, code, maxLocals, ret, 12, true, 1, 0, 0, 0, 0) (if_pos rfl) C ⟨fun k q h => by simp [ax_wl] at h, by decide, va_S.rf, by rw [g1]; rfl, by rw [g1]; exact Nat.le_refl _⟩ hent ?_ ?_ ?_
  · show 0 + (h'.length - 0) ≤ 600000
    omega
  · show 0 + (ax_sz h' - 0) ≤ 7302250
    omega
  · intro pc1 J st1 H1 locs1 ls1 hI hret hP1
    have hret : ax_ret (some .boolean) J st1 = some (some (.int 1)) := hret
    cases J with
    | ireturn =>
      have hret : ax_ri st1 (fun x r => if r = [] then some (some (Value.int (x &&& 1))) else none) = some (some (.int 1)) := hret
      obtain ⟨v, r1, rfl, h1⟩ := ax_ri_of hret
      split at h1
      · rename_i hr1
        subst hr1
        have hv : v &&& 1 = 1 := by
          have := Option.some.inj (Option.some.inj h1)
          exact Value.int.inj this
        refine va_forget (fun q hq => by have := hP1.2.2.1.2.2 q hq; unfold ax_A at this; rw [g1] at this; exact this) ?_
        refine W.widen (k := 600000) (n := 7302250) ?_ ?_ ?_
        · show 0 + (h'.length - 0) ≤ 600000
          omega
        · show 0 + (ax_sz h' - 0) ≤ 7302250
          omega
        · exact ax_lwret hx hb hr hlocks hv hI
      · cases h1
    | lreturn => cases hret
    | areturn => cases hret
    | return_ => cases hret
    | _ => cases hret
