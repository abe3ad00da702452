/-! THE PUBLIC METHODS, 24: an ask, the class's bodies -/
/-- bodies left in the trace, one behind another -/
abbrev Lv (σ τ : ax_S) (t : Nat) (L : List Int32) : Prop := sm [80, 81] σ τ ∧ (∀ j, j ≠ 1 → τ.1 80 j = σ.1 80 j) ∧ τ.1 80 1 = nI (t + L.length) ∧ (∀ i, i < t → τ.1 81 i = σ.1 81 i) ∧ ∀ i, i < L.length → τ.1 81 (t + i) = (L[i]?).getD 0
theorem Lv_tr {σ τ ρ : ax_S} {t : Nat} {L M : List Int32} (h : Lv σ τ t L) (h2 : Lv τ ρ (t + L.length) M) : Lv σ ρ t (L ++ M) := by
  obtain ⟨a1, a2, a3, a4, a5⟩ := h
  obtain ⟨b1, b2, b3, b4, b5⟩ := h2
  refine ⟨a1.tr b1, fun j hj => (b2 j hj).trans (a2 j hj), ?_, fun i hi => (b4 i (by omega)).trans (a4 i hi), fun i hi => ?_⟩
  · rw [b3, List.length_append, Nat.add_assoc]
  · rw [List.length_append] at hi
    by_cases c : i < L.length
    · rw [b4 _ (by omega), a5 i c, List.getElem?_append_left c]
    · have := b5 (i - L.length) (by omega)
      rw [List.getElem?_append_right (by omega), ← this, show t + L.length + (i - L.length) = t + i by omega]
theorem s_leave (d : Nat) {σ : ax_S} {t : Nat} (b : Int32) (ht : σ.1 80 1 = nI t) (h16 : t < 16) : ∃ τ, cV sO d 187 [.ref 80, .int b] σ = some τ ∧ Lv σ τ t [b] := by
  refine ⟨sI (sI σ 81 t b) 80 1 (nI (t + 1)), cV_ev mi_187 ((u_187_80 d σ b).trans ?_) rfl, ((sm.rf _ _).set _ _ (by decide)).set _ _ (by decide), fun j hj => ?_, sI_1 _ _ _ _, fun i hi => ?_, fun i hi => ?_⟩
  · rw [ht, if_pos (show nI t < (16 : Int32) from nlt (N := 16) h16), gd_t (nI_g h16 (by omega)), nI_c (by omega), sI_n _ _ (by decide), ht, nI_add1]
  · rw [sI_k _ hj, sI_n _ _ (by decide)]
  · rw [sI_n _ _ (by decide), sI_k _ (by omega)]
  · have : i = 0 := by
      simp only [List.length_cons, List.length_nil] at hi
      omega
    rw [this, sI_n _ _ (by decide), Nat.add_zero, sI_1]
    rfl
/-- what an asker holds of a card: its number, kind, year, things, stains, rise -/
abbrev askF (σ : ax_S) (nu ki ye th st ri : Int32) : Prop := σ.1 80 2 = nu ∧ σ.1 80 3 = ki ∧ σ.1 80 4 = ye ∧ σ.1 80 5 = th ∧ σ.1 80 6 = st ∧ σ.1 80 7 = ri
theorem askF_Lv {σ τ : ax_S} {t : Nat} {L : List Int32} {nu ki ye th st ri : Int32} (h : Lv σ τ t L) (a : askF σ nu ki ye th st ri) : askF τ nu ki ye th st ri := by
  obtain ⟨-, h2, -⟩ := h
  unfold askF at a ⊢
  rw [h2 2 (by decide), h2 3 (by decide), h2 4 (by decide), h2 5 (by decide), h2 6 (by decide), h2 7 (by decide)]
  exact a
/-- a body's run: what it comes to and what it leaves -/
abbrev RUN (D k : Nat) (nu ki ye th st ri : Int32) (b v : Int32) (L : List Int32) : Prop := ∀ σ t, σ.1 80 1 = nI t → t + L.length ≤ 16 → askF σ nu ki ye th st ri → ∃ τ, cI sO D 186 [.ref 80, .int b, .int (nI k)] σ = some (v, τ) ∧ Lv σ τ t L
theorem ndp {k : Nat} (h : k ≤ 12) : ¬ (12 : Int32) < nI k := nnl (N := k) (k := 12) h
theorem run_0 {D k : Nat} {nu ki ye th st ri : Int32} (hk : k ≤ 12) : RUN (D + 1) k nu ki ye th st ri 10 th [10] ∧ RUN (D + 1) k nu ki ye th st ri 20 nu [20] := by
  constructor
  · intro σ t ht h16 a
    simp only [List.length_cons, List.length_nil] at h16
    obtain ⟨τ, e, h⟩ := s_leave D 10 ht (by omega)
    refine ⟨τ, cI_ev mi_186 ((u_186_80 D σ _ _).trans ?_) rfl, h⟩
    rw [if_neg (ndp hk), e, Option.bind_some, if_pos rfl, (askF_Lv h a).2.2.2.1]
  · intro σ t ht h16 a
    simp only [List.length_cons, List.length_nil] at h16
    obtain ⟨τ, e, h⟩ := s_leave D 20 ht (by omega)
    refine ⟨τ, cI_ev mi_186 ((u_186_80 D σ _ _).trans ?_) rfl, h⟩
    rw [if_neg (ndp hk), e, Option.bind_some, if_neg (by decide), if_neg (by decide), if_neg (by decide), if_neg (by decide), if_neg (by decide), if_neg (by decide), if_neg (by decide), if_neg (by decide), if_neg (by decide), if_neg (by decide), if_pos rfl, (askF_Lv h a).1]
/-- a body that opens one other: g of what that comes to -/
theorem run_1 {D k : Nat} {nu ki ye th st ri : Int32} (hk : k ≤ 12) (b b2 v v2 : Int32) (L : List Int32) (h2 : RUN D (k + 1) nu ki ye th st ri b2 v2 L) (hb : ∀ σ u τ, askF τ nu ki ye th st ri → cV sO D 187 [.ref 80, .int b] σ = some u → cI sO D 186 [.ref 80, .int b2, .int (nI (k + 1))] u = some (v2, τ) → ev sO (D + 1) 186 0 [.ref 80, .int b, .int (nI k), .null] [] σ = some (some (.int v), τ)) : RUN (D + 1) k nu ki ye th st ri b v (b :: L) := by
  intro σ t ht h16 a
  simp only [List.length_cons] at h16
  obtain ⟨τ, e, h⟩ := s_leave D b ht (by omega)
  obtain ⟨ρ, e2, h3⟩ := h2 τ (t + 1) h.2.2.1 (by omega) (askF_Lv h a)
  exact ⟨ρ, cI_ev mi_186 (hb σ τ ρ (askF_Lv h3 (askF_Lv h a)) e e2) rfl, Lv_tr h h3⟩
theorem run_21 {D k : Nat} {nu ki ye th st ri : Int32} (hk : k ≤ 11) : RUN (D + 2) k nu ki ye th st ri 21 (nu + ye) [21, 20] := run_1 (by omega) 21 20 _ nu [20] (run_0 (by omega)).2 (fun σ u τ a e0 e => by
  rw [u_186_80, if_neg (ndp (by omega)), e0, Option.bind_some, if_neg (by decide), if_neg (by decide), if_neg (by decide), if_neg (by decide), if_neg (by decide), if_neg (by decide), if_neg (by decide), if_neg (by decide), if_neg (by decide), if_neg (by decide), if_neg (by decide), if_pos rfl, nI_add1, e, Option.bind_some]
  simp only [a.2.2.1])
theorem run_24 {D k : Nat} {nu ki ye th st ri : Int32} (hk : k ≤ 11) : RUN (D + 2) k nu ki ye th st ri 24 (nu + ri) [24, 20] := run_1 (by omega) 24 20 _ nu [20] (run_0 (by omega)).2 (fun σ u τ a e0 e => by
  rw [u_186_80, if_neg (ndp (by omega)), e0, Option.bind_some, if_neg (by decide), if_neg (by decide), if_neg (by decide), if_neg (by decide), if_neg (by decide), if_neg (by decide), if_neg (by decide), if_neg (by decide), if_neg (by decide), if_neg (by decide), if_neg (by decide), if_neg (by decide), if_neg (by decide), if_neg (by decide), nI_add1, e, Option.bind_some]
  simp only [a.2.2.2.2.2])
theorem run_13 {D k : Nat} {nu ki ye th st ri : Int32} (hk : k ≤ 11) : RUN (D + 2) k nu ki ye th st ri 13 (th - st) [13, 10] := run_1 (by omega) 13 10 _ th [10] (run_0 (by omega)).1 (fun σ u τ a e0 e => by
  rw [u_186_80, if_neg (ndp (by omega)), e0, Option.bind_some, if_neg (by decide), if_neg (by decide), if_neg (by decide), if_pos rfl, nI_add1, e, Option.bind_some]
  simp only [a.2.2.2.2.1])
theorem run_14 {D k : Nat} {nu ki ye th st ri : Int32} (hk : k ≤ 10) : RUN (D + 3) k nu ki ye th st ri 14 (th - st + 100) [14, 13, 10] := run_1 (by omega) 14 13 _ (th - st) [13, 10] (run_13 (by omega)) (fun σ u τ a e0 e => by
  rw [u_186_80, if_neg (ndp (by omega)), e0, Option.bind_some, if_neg (by decide), if_neg (by decide), if_neg (by decide), if_neg (by decide), if_pos rfl, nI_add1, e, Option.bind_some])
/-- a body that opens two others, the second by the kind -/
theorem run_2 {D k : Nat} {nu ki ye th st ri : Int32} (b b2 b3 v v2 v3 : Int32) (L M : List Int32) (h2 : RUN D (k + 1) nu ki ye th st ri b2 v2 L) (h3 : RUN D (k + 1) nu ki ye th st ri b3 v3 M) (hb : ∀ σ u τ ρ, askF τ nu ki ye th st ri → cV sO D 187 [.ref 80, .int b] σ = some u → cI sO D 186 [.ref 80, .int b2, .int (nI (k + 1))] u = some (v2, τ) → cI sO D 186 [.ref 80, .int b3, .int (nI (k + 1))] τ = some (v3, ρ) → ev sO (D + 1) 186 0 [.ref 80, .int b, .int (nI k), .null] [] σ = some (some (.int v), ρ)) : RUN (D + 1) k nu ki ye th st ri b v (b :: (L ++ M)) := by
  intro σ t ht h16 a
  simp only [List.length_cons, List.length_append] at h16
  obtain ⟨u, e, h⟩ := s_leave D b ht (by omega)
  obtain ⟨τ, e2, h4⟩ := h2 u (t + 1) h.2.2.1 (by omega) (askF_Lv h a)
  have a4 := askF_Lv h4 (askF_Lv h a)
  obtain ⟨ρ, e3, h5⟩ := h3 τ (t + 1 + L.length) h4.2.2.1 (by omega) a4
  exact ⟨ρ, cI_ev mi_186 (hb σ u τ ρ a4 e e2 e3) rfl, Lv_tr h (Lv_tr h4 h5)⟩
/-- the body that begins, by the kind -/
def bdy (ki w : Int32) : Int32 := if ki = 1 then (if w = 0 then 11 else 20) else if ki = 2 then (if w = 0 then 13 else 22) else if ki = 3 then (if w = 0 then 12 else 24) else if ki = 4 then (if w = 0 then 11 else 21) else if ki = 5 then (if w = 0 then 14 else 23) else if w = 0 then 10 else 20
theorem s_bodyOf (d : Nat) {σ : ax_S} {ki : Int32} (w : Int32) (h : σ.1 80 3 = ki) : cI sO d 185 [.ref 80, .int w] σ = some (bdy ki w, σ) := by
  refine cI_ev mi_185 ((u_185_80 d σ w).trans ?_) rfl
  rw [h]
  unfold bdy
  by_cases w0 : w = 0
  · simp only [if_pos w0]
    repeat' split
    all_goals rfl
  · simp only [if_neg w0]
    repeat' split
    all_goals rfl
theorem run_22 {D k : Nat} {nu ki ye th st ri v : Int32} {M : List Int32} (hk : k ≤ 11) (h : RUN (D + 1) (k + 1) nu ki ye th st ri (bdy ki 0) v M) : RUN (D + 2) k nu ki ye th st ri 22 (nu + v) (22 :: ([20] ++ M)) := run_2 22 20 (bdy ki 0) _ nu v [20] M (run_0 (by omega)).2 h (fun σ u τ ρ a e0 e1 e2 => by
  rw [u_186_80, if_neg (ndp (by omega)), e0, Option.bind_some, if_neg (by decide), if_neg (by decide), if_neg (by decide), if_neg (by decide), if_neg (by decide), if_neg (by decide), if_neg (by decide), if_neg (by decide), if_neg (by decide), if_neg (by decide), if_neg (by decide), if_neg (by decide), if_pos rfl, nI_add1, e1, Option.bind_some]
  (try simp only)
  rw [s_bodyOf _ _ a.2.1, Option.bind_some]
  (try simp only)
  rw [e2, Option.bind_some])
theorem run_11 {D k : Nat} {nu ki ye th st ri v : Int32} {M : List Int32} (hk : k ≤ 11) (h : RUN (D + 1) (k + 1) nu ki ye th st ri (bdy ki 1) v M) : RUN (D + 2) k nu ki ye th st ri 11 (th + v) (11 :: ([10] ++ M)) := run_2 11 10 (bdy ki 1) _ th v [10] M (run_0 (by omega)).1 h (fun σ u τ ρ a e0 e1 e2 => by
  rw [u_186_80, if_neg (ndp (by omega)), e0, Option.bind_some, if_neg (by decide), if_pos rfl, nI_add1, e1, Option.bind_some]
  (try simp only)
  rw [s_bodyOf _ _ a.2.1, Option.bind_some]
  (try simp only)
  rw [e2, Option.bind_some])
theorem run_12 {D k : Nat} {nu ki ye th st ri v : Int32} {M : List Int32} (hk : k ≤ 11) (h : RUN D (k + 1) nu ki ye th st ri 11 v M) : RUN (D + 1) k nu ki ye th st ri 12 (2 * v) (12 :: M) := run_1 (by omega) 12 11 _ v M h (fun σ u τ a e0 e => by
  rw [u_186_80, if_neg (ndp (by omega)), e0, Option.bind_some, if_neg (by decide), if_neg (by decide), if_pos rfl, nI_add1, e, Option.bind_some])
theorem run_23 {D k : Nat} {nu ki ye th st ri v : Int32} {M : List Int32} (hk : k ≤ 11) (h : RUN D (k + 1) nu ki ye th st ri 22 v M) : RUN (D + 1) k nu ki ye th st ri 23 (-v) (23 :: M) := run_1 (by omega) 23 22 _ v M h (fun σ u τ a e0 e => by
  rw [u_186_80, if_neg (ndp (by omega)), e0, Option.bind_some, if_neg (by decide), if_neg (by decide), if_neg (by decide), if_neg (by decide), if_neg (by decide), if_neg (by decide), if_neg (by decide), if_neg (by decide), if_neg (by decide), if_neg (by decide), if_neg (by decide), if_neg (by decide), if_neg (by decide), if_pos rfl, nI_add1, e, Option.bind_some])
/-- what an ask comes to and leaves, by the kind (1 to 5) -/
def askV (nu ki ye th st ri w : Int32) : Int32 :=
  if ki = 1 then (if w = 0 then th + nu else nu) else if ki = 2 then (if w = 0 then th - st else nu + (th - st)) else if ki = 3 then (if w = 0 then 2 * (th + (nu + ri)) else nu + ri) else if ki = 4 then (if w = 0 then th + (nu + ye) else nu + ye) else if w = 0 then th - st + 100 else -(nu + (th - st + 100))
def askL (ki w : Int32) : List Int32 :=
  if ki = 1 then (if w = 0 then [11, 10, 20] else [20]) else if ki = 2 then (if w = 0 then [13, 10] else [22, 20, 13, 10]) else if ki = 3 then (if w = 0 then [12, 11, 10, 24, 20] else [24, 20]) else if ki = 4 then (if w = 0 then [11, 10, 21, 20] else [21, 20]) else if w = 0 then [14, 13, 10] else [23, 22, 20, 14, 13, 10]
theorem run_all {D : Nat} {nu ki ye th st ri w : Int32} (h : ki = 1 ∨ ki = 2 ∨ ki = 3 ∨ ki = 4 ∨ ki = 5) : RUN (D + 6) 0 nu ki ye th st ri (bdy ki w) (askV nu ki ye th st ri w) (askL ki w) := by
  obtain rfl | rfl | rfl | rfl | rfl := h
  · by_cases w0 : w = 0
    · subst w0
      exact run_11 (k := 0) (by omega) (run_0 (by omega)).2
    · have e1 : bdy 1 w = 20 := by unfold bdy; rw [if_pos rfl, if_neg w0]
      have e2 : askV nu 1 ye th st ri w = nu := by unfold askV; rw [if_pos rfl, if_neg w0]
      have e3 : askL 1 w = [20] := by unfold askL; rw [if_pos rfl, if_neg w0]
      rw [e1, e2, e3]
      exact (run_0 (by omega)).2
  · by_cases w0 : w = 0
    · subst w0
      exact run_13 (by omega)
    · have e1 : bdy 2 w = 22 := by unfold bdy; rw [if_neg (by decide), if_pos rfl, if_neg w0]
      have e2 : askV nu 2 ye th st ri w = nu + (th - st) := by unfold askV; rw [if_neg (by decide), if_pos rfl, if_neg w0]
      have e3 : askL 2 w = [22, 20, 13, 10] := by unfold askL; rw [if_neg (by decide), if_pos rfl, if_neg w0]
      rw [e1, e2, e3]
      exact run_22 (k := 0) (by omega) (run_13 (by omega))
  · by_cases w0 : w = 0
    · subst w0
      exact run_12 (k := 0) (by omega) (run_11 (by omega) (run_24 (by omega)))
    · have e1 : bdy 3 w = 24 := by unfold bdy; rw [if_neg (by decide), if_neg (by decide), if_pos rfl, if_neg w0]
      have e2 : askV nu 3 ye th st ri w = nu + ri := by unfold askV; rw [if_neg (by decide), if_neg (by decide), if_pos rfl, if_neg w0]
      have e3 : askL 3 w = [24, 20] := by unfold askL; rw [if_neg (by decide), if_neg (by decide), if_pos rfl, if_neg w0]
      rw [e1, e2, e3]
      exact run_24 (by omega)
  · by_cases w0 : w = 0
    · subst w0
      exact run_11 (k := 0) (by omega) (run_21 (by omega))
    · have e1 : bdy 4 w = 21 := by unfold bdy; rw [if_neg (by decide), if_neg (by decide), if_neg (by decide), if_pos rfl, if_neg w0]
      have e2 : askV nu 4 ye th st ri w = nu + ye := by unfold askV; rw [if_neg (by decide), if_neg (by decide), if_neg (by decide), if_pos rfl, if_neg w0]
      have e3 : askL 4 w = [21, 20] := by unfold askL; rw [if_neg (by decide), if_neg (by decide), if_neg (by decide), if_pos rfl, if_neg w0]
      rw [e1, e2, e3]
      exact run_21 (by omega)
  · by_cases w0 : w = 0
    · subst w0
      exact run_14 (by omega)
    · have e1 : bdy 5 w = 23 := by unfold bdy; rw [if_neg (by decide), if_neg (by decide), if_neg (by decide), if_neg (by decide), if_pos rfl, if_neg w0]
      have e2 : askV nu 5 ye th st ri w = -(nu + (th - st + 100)) := by unfold askV; rw [if_neg (by decide), if_neg (by decide), if_neg (by decide), if_neg (by decide), if_neg w0]
      have e3 : askL 5 w = [23, 22, 20, 14, 13, 10] := by unfold askL; rw [if_neg (by decide), if_neg (by decide), if_neg (by decide), if_neg (by decide), if_neg w0]
      rw [e1, e2, e3]
      exact run_23 (k := 0) (by omega) (run_22 (by omega) (run_14 (by omega)))
