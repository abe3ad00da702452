/-! THE TABLES AGREE WITH THE WORDS (by program, checked here) -/
theorem ax_all_app {α : Type} {p : α → Bool} {a b : List α} (h1 : a.all p = true) (h2 : b.all p = true) : (a ++ b).all p = true := by rw [List.all_append, h1, h2]; rfl
theorem ax_all_cut {α : Type} {p : α → Bool} {l : List α} {n k n' : Nat} (hn : n + k = n') (h1 : ((l.drop n).take k).all p = true) (h2 : (l.drop n').all p = true) : (l.drop n).all p = true := by
  subst hn
  rw [← List.take_append_drop k (l.drop n)]
  exact ax_all_app h1 (by rw [List.drop_drop]; exact h2)
theorem ax_all_0 {α : Type} {p : α → Bool} {l : List α} (h : (l.drop 0).all p = true) : l.all p = true := by rw [List.drop_zero] at h; exact h
theorem ax_w_in {w : Cond} {i : Nat} (h : ax_w i = some w) : w ∈ lw_tbl := by
  have hm : w ∈ ax_tb (i / 240) := List.mem_of_getElem? h
  generalize i / 240 = c at hm
  match c, hm with
  | 0, hm => exact List.mem_append_left _ hm
  | 1, hm => exact List.mem_append_right _ (List.mem_append_left _ hm)
  | 2, hm => exact List.mem_append_right _ (List.mem_append_right _ (List.mem_append_left _ hm))
  | 3, hm => exact List.mem_append_right _ (List.mem_append_right _ (List.mem_append_right _ (List.mem_append_left _ hm)))
  | 4, hm => exact List.mem_append_right _ (List.mem_append_right _ (List.mem_append_right _ (List.mem_append_right _ (List.mem_append_left _ hm))))
  | 5, hm => exact List.mem_append_right _ (List.mem_append_right _ (List.mem_append_right _ (List.mem_append_right _ (List.mem_append_right _ (List.mem_append_left _ hm)))))
  | 6, hm => exact List.mem_append_right _ (List.mem_append_right _ (List.mem_append_right _ (List.mem_append_right _ (List.mem_append_right _ (List.mem_append_right _ (List.mem_append_left _ hm))))))
  | 7, hm => exact List.mem_append_right _ (List.mem_append_right _ (List.mem_append_right _ (List.mem_append_right _ (List.mem_append_right _ (List.mem_append_right _ (List.mem_append_right _ (List.mem_append_left _ hm)))))))
  | 8, hm => exact List.mem_append_right _ (List.mem_append_right _ (List.mem_append_right _ (List.mem_append_right _ (List.mem_append_right _ (List.mem_append_right _ (List.mem_append_right _ (List.mem_append_right _ hm)))))))
  | n + 9, hm => exact absurd hm List.not_mem_nil
theorem ax_all_nil {α : Type} {p : α → Bool} {l : List α} (h : l = []) : l.all p = true := by rw [h]; rfl
def ax_TB : List Cond := lw_tbl.filter goodWord
def ax_okM (r : ax_R) : Prop := ax_w (r.2.2.2.2.2.2.2.1) = some (.code r.1 r.2.1 r.2.2.1 r.2.2.2.1) ∧
  ax_w (r.2.2.2.2.2.2.2.2.1) = some (if r.2.2.2.2.2.1 = true then .static r.1 else .instanceMethod r.1) ∧
  (r.2.2.2.2.2.1 = true ∨ r.1.name = "<init>" ∨ ax_w (r.2.2.2.2.2.2.2.2.2.1) = some (.selects r.1.cls r.1 r.1)) ∧
  ax_w (r.2.2.2.2.2.2.2.2.2.2) = some (.initialized r.1.cls) ∧ ax_cn r.2.2.2.2.1 = r.1.cls ∧
  (parseMethodDescriptor r.1.desc).map (fun d => d.parameters.length) = some r.2.2.2.2.2.2.1 ∧
  plainName r.1.cls = true ∧ r.1.cls ≠ "java/lang/invoke/MethodHandle" ∧ r.1.cls ≠ "java/lang/invoke/VarHandle" ∧ r.2.2.1 ≤ 40
def ax_bM (r : ax_R) : Bool := (decide (ax_w (r.2.2.2.2.2.2.2.2.1) = some (if r.2.2.2.2.2.1 = true then .static r.1 else .instanceMethod r.1)) &&
  (decide (r.2.2.2.2.2.1 = true ∨ r.1.name = "<init>" ∨ ax_w (r.2.2.2.2.2.2.2.2.2.1) = some (.selects r.1.cls r.1 r.1)) &&
  (decide (ax_w (r.2.2.2.2.2.2.2.2.2.2) = some (.initialized r.1.cls)) && (decide (ax_cn r.2.2.2.2.1 = r.1.cls) &&
  (decide ((parseMethodDescriptor r.1.desc).map (fun d => d.parameters.length) = some r.2.2.2.2.2.2.1) &&
  (plainName r.1.cls && decide (r.1.cls ≠ "java/lang/invoke/MethodHandle" ∧ r.1.cls ≠ "java/lang/invoke/VarHandle" ∧ r.2.2.1 ≤ 40)))))))
theorem ax_okM_of {r : ax_R} (h0 : ax_w (r.2.2.2.2.2.2.2.1) = some (.code r.1 r.2.1 r.2.2.1 r.2.2.2.1)) (h : ax_bM r = true) : ax_okM r := by
  simp only [ax_bM, Bool.and_eq_true, decide_eq_true_eq] at h
  obtain ⟨h2, h3, h4, h5, h6, h7, h8⟩ := h
  exact ⟨h0, h2, h3, h4, h5, h6, h7, h8⟩
def ax_cw (r : ax_R) : Option Cond := ax_w (r.2.2.2.2.2.2.2.1)
def ax_cv (r : ax_R) : Option Cond := some (.code r.1 r.2.1 r.2.2.1 r.2.2.2.1)
theorem ax_cd_app {a b : List ax_R} (h1 : a.map ax_cw = a.map ax_cv) (h2 : b.map ax_cw = b.map ax_cv) : (a ++ b).map ax_cw = (a ++ b).map ax_cv := by rw [List.map_append, List.map_append, h1, h2]
theorem ax_M_c0 : ax_M0.all ax_bM = true := by decide +kernel
theorem ax_M_c1 : ax_M1.all ax_bM = true := by decide +kernel
theorem ax_M_c2 : ax_M2.all ax_bM = true := by decide +kernel
theorem ax_M_c3 : ax_M3.all ax_bM = true := by decide +kernel
theorem ax_M_c4 : ax_M4.all ax_bM = true := by decide +kernel
theorem ax_M_c5 : ax_M5.all ax_bM = true := by decide +kernel
theorem ax_M_c6 : ax_M6.all ax_bM = true := by decide +kernel
theorem ax_M_c7 : ax_M7.all ax_bM = true := by decide +kernel
theorem ax_M_c8 : ax_M8.all ax_bM = true := by decide +kernel
theorem ax_M_c9 : ax_M9.all ax_bM = true := by decide +kernel
theorem ax_M_c10 : ax_M10.all ax_bM = true := by decide +kernel
theorem ax_M_b : ax_M.all ax_bM = true := ax_all_app ax_M_c0 (ax_all_app ax_M_c1 (ax_all_app ax_M_c2 (ax_all_app ax_M_c3 (ax_all_app ax_M_c4 (ax_all_app ax_M_c5 (ax_all_app ax_M_c6 (ax_all_app ax_M_c7 (ax_all_app ax_M_c8 (ax_all_app ax_M_c9 (ax_M_c10))))))))))
set_option maxRecDepth 20000 in
theorem ax_cd0 : ax_M0.map ax_cw = ax_M0.map ax_cv := rfl
set_option maxRecDepth 20000 in
theorem ax_cd1 : ax_M1.map ax_cw = ax_M1.map ax_cv := rfl
set_option maxRecDepth 20000 in
theorem ax_cd2 : ax_M2.map ax_cw = ax_M2.map ax_cv := rfl
set_option maxRecDepth 20000 in
theorem ax_cd3 : ax_M3.map ax_cw = ax_M3.map ax_cv := rfl
set_option maxRecDepth 20000 in
theorem ax_cd4 : ax_M4.map ax_cw = ax_M4.map ax_cv := rfl
set_option maxRecDepth 20000 in
theorem ax_cd5 : ax_M5.map ax_cw = ax_M5.map ax_cv := rfl
set_option maxRecDepth 20000 in
theorem ax_cd6 : ax_M6.map ax_cw = ax_M6.map ax_cv := rfl
set_option maxRecDepth 20000 in
theorem ax_cd7 : ax_M7.map ax_cw = ax_M7.map ax_cv := rfl
set_option maxRecDepth 20000 in
theorem ax_cd8 : ax_M8.map ax_cw = ax_M8.map ax_cv := rfl
set_option maxRecDepth 20000 in
theorem ax_cd9 : ax_M9.map ax_cw = ax_M9.map ax_cv := rfl
set_option maxRecDepth 20000 in
theorem ax_cd10 : ax_M10.map ax_cw = ax_M10.map ax_cv := rfl
theorem ax_cd : ax_M.map ax_cw = ax_M.map ax_cv := ax_cd_app ax_cd0 (ax_cd_app ax_cd1 (ax_cd_app ax_cd2 (ax_cd_app ax_cd3 (ax_cd_app ax_cd4 (ax_cd_app ax_cd5 (ax_cd_app ax_cd6 (ax_cd_app ax_cd7 (ax_cd_app ax_cd8 (ax_cd_app ax_cd9 (ax_cd10))))))))))
theorem ax_M_ok {r : ax_R} (h : r ∈ ax_M) : ax_okM r := ax_okM_of (List.map_inj_left.mp ax_cd r h) (List.all_eq_true.mp ax_M_b r h)
def ax_bf (e : Nat × Nat × Nat) : Bool := match vwCl[e.2.1 / 64]? with
  | some q => decide (e.2.1 % 64 < q.2.2 ∧ (q.2.1 (e.2.1 % 64)).1 = q.1 ∧ ax_w (e.2.2) = some (.fieldLink (ax_cn (e.1 / 2048)) (e.1 % 2048) q.1 (q.2.1 (e.2.1 % 64)).2.1 (q.2.1 (e.2.1 % 64)).2.2.1))
  | none => false
theorem ax_Tf_b0 : ((ax_Tf.drop 0).take 30).all ax_bf = true := by decide +kernel
theorem ax_Tf_b1 : ((ax_Tf.drop 30).take 30).all ax_bf = true := by decide +kernel
theorem ax_Tf_b2 : ((ax_Tf.drop 60).take 30).all ax_bf = true := by decide +kernel
theorem ax_Tf_b3 : ((ax_Tf.drop 90).take 30).all ax_bf = true := by decide +kernel
theorem ax_Tf_b4 : ((ax_Tf.drop 120).take 30).all ax_bf = true := by decide +kernel
theorem ax_Tf_e : (ax_Tf.drop 150) = [] := by decide +kernel
theorem ax_Tf_b : ax_Tf.all ax_bf = true := ax_all_0 (ax_all_cut (n := 0) (k := 30) (n' := 30) rfl ax_Tf_b0 (ax_all_cut (n := 30) (k := 30) (n' := 60) rfl ax_Tf_b1 (ax_all_cut (n := 60) (k := 30) (n' := 90) rfl ax_Tf_b2 (ax_all_cut (n := 90) (k := 30) (n' := 120) rfl ax_Tf_b3 (ax_all_cut (n := 120) (k := 30) (n' := 150) rfl ax_Tf_b4 (ax_all_nil ax_Tf_e))))))
def ax_bg (e : Nat × Nat × Nat) : Bool := match vwCl[e.2.1 / 64]? with
  | some q => decide (e.2.1 % 64 < q.2.2 ∧ (q.2.1 (e.2.1 % 64)).1 = q.1 ∧ ax_w (e.2.2) = some (.fieldLinkNest (ax_cn (e.1 / 2048)) (e.1 % 2048) q.1 (q.2.1 (e.2.1 % 64)).2.1 (q.2.1 (e.2.1 % 64)).2.2.1 "CakeCards"))
  | none => false
theorem ax_Tg_b0 : ((ax_Tg.drop 0).take 30).all ax_bg = true := by decide +kernel
theorem ax_Tg_e : (ax_Tg.drop 30) = [] := by decide +kernel
theorem ax_Tg_b : ax_Tg.all ax_bg = true := ax_all_0 (ax_all_cut (n := 0) (k := 30) (n' := 30) rfl ax_Tg_b0 (ax_all_nil ax_Tg_e))
def ax_bm (e : Nat × Nat × Nat) : Bool := match ax_M[e.2.1]? with
  | some r => decide (ax_w (e.2.2) = some (.methodLink (ax_cn (e.1 / 2048)) (e.1 % 2048) r.1))
  | none => false
theorem ax_Tm_b0 : ((ax_Tm.drop 0).take 30).all ax_bm = true := by decide +kernel
theorem ax_Tm_b1 : ((ax_Tm.drop 30).take 30).all ax_bm = true := by decide +kernel
theorem ax_Tm_b2 : ((ax_Tm.drop 60).take 30).all ax_bm = true := by decide +kernel
theorem ax_Tm_b3 : ((ax_Tm.drop 90).take 30).all ax_bm = true := by decide +kernel
theorem ax_Tm_b4 : ((ax_Tm.drop 120).take 30).all ax_bm = true := by decide +kernel
theorem ax_Tm_b5 : ((ax_Tm.drop 150).take 30).all ax_bm = true := by decide +kernel
theorem ax_Tm_b6 : ((ax_Tm.drop 180).take 30).all ax_bm = true := by decide +kernel
theorem ax_Tm_b7 : ((ax_Tm.drop 210).take 30).all ax_bm = true := by decide +kernel
theorem ax_Tm_b8 : ((ax_Tm.drop 240).take 30).all ax_bm = true := by decide +kernel
theorem ax_Tm_b9 : ((ax_Tm.drop 270).take 30).all ax_bm = true := by decide +kernel
theorem ax_Tm_b10 : ((ax_Tm.drop 300).take 30).all ax_bm = true := by decide +kernel
theorem ax_Tm_b11 : ((ax_Tm.drop 330).take 30).all ax_bm = true := by decide +kernel
theorem ax_Tm_e : (ax_Tm.drop 360) = [] := by decide +kernel
theorem ax_Tm_b : ax_Tm.all ax_bm = true := ax_all_0 (ax_all_cut (n := 0) (k := 30) (n' := 30) rfl ax_Tm_b0 (ax_all_cut (n := 30) (k := 30) (n' := 60) rfl ax_Tm_b1 (ax_all_cut (n := 60) (k := 30) (n' := 90) rfl ax_Tm_b2 (ax_all_cut (n := 90) (k := 30) (n' := 120) rfl ax_Tm_b3 (ax_all_cut (n := 120) (k := 30) (n' := 150) rfl ax_Tm_b4 (ax_all_cut (n := 150) (k := 30) (n' := 180) rfl ax_Tm_b5 (ax_all_cut (n := 180) (k := 30) (n' := 210) rfl ax_Tm_b6 (ax_all_cut (n := 210) (k := 30) (n' := 240) rfl ax_Tm_b7 (ax_all_cut (n := 240) (k := 30) (n' := 270) rfl ax_Tm_b8 (ax_all_cut (n := 270) (k := 30) (n' := 300) rfl ax_Tm_b9 (ax_all_cut (n := 300) (k := 30) (n' := 330) rfl ax_Tm_b10 (ax_all_cut (n := 330) (k := 30) (n' := 360) rfl ax_Tm_b11 (ax_all_nil ax_Tm_e)))))))))))))
def ax_bn (e : Nat × Nat × Nat) : Bool := match ax_M[e.2.1]? with
  | some r => decide (ax_w (e.2.2) = some (.methodLinkNest (ax_cn (e.1 / 2048)) (e.1 % 2048) r.1 "CakeCards"))
  | none => false
theorem ax_Tn_b0 : ((ax_Tn.drop 0).take 30).all ax_bn = true := by decide +kernel
theorem ax_Tn_e : (ax_Tn.drop 30) = [] := by decide +kernel
theorem ax_Tn_b : ax_Tn.all ax_bn = true := ax_all_0 (ax_all_cut (n := 0) (k := 30) (n' := 30) rfl ax_Tn_b0 (ax_all_nil ax_Tn_e))
def ax_iN (j : Nat) : MethodName := match j with
  | 0 => Lib.Math.max.name
  | 1 => Lib.Math.min.name
  | 2 => Lib.Math.abs.name
  | 3 => arraycopyName
  | _ => Lib.objectInit
def ax_bi (e : Nat × Nat × Nat) : Bool := decide (e.2.1 ≤ 6 ∧ ax_w (e.2.2) = some (.methodLink (ax_cn (e.1 / 2048)) (e.1 % 2048) (ax_iN e.2.1)))
theorem ax_Ti_b0 : ((ax_Ti.drop 0).take 30).all ax_bi = true := by decide +kernel
theorem ax_Ti_e : (ax_Ti.drop 30) = [] := by decide +kernel
theorem ax_Ti_b : ax_Ti.all ax_bi = true := ax_all_0 (ax_all_cut (n := 0) (k := 30) (n' := 30) rfl ax_Ti_b0 (ax_all_nil ax_Ti_e))
def ax_xf (k : Nat) : String × String × String := match k with
  | 0 => ("java/lang/String", "value", "[B")
  | 1 => ("java/lang/String", "coder", "B")
  | 2 => ("java/lang/String", "COMPACT_STRINGS", "Z")
  | _ => ("jdk/internal/util/Preconditions", "SIOOBE_FORMATTER", "Ljava/util/function/BiFunction;")
def ax_bx (e : Nat × Nat × Nat) : Bool := decide (e.2.1 ≤ 3 ∧ ax_w (e.2.2) = some (.fieldLink (ax_cn (e.1 / 2048)) (e.1 % 2048) (ax_xf e.2.1).1 (ax_xf e.2.1).2.1 (ax_xf e.2.1).2.2))
theorem ax_Tx_b0 : ((ax_Tx.drop 0).take 30).all ax_bx = true := by decide +kernel
theorem ax_Tx_e : (ax_Tx.drop 30) = [] := by decide +kernel
theorem ax_Tx_b : ax_Tx.all ax_bx = true := ax_all_0 (ax_all_cut (n := 0) (k := 30) (n' := 30) rfl ax_Tx_b0 (ax_all_nil ax_Tx_e))
def ax_bc (e : Nat × Int × Nat) : Bool := decide (ax_w (e.2.2) = some (.constant (ax_cn (e.1 / 2048)) (e.1 % 2048) (Int32.ofInt e.2.1)))
theorem ax_Tc_b0 : ((ax_Tc.drop 0).take 30).all ax_bc = true := by decide +kernel
theorem ax_Tc_e : (ax_Tc.drop 30) = [] := by decide +kernel
theorem ax_Tc_b : ax_Tc.all ax_bc = true := ax_all_0 (ax_all_cut (n := 0) (k := 30) (n' := 30) rfl ax_Tc_b0 (ax_all_nil ax_Tc_e))
def ax_bl (e : Nat × Nat × Nat) : Bool := decide (ax_w (e.2.2) = some (.constantLong (ax_cn (e.1 / 2048)) (e.1 % 2048) (ax_LC.getD e.2.1 0)))
theorem ax_Tl_b0 : ((ax_Tl.drop 0).take 30).all ax_bl = true := by decide +kernel
theorem ax_Tl_b1 : ((ax_Tl.drop 30).take 30).all ax_bl = true := by decide +kernel
theorem ax_Tl_e : (ax_Tl.drop 60) = [] := by decide +kernel
theorem ax_Tl_b : ax_Tl.all ax_bl = true := ax_all_0 (ax_all_cut (n := 0) (k := 30) (n' := 30) rfl ax_Tl_b0 (ax_all_cut (n := 30) (k := 30) (n' := 60) rfl ax_Tl_b1 (ax_all_nil ax_Tl_e)))
def ax_bs (e : Nat × Nat × Nat) : Bool := match ax_SK[e.2.1]? with
  | some q => decide (e.1 < 40960 ∧ ax_cn (e.1 / 2048) = q.1 ∧ e.1 % 2048 = q.2.1 ∧ ax_w (e.2.2) = some (.stringRef q.1 q.2.1 q.2.2))
  | none => false
theorem ax_Ts_b0 : ((ax_Ts.drop 0).take 30).all ax_bs = true := by decide +kernel
theorem ax_Ts_e : (ax_Ts.drop 30) = [] := by decide +kernel
theorem ax_Ts_b : ax_Ts.all ax_bs = true := ax_all_0 (ax_all_cut (n := 0) (k := 30) (n' := 30) rfl ax_Ts_b0 (ax_all_nil ax_Ts_e))
def ax_bo (e : Nat × Nat × Nat) : Bool := match vwCl[e.2.1]? with
  | some q => decide (ax_w (e.2.2) = some (.classLink (ax_cn (e.1 / 2048)) (e.1 % 2048) q.1))
  | none => false
theorem ax_To_b0 : ((ax_To.drop 0).take 30).all ax_bo = true := by decide +kernel
theorem ax_To_e : (ax_To.drop 30) = [] := by decide +kernel
theorem ax_To_b : ax_To.all ax_bo = true := ax_all_0 (ax_all_cut (n := 0) (k := 30) (n' := 30) rfl ax_To_b0 (ax_all_nil ax_To_e))
/-- the class tables -/
def ax_ty (ci : Nat) : Nat → FieldType := match ci with
  | 0 => tyX0
  | 1 => tyX1
  | 2 => tyX2
  | 3 => tyX3
  | 4 => tyX4
  | 5 => tyX5
  | 6 => tyX6
  | 7 => tyX7
  | 8 => tyX8
  | 9 => tyX9
  | 10 => tyX10
  | _ => tyX11
def ax_clOk (ci : Nat) (q : vw_C) : Prop := (∀ a, a < q.2.2 → ∀ b, b < q.2.2 → a ≠ b → (q.2.1 a).2.1 ≠ (q.2.1 b).2.1) ∧ (∀ k, k < q.2.2 → parseFieldDescriptor (q.2.1 k).2.2.1 = some (ax_ty ci k)) ∧ q.2.2 ≤ 64
theorem ax_cl_ok {ci : Nat} {q : vw_C} (h : vwCl[ci]? = some q) : ax_clOk ci q := by
  have hl : ci < 12 := (List.getElem?_eq_some_iff.mp h).1
  match ci, hl, h with
  | 0, _, h => cases h; exact ⟨nmX0, tyX0_ok, by decide⟩
  | 1, _, h => cases h; exact ⟨nmX1, tyX1_ok, by decide⟩
  | 2, _, h => cases h; exact ⟨nmX2, tyX2_ok, by decide⟩
  | 3, _, h => cases h; exact ⟨nmX3, tyX3_ok, by decide⟩
  | 4, _, h => cases h; exact ⟨nmX4, tyX4_ok, by decide⟩
  | 5, _, h => cases h; exact ⟨nmX5, tyX5_ok, by decide⟩
  | 6, _, h => cases h; exact ⟨nmX6, tyX6_ok, by decide⟩
  | 7, _, h => cases h; exact ⟨nmX7, tyX7_ok, by decide⟩
  | 8, _, h => cases h; exact ⟨nmX8, tyX8_ok, by decide⟩
  | 9, _, h => cases h; exact ⟨nmX9, tyX9_ok, by decide⟩
  | 10, _, h => cases h; exact ⟨nmX10, tyX10_ok, by decide⟩
  | 11, _, h => cases h; exact ⟨nmX11, tyX11_ok, by decide⟩
def ax_bw (q : vw_C) : Bool := (u_ws q.1 q.2.1 q.2.2).all fun w => decide (w ∈ tables_1_1 ∨ w ∈ tables_1_2 ∨ w ∈ tables_1_3 ∨ w ∈ tables_1_4 ∨ w ∈ tables_1_5 ∨ w ∈ tables_1_6 ∨ w ∈ tables_1_7 ∨ w ∈ tables_1_8) && goodWord w
theorem ax_cl_b : vwCl.all ax_bw = true := by decide +kernel
theorem ax_cl_in {ci : Nat} {q : vw_C} (h : vwCl[ci]? = some q) : ∀ w ∈ u_ws q.1 q.2.1 q.2.2, w ∈ ax_TB := by
  intro w hw
  have h1 := List.all_eq_true.mp (List.all_eq_true.mp ax_cl_b q (List.mem_of_getElem? h)) w hw
  simp only [Bool.and_eq_true, decide_eq_true_eq] at h1
  refine List.mem_filter.mpr ⟨List.mem_append_right _ ?_, h1.2⟩
  simp only [tables_1, List.mem_append]
  exact h1.1
theorem ax_in {w : Cond} {i : Nat} (h : ax_w i = some w) (hg : goodWord w = true) : w ∈ ax_TB := List.mem_filter.mpr ⟨ax_w_in h, hg⟩
def ax_bI (q : vw_C) : Bool := decide (Cond.instantiable q.1 q.2.2 ∈ lw_tbl ∧ Cond.initialized q.1 ∈ lw_tbl)
theorem ax_cI_b : vwCl.all ax_bI = true := by decide +kernel
def ax_ow : List Cond := [.arrayClass .int, .arrayClass .byte, .arrayClass .boolean, .static Lib.Math.max.name, .static Lib.Math.min.name, .static Lib.Math.abs.name, .initialized "java/lang/Math", .code Lib.Math.max.name Lib.Math.max.code 2 (some .int), .code Lib.Math.min.name Lib.Math.min.code 2 (some .int), .code Lib.Math.abs.name Lib.Math.abs.code 1 (some .int), .native arraycopyName, .static arraycopyName, .initialized "java/lang/System", .instanceMethod Lib.objectInit, .code Lib.objectInit ⟨#[0xb1]⟩ 1 none]
theorem ax_ow_b : (ax_ow.all fun w => decide (w ∈ lw_tbl) && goodWord w) = true := by decide +kernel
