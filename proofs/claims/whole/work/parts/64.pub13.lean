/-! THE PUBLIC METHODS, 13: mend -/
abbrev alk (f g : Nat → Int32) (k : Nat) : Prop := f k ≠ -1000000 ∧ g k ≠ -1000000 ∧ f k = g k
theorem agr_1 {f g h : Nat → Int32} {k : Nat} (q : alk f g k ∨ alk f h k) : agr (f k) (g k) (h k) = f k ∧ f k ≠ -1000000 := by
  have h1 : f k ≠ -1000000 ∧ (f k = g k ∨ f k = h k) := q.elim (fun z => ⟨z.1, Or.inl z.2.2⟩) (fun z => ⟨z.1, Or.inr z.2.2⟩)
  exact ⟨if_pos h1, h1.1⟩
theorem agr_2 {f g h : Nat → Int32} {k : Nat} (q : ¬ (alk f g k ∨ alk f h k)) : ¬ (f k ≠ -1000000 ∧ (f k = g k ∨ f k = h k)) := by
  rintro ⟨h1, h2 | h2⟩
  · exact q (Or.inl ⟨h1, h2 ▸ h1, h2⟩)
  · exact q (Or.inr ⟨h1, h2 ▸ h1, h2⟩)
theorem agr_3 {f g h : Nat → Int32} {k : Nat} (q : ¬ (alk f g k ∨ alk f h k)) (q2 : alk g h k) : agr (f k) (g k) (h k) = g k ∧ g k ≠ -1000000 := by
  refine ⟨?_, q2.1⟩
  unfold agr
  rw [if_neg (agr_2 q), if_pos q2.2.2]
theorem agr_4 {f g h : Nat → Int32} {k : Nat} (q : ¬ (alk f g k ∨ alk f h k)) (q2 : ¬ alk g h k) : agr (f k) (g k) (h k) = -1000000 := by
  unfold agr
  rw [if_neg (agr_2 q)]
  by_cases h1 : g k = h k
  · rw [if_pos h1]
    apply Decidable.byContradiction
    intro h2
    exact q2 ⟨h2, h1 ▸ h2, h1⟩
  · rw [if_neg h1]
/-- a mark that is mended -/
abbrev mdP (row : Nat → Nat → Int32) (c x y z m : Nat) : Prop := row c m = -1000000 ∧ agr (row x m) (row y m) (row z m) ≠ -1000000
/-- the reference's row so far -/
abbrev mdN (σ τ : ax_S) (c x y z k : Nat) : Prop := (∀ i, (∀ m, m < 11 → i ≠ 15 * c + 5 + m) → i ≠ 15 * c + 4 → τ.1 88 i = σ.1 88 i) ∧ (∀ m, m < 32 → bt (ms τ c) m = if m < k ∧ mdP (mr σ) c x y z m then false else bt (ms σ c) m) ∧ (∀ m, m < 11 → mk τ c m = if m < k ∧ mdP (mr σ) c x y z m then agr (mr σ x m) (mr σ y m) (mr σ z m) else mk σ c m)
theorem bt_off (x : Int32) {j k : Nat} (hj : j < 32) (hk : k < 32) : bt (x &&& (b1 j ^^^ (-1))) k = (bt x k && !decide (k = j)) := by
  rw [bt_and, bt_xor, bt_1 hj hk, bt_m1 hk, Bool.xor_true]
/-- of one mark more -/
theorem mdN_put {σ τ : ax_S} {c x y z k : Nat} (hk : k < 11) (h : mdN σ τ c x y z k) (hp : mdP (mr σ) c x y z k) : mdN σ (sI (sI τ 88 (15 * c + 4) (τ.1 88 (15 * c + 4) &&& (b1 k ^^^ (-1)))) 88 (15 * c + 5 + k) (agr (mr σ x k) (mr σ y k) (mr σ z k))) c x y z (k + 1) := by
  obtain ⟨h1, h2, h3⟩ := h
  refine ⟨fun i hi1 hi2 => ?_, fun m hm => ?_, fun m hm => ?_⟩
  · rw [sI_k _ (hi1 k hk), sI_k _ hi2]
    exact h1 i hi1 hi2
  · have e : ms (sI (sI τ 88 (15 * c + 4) (τ.1 88 (15 * c + 4) &&& (b1 k ^^^ (-1)))) 88 (15 * c + 5 + k) (agr (mr σ x k) (mr σ y k) (mr σ z k))) c = ms τ c &&& (b1 k ^^^ (-1)) := by
      unfold ms
      rw [sI_k _ (by omega), sI_1]
    rw [e, bt_off _ (by omega) hm, h2 m hm]
    by_cases q : m = k
    · subst q
      rw [decide_eq_true rfl, Bool.not_true, Bool.and_false, if_pos ⟨Nat.lt_succ_self m, hp⟩]
    · rw [decide_eq_false q, Bool.not_false, Bool.and_true]
      by_cases q2 : m < k ∧ mdP (mr σ) c x y z m
      · rw [if_pos q2, if_pos ⟨by omega, q2.2⟩]
      · rw [if_neg q2, if_neg (fun q3 => q2 ⟨by have := q3.1; omega, q3.2⟩)]
  · have e : ∀ v w, mk (sI (sI τ 88 (15 * c + 4) w) 88 (15 * c + 5 + k) v) c m = if m = k then v else mk τ c m := by
      intro v w
      unfold mk
      by_cases q : m = k
      · rw [if_pos q, q, sI_1]
      · rw [if_neg q, sI_k _ (by omega), sI_k _ (by omega)]
    rw [e, h3 m hm]
    by_cases q : m = k
    · subst q
      rw [if_pos rfl, if_pos ⟨Nat.lt_succ_self m, hp⟩]
    · rw [if_neg q]
      by_cases q2 : m < k ∧ mdP (mr σ) c x y z m
      · rw [if_pos q2, if_pos ⟨by omega, q2.2⟩]
      · rw [if_neg q2, if_neg (fun q3 => q2 ⟨by have := q3.1; omega, q3.2⟩)]
theorem mdN_skip {σ τ : ax_S} {c x y z k : Nat} (h : mdN σ τ c x y z k) (hp : ¬ mdP (mr σ) c x y z k) : mdN σ τ c x y z (k + 1) := by
  obtain ⟨h1, h2, h3⟩ := h
  refine ⟨h1, fun m hm => ?_, fun m hm => ?_⟩
  · rw [h2 m hm]
    by_cases q2 : m < k ∧ mdP (mr σ) c x y z m
    · rw [if_pos q2, if_pos ⟨by omega, q2.2⟩]
    · rw [if_neg q2, if_neg (fun q3 => q2 ⟨by
        have := q3.1
        have : m ≠ k := fun q => hp (q ▸ q3.2)
        omega, q3.2⟩)]
  · rw [h3 m hm]
    by_cases q2 : m < k ∧ mdP (mr σ) c x y z m
    · rw [if_pos q2, if_pos ⟨by omega, q2.2⟩]
    · rw [if_neg q2, if_neg (fun q3 => q2 ⟨by
        have := q3.1
        have : m ≠ k := fun q => hp (q ▸ q3.2)
        omega, q3.2⟩)]
theorem m_alike0 (d : Nat) (σ : ax_S) {a b k : Nat} (ha : a < 12) (hb : b < 12) (hk : k < 11) : cI sO (d + 2) 256 [.ref 82, .int (nI a), .int (nI b), .int (nI k)] σ = some (bi (bt (ms σ a) k = false ∧ bt (ms σ b) k = false ∧ mk σ a k = mk σ b k), σ) := by
  refine cI_ev mi_256 ((u_256_82 d σ _ _ _).trans ?_) rfl
  simp only [m_isKnown _ σ ha hk, m_isKnown _ σ hb hk, m_mark _ σ ha hk, m_mark _ σ hb hk, Option.bind_some, bi_0]
  by_cases h1 : bt (ms σ a) k = false
  · rw [if_neg (fun q => q h1)]
    by_cases h2 : bt (ms σ b) k = false
    · rw [if_neg (fun q => q h2)]
      by_cases h3 : mk σ a k = mk σ b k
      · rw [if_pos h3, bi_t ⟨h1, h2, h3⟩]
      · rw [if_neg h3, bi_f (fun q => h3 q.2.2)]
    · rw [if_pos h2, bi_f (fun q => h2 q.2.1)]
  · rw [if_pos h1, bi_f (fun q => h1 q.1)]
theorem alk_iff {σ : ax_S} {n a b k : Nat} (hi : mI σ n) (ha : a < n) (hb : b < n) (hk : k < 11) : (bt (ms σ a) k = false ∧ bt (ms σ b) k = false ∧ mk σ a k = mk σ b k) ↔ alk (mr σ a) (mr σ b) k := by
  have ka := mr_kn hi ha hk
  have kb := mr_kn hi hb hk
  constructor
  · rintro ⟨h1, h2, h3⟩
    exact ⟨ka.mp h1, kb.mp h2, by rw [mr_f h1, mr_f h2, h3]⟩
  · rintro ⟨h1, h2, h3⟩
    have e1 := ka.mpr h1
    have e2 := kb.mpr h2
    exact ⟨e1, e2, by rw [← mr_f e1, ← mr_f e2, h3]⟩
theorem m_mend (d : Nat) {σ : ax_S} {n c x y z : Nat} (hn : n ≤ 12) (hi : mI σ n) (hc : c < n) (hx : x < n) (hy : y < n) (hz : z < n) (cx : x ≠ c) (cy : y ≠ c) (cz : z ≠ c) : ∃ ρ, ev sO (d + 3) 276 81 [.ref 82, .int (nI c), .int (nI x), .int (nI y), .int (nI z), .int 0, .int 0, .null] [] σ = some (some (.long (nI (mdn (mr σ) c x y z)).toInt64), ρ) ∧ sm [88] σ ρ ∧ mdN σ ρ c x y z 11 := by
  obtain ⟨⟨u, w, ρ⟩, ⟨p1, p2, p3, p4⟩, e⟩ := loop_P (E := fun k (s : Int32 × Value × ax_S) => ev sO (d + 3) 276 81 [.ref 82, .int (nI c), .int (nI x), .int (nI y), .int (nI z), .int s.1, .int (nI k), s.2.1] [] s.2.2) (N := 11) (P := fun k s => s.1 = nI (cn (mdP (mr σ) c x y z) k) ∧ c1 s.2.1 ∧ sm [88] σ s.2.2 ∧ mdN σ s.2.2 c x y z k) (fun k s hk hp => by
    obtain ⟨u, w, τ⟩ := s
    obtain ⟨p1, p2, p3, p4⟩ := hp
    simp only at p1 p2 p3 p4 ⊢
    have oms : ∀ j, j < n → j ≠ c → ms τ j = ms σ j := fun j hj hjc => p4.1 _ (fun m hm => by omega) (by omega)
    have omk : ∀ j, j < n → j ≠ c → mk τ j k = mk σ j k := fun j hj hjc => p4.1 _ (fun m hm => by omega) (by omega)
    have oc : bt (ms τ c) k = bt (ms σ c) k := by rw [p4.2.1 k (by omega), if_neg (fun q => Nat.lt_irrefl k q.1)]
    have kc2 := mr_kn hi hc hk
    have e4 : (15 : Int32) * nI c + 4 = nI (15 * c + 4) := nI_15 (r := 4) (by omega) (by omega)
    have e5 : (15 : Int32) * nI c + 5 = nI (15 * c + 5) := nI_15 (r := 5) (by omega) (by omega)
    have e6 : nI (15 * c + 5) + nI k = nI (15 * c + 5 + k) := nI_pl (by omega)
    have g4 : 0 ≤ (nI (15 * c + 4)).toInt ∧ (nI (15 * c + 4)).toInt < (181 : Nat) := by rw [nI_i (by omega)]; omega
    have g6 : 0 ≤ (nI (15 * c + 5 + k)).toInt ∧ (nI (15 * c + 5 + k)).toInt < (181 : Nat) := by rw [nI_i (by omega)]; omega
    have omk2 : ∀ j w, j < n → j ≠ c → mk (sI τ 88 (15 * c + 4) w) j k = mk σ j k := fun j w hj hjc => by
      rw [← omk j hj hjc]
      unfold mk
      rw [sI_k _ (by omega)]
    rw [u_276_82p81 _ _ _ _ _ _ _ _ _ p2, if_pos (l11 hk)]
    simp only [m_alike0 _ τ (show x < 12 by omega) (show y < 12 by omega) hk, m_alike0 _ τ (show x < 12 by omega) (show z < 12 by omega) hk, m_alike0 _ τ (show y < 12 by omega) (show z < 12 by omega) hk, m_isKnown _ τ (show c < 12 by omega) hk, Option.bind_some, bi_0, oms x hx cx, oms y hy cy, oms z hz cz, omk x hx cx, omk y hy cy, omk z hz cz, oc, nI_add1, alk_iff hi hx hy hk, alk_iff hi hx hz hk, alk_iff hi hy hz hk, e4, e5, e6, nI_c (show 15 * c + 4 < 2147483648 by omega), nI_c (show 15 * c + 5 + k < 2147483648 by omega), m_mark _ _ (show x < 12 by omega) hk, m_mark _ _ (show y < 12 by omega) hk]
    have upd : ∀ f, f < n → f ≠ c → agr (mr σ x k) (mr σ y k) (mr σ z k) = mr σ f k → mr σ f k ≠ -1000000 → mr σ c k = -1000000 → ∃ s' : Int32 × Value × ax_S, (s'.1 = nI (cn (mdP (mr σ) c x y z) (k + 1)) ∧ c1 s'.2.1 ∧ sm [88] σ s'.2.2 ∧ mdN σ s'.2.2 c x y z (k + 1)) ∧ ev sO (d + 3) 276 81 [.ref 82, .int (nI c), .int (nI x), .int (nI y), .int (nI z), .int (u + 1), .int (nI (k + 1)), .int (nI f)] [] (sI (sI τ 88 (15 * c + 4) (τ.1 88 (15 * c + 4) &&& (b1 k ^^^ (-1)))) 88 (15 * c + 5 + k) (mk (sI τ 88 (15 * c + 4) (τ.1 88 (15 * c + 4) &&& (b1 k ^^^ (-1)))) f k)) = ev sO (d + 3) 276 81 [.ref 82, .int (nI c), .int (nI x), .int (nI y), .int (nI z), .int s'.1, .int (nI (k + 1)), s'.2.1] [] s'.2.2 := fun f hf hfc ha hv hcn => by
      have hp : mdP (mr σ) c x y z k := ⟨hcn, by rw [ha]; exact hv⟩
      have hb := (mr_kn hi hf hk).mpr hv
      refine ⟨(u + 1, .int (nI f), _), ⟨?_, rfl, (p3.set _ _ (by decide)).set _ _ (by decide), mdN_put hk p4 hp⟩, ?_⟩
      · show u + 1 = _
        rw [p1, cn_s, if_pos hp, nI_add1]
      · rw [omk2 f _ hf hfc, ← mr_f hb, ha]
        rfl
    have skp : ∀ w', c1 w' → ¬ mdP (mr σ) c x y z k → ∃ s' : Int32 × Value × ax_S, (s'.1 = nI (cn (mdP (mr σ) c x y z) (k + 1)) ∧ c1 s'.2.1 ∧ sm [88] σ s'.2.2 ∧ mdN σ s'.2.2 c x y z (k + 1)) ∧ ev sO (d + 3) 276 81 [.ref 82, .int (nI c), .int (nI x), .int (nI y), .int (nI z), .int u, .int (nI (k + 1)), w'] [] τ = ev sO (d + 3) 276 81 [.ref 82, .int (nI c), .int (nI x), .int (nI y), .int (nI z), .int s'.1, .int (nI (k + 1)), s'.2.1] [] s'.2.2 := fun w' hw' hp => ⟨(u, w', τ), ⟨by
        show u = _
        rw [p1, cn_s, if_neg hp], hw', p3, mdN_skip p4 hp⟩, rfl⟩
    have nn : ∀ j, j < n → nI j ≠ (-1000000 : Int32) := fun j hj => nI_nn (by omega)
    by_cases a1 : alk (mr σ x) (mr σ y) k
    · have A := agr_1 (h := mr σ z) (Or.inl a1)
      rw [if_neg (show ¬ ¬ alk (mr σ x) (mr σ y) k from fun q => q a1)]
      by_cases kn : bt (ms σ c) k = false
      · rw [if_neg (fun q => q kn)]
        exact skp _ rfl (fun q => kc2.mp kn q.1)
      · rw [if_pos kn, if_neg (nn x hx), gd_t g4, gd_t g4, gd_t g6]
        exact upd x hx cx A.1 A.2 (Decidable.byContradiction (fun q => kn (kc2.mpr q)))
    · rw [if_pos a1]
      by_cases a2 : alk (mr σ x) (mr σ z) k
      · have A := agr_1 (g := mr σ y) (Or.inr a2)
        rw [if_neg (show ¬ ¬ alk (mr σ x) (mr σ z) k from fun q => q a2)]
        by_cases kn : bt (ms σ c) k = false
        · rw [if_neg (fun q => q kn)]
          exact skp _ rfl (fun q => kc2.mp kn q.1)
        · rw [if_pos kn, if_neg (nn x hx), gd_t g4, gd_t g4, gd_t g6]
          exact upd x hx cx A.1 A.2 (Decidable.byContradiction (fun q => kn (kc2.mpr q)))
      · rw [if_pos a2]
        have a12 : ¬ (alk (mr σ x) (mr σ y) k ∨ alk (mr σ x) (mr σ z) k) := fun q => q.elim a1 a2
        by_cases a3 : alk (mr σ y) (mr σ z) k
        · have A := agr_3 a12 a3
          rw [if_neg (show ¬ ¬ alk (mr σ y) (mr σ z) k from fun q => q a3)]
          by_cases kn : bt (ms σ c) k = false
          · rw [if_neg (fun q => q kn)]
            exact skp _ rfl (fun q => kc2.mp kn q.1)
          · rw [if_pos kn, if_neg (nn y hy), gd_t g4, gd_t g4, gd_t g6]
            exact upd y hy cy A.1 A.2 (Decidable.byContradiction (fun q => kn (kc2.mpr q)))
        · rw [if_pos a3]
          have sk := skp (.int (-1000000)) rfl (fun q => q.2 (agr_4 a12 a3))
          split
          · exact sk
          · exact sk) (0, .null, σ) ⟨rfl, rfl, sm.rf _ _, fun i _ _ => rfl, fun m hm => by rw [if_neg (fun q => Nat.not_lt_zero m q.1)], fun m hm => by rw [if_neg (fun q => Nat.not_lt_zero m q.1)]⟩
  refine ⟨ρ, e.trans ?_, p3, p4⟩
  simp only at p1 p2 ⊢
  rw [u_276_82p81 _ _ _ _ _ _ _ _ _ p2, if_neg g11, p1]
  rfl
abbrev mdG (n : Nat) (x1 x2 x3 x4 : Int32) : Prop := hasP (nI n) x1 ∧ hasP (nI n) x2 ∧ hasP (nI n) x3 ∧ hasP (nI n) x4 ∧ x1 ≠ x2 ∧ x1 ≠ x3 ∧ x1 ≠ x4 ∧ x2 ≠ x3 ∧ x2 ≠ x4 ∧ x3 ≠ x4
/-- the same marks come of it on both sides -/
theorem RD_mend {σ τ ρ : ax_S} {n c x y z : Nat} (h : RD (σ.1 17 0) (σ.1 18) (σ.1 19) (σ.1 20) (σ.1 21) (σ.1 88) n) (hc : c < n) (hx : x < n) (hy : y < n) (hz : z < n) (cx : x ≠ c) (cy : y ≠ c) (cz : z ≠ c) (hm : ∀ i m, m < 11 → cr τ i m = if i = c ∧ cr σ c m = -1000000 then agr (cr σ x m) (cr σ y m) (cr σ z m) else cr σ i m) (hN : mdN σ ρ c x y z 11) : RD (σ.1 17 0) (σ.1 18) (σ.1 19) (σ.1 20) (τ.1 21) (ρ.1 88) n := by
  obtain ⟨hn, -, -, hi, -, -, he, -⟩ := rd_of h
  obtain ⟨n1, n2, n3⟩ := hN
  refine RD_mk h (n1 0 (fun m hm => by omega) (by omega)) (fun j hj => ⟨n1 _ (fun m hm => by omega) (by omega), n1 _ (fun m hm => by omega) (by omega), n1 _ (fun m hm => by omega) (by omega)⟩) (fun j hj => ?_)
  obtain ⟨-, -, -, h4⟩ := h
  by_cases q : j = c
  · subst q
    obtain ⟨-, -, -, -, a5, a6, -⟩ := h4 j hj
    have ms1 : ∀ m, m < 32 → bt (ρ.1 88 (15 * j + 4)) m = if m < 11 ∧ mdP (mr σ) j x y z m then false else bt (σ.1 88 (15 * j + 4)) m := n2
    have mk1 : ∀ m, m < 11 → ρ.1 88 (15 * j + 5 + m) = if m < 11 ∧ mdP (mr σ) j x y z m then agr (mr σ x m) (mr σ y m) (mr σ z m) else σ.1 88 (15 * j + 5 + m) := n3
    refine ⟨fun m hm2 => ?_, fun m q1 q2 => by rw [ms1 m q2, if_neg (fun q => by have := q.1; omega)]; exact a6 m q1 q2⟩
    obtain ⟨c1, c2, c3, c4⟩ := a5 m hm2
    have ej : cr σ j m = mr σ j m := (he j hj).2 m hm2
    have hmj := hm j m hm2
    rw [(he x hx).2 m hm2, (he y hy).2 m hm2, (he z hz).2 m hm2, ej] at hmj
    have hmj2 : τ.1 21 (j * 11 + m) = if j = j ∧ mr σ j m = -1000000 then agr (mr σ x m) (mr σ y m) (mr σ z m) else mr σ j m := hmj
    unfold mkC
    by_cases p : mr σ j m = -1000000
    · have em : τ.1 21 (j * 11 + m) = agr (mr σ x m) (mr σ y m) (mr σ z m) := hmj2.trans (if_pos ⟨rfl, p⟩)
      by_cases p2 : agr (mr σ x m) (mr σ y m) (mr σ z m) = -1000000
      · have hnp : ¬ (m < 11 ∧ mdP (mr σ) j x y z m) := fun q => q.2.2 p2
        have eb := (ms1 m (by omega)).trans (if_neg hnp)
        have ek := (mk1 m hm2).trans (if_neg hnp)
        rw [em, eb, ek, p2]
        refine ⟨?_, c2, c3, c4⟩
        have : σ.1 21 (j * 11 + m) = -1000000 := ej.trans p
        exact this.symm.trans c1
      · have hnp : m < 11 ∧ mdP (mr σ) j x y z m := ⟨hm2, p, p2⟩
        have eb := (ms1 m (by omega)).trans (if_pos hnp)
        have ek := (mk1 m hm2).trans (if_pos hnp)
        have src : ∃ f, f < n ∧ agr (mr σ x m) (mr σ y m) (mr σ z m) = mr σ f m := by
          unfold agr at p2 ⊢
          split
          · exact ⟨x, hx, rfl⟩
          · split
            · exact ⟨y, hy, rfl⟩
            · rename_i r1 r2
              rw [if_neg r1, if_neg r2] at p2
              exact absurd rfl p2
        obtain ⟨f, hf, ef⟩ := src
        have p3 : mr σ f m ≠ -1000000 := fun q => p2 (ef.trans q)
        have hb := (mr_kn hi hf hm2).mpr p3
        obtain ⟨-, -, -, -, b5, -⟩ := h4 f hf
        obtain ⟨-, d2, d3, -⟩ := b5 m hm2
        rw [em, eb, ek, ef, mr_f hb]
        exact ⟨(if_neg (by decide)).symm, d2, d3, fun q => absurd q (by decide)⟩
    · have em : τ.1 21 (j * 11 + m) = mr σ j m := hmj2.trans (if_neg (fun q => p q.2))
      have hnp : ¬ (m < 11 ∧ mdP (mr σ) j x y z m) := fun q => p q.2.1
      have eb := (ms1 m (by omega)).trans (if_neg hnp)
      have ek := (mk1 m hm2).trans (if_neg hnp)
      rw [em, eb, ek, ← ej]
      exact ⟨c1, c2, c3, c4⟩
  · obtain ⟨-, -, -, -, a5, a6, -⟩ := h4 j hj
    have e4 : ρ.1 88 (15 * j + 4) = σ.1 88 (15 * j + 4) := n1 _ (fun m hm => by omega) (by omega)
    rw [e4]
    refine ⟨fun m hm2 => ?_, a6⟩
    have e5 : ρ.1 88 (15 * j + 5 + m) = σ.1 88 (15 * j + 5 + m) := n1 _ (fun m hm => by omega) (by omega)
    have hmj := hm j m hm2
    rw [if_neg (fun q2 => q q2.1)] at hmj
    have hmj2 : τ.1 21 (j * 11 + m) = σ.1 21 (j * 11 + m) := hmj
    unfold mkC
    rw [e4, e5, hmj2]
    exact a5 m hm2
