/-! THE PUBLIC METHODS, 34: copied, the laws -/
theorem s_takeMarks (d : Nat) {σ : ax_S} {n c : Nat} (hs : σ.1 17 0 = nI n) (hn : n ≤ 12) (hc : c < n) : ∃ τ, cV sO (d + 2) 96 [.ref 61, .ref 17, .int (nI c)] σ = some τ ∧ sm [62] σ τ ∧ ∀ k, k < 11 → τ.1 62 k = cr σ c k := by
  obtain ⟨τ, ⟨p1, p2⟩, e⟩ := loop_P (E := fun k (τ : ax_S) => ev sO (d + 2) 96 2 [.ref 61, .ref 17, .int (nI c), .int (nI k)] [] τ) (N := 11) (P := fun k τ => sm [62] σ τ ∧ ∀ i, i < k → τ.1 62 i = cr σ c i) (fun k τ hk hp => by
    obtain ⟨p1, p2⟩ := hp
    have hs2 : τ.1 17 0 = nI n := by rw [p1.1 17 (by decide)]; exact hs
    have e21 : cr τ c k = cr σ c k := by unfold cr; rw [p1.1 21 (by decide)]
    refine ⟨sI τ 62 k (cr σ c k), ⟨p1.set _ _ (by decide), fun i hi => ?_⟩, ?_⟩
    · by_cases q : i = k
      · rw [q, sI_1]
      · rw [sI_k _ q]
        exact p2 i (by omega)
    · rw [u_96_61_17p2, if_pos (l11 hk), s_mark d hs2 hn hc hk, Option.bind_some]
      simp only [e21]
      rw [gd_t (nI_g hk (by omega)), nI_add1, nI_c (by omega)]) σ ⟨sm.rf _ _, fun i hi => absurd hi (Nat.not_lt_zero i)⟩
  refine ⟨τ, cV_ev mi_96 ((u_96_61_17 d σ _).trans (Eq.trans e ?_)) rfl, p1, p2⟩
  rw [u_96_61_17p2, if_neg g11]
/-- a LAW on the class's marks -/
def lwC (law : Int32) (a b : Nat) (f : Nat → Int32) : Nat → Int32 :=
  if law = 1 then upd f a 0 else if law = 2 then upd f a (if f a = -1000000 then -1000000 else f a * 2) else if law = 3 then upd f a (if f a = -1000000 then -1000000 else f a / 2) else if law = 4 then upd (upd f b (if f a = -1000000 then -1000000 else if f b = -1000000 then -1000000 else f a + f b)) a 0 else if law = 5 then upd f 8 (if f 8 = -1000000 then -1000000 else if 9 < f 8 + 1 then 9 else f 8 + 1) else if law = 6 then upd f 9 (if f 9 = -1000000 then -1000000 else if f 9 - 5 < 0 then 0 else f 9 - 5) else f
theorem s_law (d : Nat) (σ : ax_S) {a b : Nat} (law : Int32) (ha : a < 8) (hb : b < 8) : ∃ τ, cI sO (d + 1) 98 [.ref 61, .int law, .int (nI a), .int (nI b)] σ = some (bi (¬ 9999 < τ.1 62 a ∧ ¬ 9999 < τ.1 62 b), τ) ∧ sm [62] σ τ ∧ τ.1 62 = lwC law a b (σ.1 62) := by
  have ta : rgP 0 7 (nI a) := by
    have := nI_i (n := a) (by omega)
    exact ⟨by omega, by omega⟩
  have tb : rgP 0 7 (nI b) := by
    have := nI_i (n := b) (by omega)
    exact ⟨by omega, by omega⟩
  have fin : ∀ τ : ax_S, (if (9999 : Int32) < τ.1 62 a then some (some (Value.int 0), τ) else if (9999 : Int32) < τ.1 62 b then some (some (Value.int 0), τ) else some (some (Value.int 1), τ)) = some (some (Value.int (bi (¬ 9999 < τ.1 62 a ∧ ¬ 9999 < τ.1 62 b))), τ) := fun τ => by
    by_cases q1 : (9999 : Int32) < τ.1 62 a
    · rw [if_pos q1, bi_f (fun q => q.1 q1)]
    · rw [if_neg q1]
      by_cases q2 : (9999 : Int32) < τ.1 62 b
      · rw [if_pos q2, bi_f (fun q => q.2 q2)]
      · rw [if_neg q2, bi_t ⟨q1, q2⟩]
  have key : ∃ τ, ev sO (d + 1) 98 0 [.ref 61, .int law, .int (nI a), .int (nI b)] [] σ = some (some (.int (bi (¬ 9999 < τ.1 62 a ∧ ¬ 9999 < τ.1 62 b))), τ) ∧ sm [62] σ τ ∧ τ.1 62 = lwC law a b (σ.1 62) := by
    rw [u_98_61]
    simp only [s_isThing, Option.bind_some, bi_0]
    rw [if_neg (fun q => q ta), if_neg (fun q => q tb)]
    simp only [gd_t (nI_g (show a < 11 by omega) (by omega)), gd_t (nI_g (show b < 11 by omega) (by omega)), nI_c (show a < 2147483648 by omega), nI_c (show b < 2147483648 by omega)]
    unfold lwC
    by_cases l1 : law = 1
    · rw [if_pos l1, if_pos l1, fin]
      exact ⟨_, rfl, (sm.rf _ _).set _ _ (by decide), sI_u _ _ _ _⟩
    · rw [if_neg l1, if_neg l1]
      by_cases l2 : law = 2
      · rw [if_pos l2, if_pos l2]
        by_cases q : σ.1 62 a = -1000000
        · rw [if_pos q, if_pos q, fin]
          exact ⟨_, rfl, (sm.rf _ _).set _ _ (by decide), sI_u _ _ _ _⟩
        · rw [if_neg q, if_neg q, fin]
          exact ⟨_, rfl, (sm.rf _ _).set _ _ (by decide), sI_u _ _ _ _⟩
      · rw [if_neg l2, if_neg l2]
        by_cases l3 : law = 3
        · rw [if_pos l3, if_pos l3]
          by_cases q : σ.1 62 a = -1000000
          · rw [if_pos q, if_pos q, fin]
            exact ⟨_, rfl, (sm.rf _ _).set _ _ (by decide), sI_u _ _ _ _⟩
          · rw [if_neg q, if_neg q, fin]
            exact ⟨_, rfl, (sm.rf _ _).set _ _ (by decide), sI_u _ _ _ _⟩
        · rw [if_neg l3, if_neg l3]
          by_cases l4 : law = 4
          · rw [if_pos l4, if_pos l4]
            by_cases q : σ.1 62 a = -1000000
            · rw [if_pos q, if_pos q, fin]
              exact ⟨_, rfl, ((sm.rf _ _).set _ _ (by decide)).set _ _ (by decide), by rw [sI_u, sI_u]⟩
            · rw [if_neg q, if_neg q]
              by_cases q2 : σ.1 62 b = -1000000
              · rw [if_pos q2, if_pos q2, fin]
                exact ⟨_, rfl, ((sm.rf _ _).set _ _ (by decide)).set _ _ (by decide), by rw [sI_u, sI_u]⟩
              · rw [if_neg q2, if_neg q2, fin]
                exact ⟨_, rfl, ((sm.rf _ _).set _ _ (by decide)).set _ _ (by decide), by rw [sI_u, sI_u]⟩
          · rw [if_neg l4, if_neg l4]
            by_cases l5 : law = 5
            · rw [if_pos l5, if_pos l5]
              by_cases q : σ.1 62 8 = -1000000
              · rw [if_pos q, if_pos q, fin]
                exact ⟨_, rfl, (sm.rf _ _).set _ _ (by decide), sI_u _ _ _ _⟩
              · rw [if_neg q, if_neg q, fin]
                exact ⟨_, rfl, (sm.rf _ _).set _ _ (by decide), sI_u _ _ _ _⟩
            · rw [if_neg l5, if_neg l5]
              by_cases l6 : law = 6
              · rw [if_pos l6, if_pos l6]
                by_cases q : σ.1 62 9 = -1000000
                · rw [if_pos q, if_pos q, fin]
                  exact ⟨_, rfl, (sm.rf _ _).set _ _ (by decide), sI_u _ _ _ _⟩
                · rw [if_neg q, if_neg q, fin]
                  exact ⟨_, rfl, (sm.rf _ _).set _ _ (by decide), sI_u _ _ _ _⟩
              · rw [if_neg l6, if_neg l6, fin]
                exact ⟨_, rfl, sm.rf _ _, rfl⟩
  obtain ⟨τ, e1, e2, e3⟩ := key
  exact ⟨τ, cI_ev mi_98 e1 rfl, e2, e3⟩
/-- a LAW on the reference's draft -/
def l4a (a b : Nat) (g : Nat → Int32) : Nat → Int32 := upd (upd g (4 + b) (g (4 + b) + g (4 + a))) (4 + a) 0
def l4b (a b : Nat) (g : Nat → Int32) : Nat → Int32 := upd (l4a a b g) 3 (l4a a b g 3 ||| (((l4a a b g 3 >>> (nI a &&& 31)) &&& 1) <<< (nI b &&& 31)))
def l4c (a b : Nat) (g : Nat → Int32) : Nat → Int32 := upd (l4b a b g) 3 (l4b a b g 3 &&& (b1 a ^^^ (-1)))
def l4d (a b : Nat) (g : Nat → Int32) : Nat → Int32 := upd (l4c a b g) (4 + b) (if (l4c a b g 3 >>> (nI b &&& 31)) &&& 1 = 1 then 0 else l4c a b g (4 + b))
def lwM (law : Int32) (a b : Nat) (kn : Bool) (g : Nat → Int32) : Nat → Int32 :=
  if law = 1 then upd (upd g (4 + a) 0) 3 (upd g (4 + a) 0 3 &&& (b1 a ^^^ (-1))) else if law = 2 then upd g (4 + a) (g (4 + a) * 2) else if law = 3 then upd g (4 + a) (g (4 + a) / 2) else if law = 4 then l4d a b g else if law = 5 then upd g 12 (if g 12 < 9 then (if kn then g 12 + 1 else g 12 + 0) else g 12 + 0) else if law = 6 then upd g 13 (if g 13 < 5 then 0 else g 13 - 5) else g
noncomputable def cpT (d a b : Nat) (τ : ax_S) : Option (Option Value × ax_S) := if (9999 : Int32) < τ.1 90 (4 + a) then some (some (.long (-9000000000000000002 : Int64)), τ) else if (9999 : Int32) < τ.1 90 (4 + b) then some (some (.long (-9000000000000000002 : Int64)), τ) else if τ.1 88 0 = (12 : Int32) then some (some (.long (-9000000000000000003 : Int64)), τ) else (cI sO (d + 1) 226 [.ref 82] τ).bind fun u => some (some (.long u.1.toInt64), u.2)
theorem m_law (d : Nat) {σ : ax_S} {a b c : Nat} (law : Int32) (w2 w3 : Value) (h2 : c1 w2) (h3 : c1 w3) (ha : a < 8) (hb : b < 8) (hc : c < 12) : ∃ τ, ev sO (d + 2) 233 103 [.ref 82, .int (nI c), w2, w3, .int law, .int (nI a), .int (nI b), .int (nI 11)] [] σ = cpT d a b τ ∧ sm [90] σ τ ∧ τ.1 90 = lwM law a b (!(bt (ms σ c) 8)) (σ.1 90) := by
  have ea : (4 : Int32) + nI a = nI (4 + a) := nI_pl (a := 4) (by omega)
  have eb : (4 : Int32) + nI b = nI (4 + b) := nI_pl (a := 4) (by omega)
  rw [u_233_82p103 _ _ _ _ h2 _ h3, if_neg g11]
  simp only [ea, eb, gd_t (nI_g (show 4 + a < 15 by omega) (by omega)), gd_t (nI_g (show 4 + b < 15 by omega) (by omega)), nI_c (show 4 + a < 2147483648 by omega), nI_c (show 4 + b < 2147483648 by omega)]
  unfold lwM
  by_cases l1 : law = 1
  · rw [if_pos l1, if_pos l1]
    exact ⟨_, rfl, ((sm.rf _ _).set _ _ (by decide)).set _ _ (by decide), by rw [sI_u, sI_u]; rfl⟩
  · rw [if_neg l1, if_neg l1]
    by_cases l2 : law = 2
    · rw [if_pos l2, if_pos l2]
      exact ⟨_, rfl, (sm.rf _ _).set _ _ (by decide), sI_u _ _ _ _⟩
    · rw [if_neg l2, if_neg l2]
      by_cases l3 : law = 3
      · rw [if_pos l3, if_pos l3]
        exact ⟨_, rfl, (sm.rf _ _).set _ _ (by decide), sI_u _ _ _ _⟩
      · rw [if_neg l3, if_neg l3]
        by_cases l4 : law = 4
        · rw [if_pos l4, if_pos l4]
          have f1 : (sI (sI σ 90 (4 + b) (σ.1 90 (4 + b) + σ.1 90 (4 + a))) 90 (4 + a) 0).1 90 = l4a a b (σ.1 90) := by rw [sI_u, sI_u]; rfl
          have m1 : sm [90] σ (sI (sI σ 90 (4 + b) (σ.1 90 (4 + b) + σ.1 90 (4 + a))) 90 (4 + a) 0) := ((sm.rf _ _).set _ _ (by decide)).set _ _ (by decide)
          generalize sI (sI σ 90 (4 + b) (σ.1 90 (4 + b) + σ.1 90 (4 + a))) 90 (4 + a) 0 = s1 at f1 m1 ⊢
          rw [f1]
          have f2 : (sI s1 90 3 (l4a a b (σ.1 90) 3 ||| (((l4a a b (σ.1 90) 3 >>> (nI a &&& 31)) &&& 1) <<< (nI b &&& 31)))).1 90 = l4b a b (σ.1 90) := by rw [sI_u, f1]; rfl
          have m2 : sm [90] σ (sI s1 90 3 (l4a a b (σ.1 90) 3 ||| (((l4a a b (σ.1 90) 3 >>> (nI a &&& 31)) &&& 1) <<< (nI b &&& 31)))) := m1.set _ _ (by decide)
          generalize sI s1 90 3 (l4a a b (σ.1 90) 3 ||| (((l4a a b (σ.1 90) 3 >>> (nI a &&& 31)) &&& 1) <<< (nI b &&& 31))) = s2 at f2 m2 ⊢
          rw [f2]
          have f3 : (sI s2 90 3 (l4b a b (σ.1 90) 3 &&& ((1 <<< (nI a &&& 31)) ^^^ (-1)))).1 90 = l4c a b (σ.1 90) := by rw [sI_u, f2]; rfl
          have m3 : sm [90] σ (sI s2 90 3 (l4b a b (σ.1 90) 3 &&& ((1 <<< (nI a &&& 31)) ^^^ (-1)))) := m2.set _ _ (by decide)
          generalize sI s2 90 3 (l4b a b (σ.1 90) 3 &&& ((1 <<< (nI a &&& 31)) ^^^ (-1))) = s3 at f3 m3 ⊢
          rw [f3]
          by_cases q : (l4c a b (σ.1 90) 3 >>> (nI b &&& 31)) &&& 1 = 1
          · rw [if_pos q]
            exact ⟨_, rfl, m3.set _ _ (by decide), by rw [sI_u, f3]; unfold l4d; rw [if_pos q]⟩
          · rw [if_neg q]
            exact ⟨_, rfl, m3.set _ _ (by decide), by rw [sI_u, f3]; unfold l4d; rw [if_neg q]⟩
        · rw [if_neg l4, if_neg l4]
          by_cases l5 : law = 5
          · rw [if_pos l5, if_pos l5]
            by_cases q : σ.1 90 12 < 9
            · have ek := m_isKnown d σ hc (show 8 < 11 by omega)
              rw [if_pos q, if_pos q, show (8 : Int32) = nI 8 from rfl, ek, Option.bind_some]
              simp only [bi_0]
              cases hk : bt (ms σ c) 8
              · rw [if_neg (by decide)]
                exact ⟨_, rfl, (sm.rf _ _).set _ _ (by decide), by rw [sI_u]; rfl⟩
              · rw [if_pos (by decide)]
                exact ⟨_, rfl, (sm.rf _ _).set _ _ (by decide), by rw [sI_u]; rfl⟩
            · rw [if_neg q, if_neg q]
              exact ⟨_, rfl, (sm.rf _ _).set _ _ (by decide), sI_u _ _ _ _⟩
          · rw [if_neg l5, if_neg l5]
            by_cases l6 : law = 6
            · rw [if_pos l6, if_pos l6]
              by_cases q : σ.1 90 13 < 5
              · rw [if_pos q, if_pos q]
                exact ⟨_, rfl, (sm.rf _ _).set _ _ (by decide), sI_u _ _ _ _⟩
              · rw [if_neg q, if_neg q]
                exact ⟨_, rfl, (sm.rf _ _).set _ _ (by decide), sI_u _ _ _ _⟩
            · rw [if_neg l6, if_neg l6]
              exact ⟨σ, rfl, sm.rf _ _, rfl⟩
