/-! THE LAWS OF BOTH ARE THE SAME -/
abbrev cap1 (a b k : Nat) : Int := if k = a ∨ k = b then 19998 else cap0 k
theorem dfC_up {f g : Nat → Int32} {cap cap' : Nat → Int} {K : Nat} (h : dfC f g cap K) (e : ∀ k, k < K → cap k ≤ cap' k) : dfC f g cap' K := by
  refine ⟨fun k hk => ?_, h.2⟩
  obtain ⟨h1, h2, h3, h4⟩ := h.1 k hk
  exact ⟨h1, h2, Int.le_trans h3 (e k hk), h4⟩
/-- one mark changed in both, nothing stained or unstained but that one -/
theorem dfC_1 {f g f' g' : Nat → Int32} {cap : Nat → Int} {a : Nat} (h : dfC f g cap 11) (ha : a < 11) (ef : ∀ k, k < 11 → k ≠ a → f' k = f k) (eg : ∀ k, k < 11 → k ≠ a → g' (4 + k) = g (4 + k)) (eb : ∀ k, k < 32 → k ≠ a → bt (g' 3) k = bt (g 3) k) (hp : dfP f' g' cap a) : dfC f' g' cap 11 := by
  refine ⟨fun k hk => ?_, fun k h1 h2 => ?_⟩
  · by_cases q : k = a
    · rw [q]; exact hp
    · unfold dfP
      rw [ef k hk q, eg k hk q, eb k (by omega) q]
      exact h.1 k hk
  · rw [eb k h2 (by omega)]
    exact h.2 k h1 h2
theorem dfP_n {f g : Nat → Int32} {cap : Nat → Int} {k : Nat} (h : dfP f g cap k) : f k = -1000000 ↔ bt (g 3) k = true := by
  obtain ⟨h1, h2, -, -⟩ := h
  cases e : bt (g 3) k
  · rw [e, if_neg (by decide)] at h1
    constructor
    · intro q
      rw [h1] at q
      rw [q, i_none] at h2
      omega
    · intro q; exact absurd q (by decide)
  · rw [e, if_pos rfl] at h1
    exact ⟨fun _ => rfl, fun _ => h1⟩
theorem lw_rel {f g : Nat → Int32} {law : Int32} {a b : Nat} {kn : Bool} (h : dfC f g cap0 11) (ha : a < 8) (hb : b < 8) (hab : law = 4 → a ≠ b) (hk : kn = !(bt (g 3) 8)) : dfC (lwC law a b f) (lwM law a b kn g) (cap1 a b) 11 ∧ ∀ k, k < 3 → lwM law a b kn g k = g k := by
  have h0 := h
  have hc : dfC f g (cap1 a b) 11 := dfC_up h (fun k hk => by
    unfold cap1
    split
    · unfold cap0
      split
      · omega
      · split <;> omega
    · exact Int.le_refl _)
  have ca : cap1 a b a = 19998 := if_pos (Or.inl rfl)
  have cb : cap1 a b b = 19998 := if_pos (Or.inr rfl)
  have pa := h0.1 a (by omega)
  have pb := h0.1 b (by omega)
  have na := dfP_n pa
  have nb := dfP_n pb
  obtain ⟨a1, a2, a3, a4⟩ := pa
  obtain ⟨b1', b2, b3, b4⟩ := pb
  have c0a : cap0 a = 9999 := if_pos ha
  have c0b : cap0 b = 9999 := if_pos hb
  rw [c0a] at a3
  rw [c0b] at b3
  unfold lwC lwM
  by_cases l1 : law = 1
  · rw [if_pos l1, if_pos l1]
    have e3 : upd (upd g (4 + a) 0) 3 (upd g (4 + a) 0 3 &&& (b1 a ^^^ (-1))) 3 = g 3 &&& (b1 a ^^^ (-1)) := by rw [upd_1, upd_n _ _ (by omega)]
    refine ⟨dfC_1 (a := a) hc (by omega) (fun k hk q => upd_n _ _ q) (fun k hk q => by rw [upd_n _ _ (by omega), upd_n _ _ (by omega)]) (fun k hk q => by rw [e3, bt_off _ (by omega) hk, decide_eq_false q]; simp) ?_, fun k hk => by rw [upd_n _ _ (by omega), upd_n _ _ (by omega)]⟩
    unfold dfP
    rw [e3, bt_off _ (by omega) (by omega), decide_eq_true rfl, upd_1, upd_n _ _ (by omega), upd_1]
    refine ⟨by simp, by rw [i_0]; omega, by rw [i_0, ca]; omega, fun _ => rfl⟩
  · rw [if_neg l1, if_neg l1]
    by_cases l2 : law = 2
    · rw [if_pos l2, if_pos l2]
      refine ⟨dfC_1 (a := a) hc (by omega) (fun k hk q => upd_n _ _ q) (fun k hk q => upd_n _ _ (by omega)) (fun k hk q => by rw [upd_n _ _ (by omega)]) ?_, fun k hk => upd_n _ _ (by omega)⟩
      unfold dfP
      rw [upd_1, upd_n g _ (show 3 ≠ 4 + a by omega), upd_1, ca]
      have em : (g (4 + a) * 2).toInt = (g (4 + a)).toInt * 2 := i_mul (by rw [lit_i 2 (by omega)]; omega) (by rw [lit_i 2 (by omega)]; omega)
      rw [em]
      refine ⟨?_, by omega, by omega, fun q => by rw [a4 q]; rfl⟩
      by_cases q : bt (g 3) a = true
      · rw [if_pos (na.mpr q), if_pos q]
      · rw [if_neg (fun z => q (na.mp z)), if_neg q, a1, if_neg q]
    · rw [if_neg l2, if_neg l2]
      by_cases l3 : law = 3
      · rw [if_pos l3, if_pos l3]
        refine ⟨dfC_1 (a := a) hc (by omega) (fun k hk q => upd_n _ _ q) (fun k hk q => upd_n _ _ (by omega)) (fun k hk q => by rw [upd_n _ _ (by omega)]) ?_, fun k hk => upd_n _ _ (by omega)⟩
        unfold dfP
        rw [upd_1, upd_n g _ (show 3 ≠ 4 + a by omega), upd_1, ca]
        have em : (g (4 + a) / 2).toInt = (g (4 + a)).toInt / 2 := by
          rw [Int32.toInt_div_of_ne_right _ _ (by decide), lit_i 2 (by omega), Int.tdiv_eq_ediv_of_nonneg a2]
          rfl
        rw [em]
        refine ⟨?_, by omega, by omega, fun q => by rw [a4 q]; rfl⟩
        by_cases q : bt (g 3) a = true
        · rw [if_pos (na.mpr q), if_pos q]
        · rw [if_neg (fun z => q (na.mp z)), if_neg q, a1, if_neg q]
      · rw [if_neg l3, if_neg l3]
        by_cases l4 : law = 4
        · rw [if_pos l4, if_pos l4]
          have ab := hab l4
          have x3 : l4a a b g 3 = g 3 := by unfold l4a; rw [upd_n _ _ (by omega), upd_n _ _ (by omega)]
          have xa : l4a a b g (4 + a) = 0 := by unfold l4a; rw [upd_1]
          have xb : l4a a b g (4 + b) = g (4 + b) + g (4 + a) := by unfold l4a; rw [upd_n _ _ (by omega), upd_1]
          have xo : ∀ k, k ≠ 4 + a → k ≠ 4 + b → l4a a b g k = g k := fun k q1 q2 => by unfold l4a; rw [upd_n _ _ q1, upd_n _ _ q2]
          have y3 : l4b a b g 3 = g 3 ||| (((g 3 >>> (nI a &&& 31)) &&& 1) <<< (nI b &&& 31)) := by unfold l4b; rw [upd_1, x3]
          have yo : ∀ k, k ≠ 3 → l4b a b g k = l4a a b g k := fun k q => by unfold l4b; rw [upd_n _ _ q]
          have z3 : l4c a b g 3 = l4b a b g 3 &&& (b1 a ^^^ (-1)) := by unfold l4c; rw [upd_1]
          have zo : ∀ k, k ≠ 3 → l4c a b g k = l4b a b g k := fun k q => by unfold l4c; rw [upd_n _ _ q]
          have zb : ∀ k, k < 32 → bt (l4c a b g 3) k = ((bt (g 3) k || (bt (g 3) a && decide (k = b))) && !decide (k = a)) := fun k hk => by
            rw [z3, bt_off _ (by omega) hk, y3, bt_or, bt_at _ (show a < 32 by omega)]
            cases bt (g 3) a
            · rw [if_neg (by decide), show (0 : Int32) <<< (nI b &&& 31) = 0 from by simp, bt_0, Bool.false_and]
            · rw [if_pos rfl, show (1 : Int32) <<< (nI b &&& 31) = b1 b from rfl, bt_1 (by omega) hk, Bool.true_and]
          have w3 : l4d a b g 3 = l4c a b g 3 := by unfold l4d; rw [upd_n _ _ (by omega)]
          have wo : ∀ k, k ≠ 4 + b → l4d a b g k = l4c a b g k := fun k q => by unfold l4d; rw [upd_n _ _ q]
          have bb : bt (l4c a b g 3) b = (bt (g 3) b || bt (g 3) a) := by
            rw [zb b (by omega), decide_eq_true rfl, decide_eq_false (show ¬ b = a from fun q => ab q.symm), Bool.and_true]
            simp
          have wb : l4d a b g (4 + b) = if bt (g 3) b || bt (g 3) a then 0 else g (4 + b) + g (4 + a) := by
            unfold l4d
            rw [upd_1, bt_at _ (show b < 32 by omega), bb, zo _ (by omega), yo _ (by omega), xb]
            cases (bt (g 3) b || bt (g 3) a) <;> rfl
          refine ⟨⟨fun k hk => ?_, fun k q1 q2 => ?_⟩, fun k hk => by rw [wo _ (by omega), zo _ (by omega), yo _ (by omega), xo _ (by omega) (by omega)]⟩
          · unfold dfP
            rw [w3, zb k (by omega)]
            by_cases qa : k = a
            · subst qa
              rw [decide_eq_true rfl, upd_1, wo _ (by omega), zo _ (by omega), yo _ (by omega), xa]
              refine ⟨by simp, by rw [i_0]; omega, by rw [i_0, ca]; omega, fun _ => rfl⟩
            · rw [decide_eq_false qa, upd_n _ _ qa]
              by_cases qb : k = b
              · subst qb
                rw [decide_eq_true rfl, upd_1, wb, cb]
                have em : (g (4 + k) + g (4 + a)).toInt = (g (4 + k)).toInt + (g (4 + a)).toInt := i_add (by omega) (by omega)
                cases ea : bt (g 3) a
                · cases eb : bt (g 3) k
                  · rw [if_neg (fun z => by rw [na.mp z] at ea; exact absurd ea (by decide)), if_neg (fun z => by rw [nb.mp z] at eb; exact absurd eb (by decide)), a1, ea, b1', eb]
                    simp only [Bool.or_self, Bool.false_and, Bool.not_false, Bool.and_true]
                    rw [if_neg (by decide), if_neg (by decide), if_neg (by decide), if_neg (by decide), em]
                    refine ⟨?_, by omega, by omega, fun q => absurd q (by decide)⟩
                    apply Int32.toInt_inj.mp
                    rw [em, i_add (by omega) (by omega)]
                    omega
                  · rw [if_neg (fun z => by rw [na.mp z] at ea; exact absurd ea (by decide)), if_pos (nb.mpr eb)]
                    simp only [Bool.or_false, Bool.true_or, Bool.not_false, Bool.and_true, Bool.false_and]
                    rw [if_pos trivial, if_pos trivial]
                    exact ⟨rfl, by rw [i_0]; omega, by rw [i_0]; omega, fun _ => rfl⟩
                · rw [if_pos (na.mpr ea)]
                  simp only [Bool.or_true, Bool.not_false, Bool.and_true, Bool.true_and]
                  rw [if_pos trivial, if_pos trivial]
                  exact ⟨rfl, by rw [i_0]; omega, by rw [i_0]; omega, fun _ => rfl⟩
              · rw [decide_eq_false qb, upd_n _ _ qb, Bool.and_false, Bool.or_false, Bool.not_false, Bool.and_true, wo _ (by omega), zo _ (by omega), yo _ (by omega), xo _ (by omega) (by omega)]
                exact hc.1 k hk
          · rw [w3, zb k q2, h.2 k q1 q2, decide_eq_false (show ¬ k = b by omega), Bool.and_false]
            rfl
        · rw [if_neg l4, if_neg l4]
          have hN : ¬ (false = true) := by decide
          have hT : (!false) = true := rfl
          have hY : true = true := rfl
          have p8 := h0.1 8 (by omega)
          have n8 := dfP_n p8
          obtain ⟨d1, d2, d3, d4⟩ := p8
          have c8 : cap1 a b 8 = 9 := by unfold cap1 cap0; rw [if_neg (by omega), if_neg (by omega), if_pos rfl]
          have p9 := h0.1 9 (by omega)
          have n9 := dfP_n p9
          obtain ⟨e1, e2, e3, e4⟩ := p9
          have c9 : cap1 a b 9 = 99 := by unfold cap1 cap0; rw [if_neg (by omega), if_neg (by omega), if_neg (by omega)]
          have d3 : (g 12).toInt ≤ 9 := d3
          have d2 : 0 ≤ (g 12).toInt := d2
          have e3 : (g 13).toInt ≤ 99 := e3
          have e2 : 0 ≤ (g 13).toInt := e2
          by_cases l5 : law = 5
          · rw [if_pos l5, if_pos l5]
            refine ⟨dfC_1 (a := 8) hc (by omega) (fun k hk q => upd_n _ _ q) (fun k hk q => upd_n _ _ (by omega)) (fun k hk q => by rw [upd_n _ _ (by omega)]) ?_, fun k hk => upd_n _ _ (by omega)⟩
            have em : (g 12 + 1).toInt = (g 12).toInt + 1 := by
              rw [i_add (by rw [i_1]; omega) (by rw [i_1]; omega), i_1]
            unfold dfP
            rw [upd_1, upd_n g _ (show 3 ≠ 12 by omega), show 4 + 8 = 12 from rfl, upd_1, c8, hk]
            cases eb : bt (g 3) 8
            · have f8 : f 8 = g 12 := by rw [d1, eb]; rfl
              rw [if_neg (show ¬ f 8 = -1000000 from fun z => by rw [n8.mp z] at eb; exact absurd eb (by decide)), if_neg hN, f8]
              by_cases q : g 12 < 9
              · have q' := q
                rw [i_lt, lit_i 9 (by omega)] at q'
                rw [if_pos q, if_pos hT, if_neg (show ¬ (9 : Int32) < g 12 + 1 by rw [i_lt, lit_i 9 (by omega), em]; omega), em]
                exact ⟨rfl, by omega, by omega, fun q => absurd q (by decide)⟩
              · have q' := q
                rw [i_lt, lit_i 9 (by omega)] at q'
                rw [if_neg q, if_pos (show (9 : Int32) < g 12 + 1 by rw [i_lt, lit_i 9 (by omega), em]; omega), Int32.add_zero]
                exact ⟨(i_eq _ _).mpr (by rw [lit_i 9 (by omega)]; omega), by omega, by omega, fun q => absurd q (by decide)⟩
            · rw [if_pos (n8.mpr eb), if_pos hY]
              have g0 : g 12 = 0 := d4 eb
              rw [g0]
              exact ⟨rfl, by decide, by decide, fun _ => by decide⟩
          · rw [if_neg l5, if_neg l5]
            by_cases l6 : law = 6
            · rw [if_pos l6, if_pos l6]
              refine ⟨dfC_1 (a := 9) hc (by omega) (fun k hk q => upd_n _ _ q) (fun k hk q => upd_n _ _ (by omega)) (fun k hk q => by rw [upd_n _ _ (by omega)]) ?_, fun k hk => upd_n _ _ (by omega)⟩
              have em : (g 13 - 5).toInt = (g 13).toInt - 5 := by
                rw [i_sub (by rw [lit_i 5 (by omega)]; omega) (by rw [lit_i 5 (by omega)]; omega), lit_i 5 (by omega)]
                rfl
              unfold dfP
              rw [upd_1, upd_n g _ (show 3 ≠ 13 by omega), show 4 + 9 = 13 from rfl, upd_1, c9]
              cases eb : bt (g 3) 9
              · have f9 : f 9 = g 13 := by rw [e1, eb]; rfl
                rw [if_neg (show ¬ f 9 = -1000000 from fun z => by rw [n9.mp z] at eb; exact absurd eb (by decide)), if_neg hN, f9]
                by_cases q : g 13 < 5
                · have q' := q
                  rw [i_lt, lit_i 5 (by omega)] at q'
                  rw [if_pos q, if_pos (show g 13 - 5 < 0 by rw [i_lt, i_0, em]; omega)]
                  exact ⟨rfl, by decide, by decide, fun q => absurd q (by decide)⟩
                · have q' := q
                  rw [i_lt, lit_i 5 (by omega)] at q'
                  rw [if_neg q, if_neg (show ¬ g 13 - 5 < 0 by rw [i_lt, i_0, em]; omega), em]
                  exact ⟨rfl, by omega, by omega, fun q => absurd q (by decide)⟩
              · rw [if_pos (n9.mpr eb), if_pos hY]
                have g0 : g 13 = 0 := e4 eb
                rw [g0, if_pos (by decide)]
                exact ⟨rfl, by decide, by decide, fun _ => rfl⟩
            · rw [if_neg l6, if_neg l6]
              exact ⟨hc, fun _ _ => rfl⟩
