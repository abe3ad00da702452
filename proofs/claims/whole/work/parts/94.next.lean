/-! THE NEXT TOKEN, of both -/
/-- the class's number of a token's sort -/
def cso (k : Nat) : Nat := if k = 0 then 0 else if k = 1 then 4 else if k = 2 then 1 else if k = 3 then 2 else 3
/-- the tape's bytes, as the class and as the reference hold them -/
abbrev cBy (σ : ax_S) (b : Nat → Int32) (n : Nat) : Prop := n ≤ 500 ∧ σ.1 5 1 = nI n ∧ ∀ i, i < n → byR (σ.1 6 i) (b i)
abbrev mBy (σ : ax_S) (b : Nat → Int32) (n : Nat) : Prop := n ≤ 500 ∧ σ.1 82 12 = nI n ∧ ∀ i, i < n → σ.1 89 i = b i ∧ 0 ≤ (b i).toInt ∧ (b i).toInt ≤ 255
theorem s_step (d : Nat) {σ : ax_S} {b : Nat → Int32} {n e : Nat} (hb : cBy σ b n) (he : e ≤ n) (h7 : σ.1 5 7 = nI e) : ∃ τ, cV sO (d + 1) 33 [.ref 5] σ = some τ ∧ sm [5] σ τ ∧ (∀ f, f < 5 → τ.1 5 f = σ.1 5 f) ∧ τ.1 5 5 = nI (cso (nxt b n e).1) ∧ τ.1 5 6 = nI (nxt b n e).2.1 ∧ τ.1 5 7 = nI (nxt b n e).2.2 := by
  obtain ⟨hn, h1, hB⟩ := hb
  have key : ∃ τ, ev sO (d + 1) 33 0 [.ref 5, .null] [] σ = some (none, τ) ∧ sm [5] σ τ ∧ (∀ f, f < 5 → τ.1 5 f = σ.1 5 f) ∧ τ.1 5 5 = nI (cso (nxt b n e).1) ∧ τ.1 5 6 = nI (nxt b n e).2.1 ∧ τ.1 5 7 = nI (nxt b n e).2.2 := by
    rw [u_33_5]
    -- blanks
    obtain ⟨τ, ⟨p1, p2, p3⟩, e1⟩ := loop_sc (E := fun (τ : ax_S) => ev sO (d + 1) 33 8 [.ref 5, .null] [] τ) (P := fun i τ => sm [5] σ τ ∧ (∀ f, f < 5 → τ.1 5 f = σ.1 5 f) ∧ τ.1 5 6 = nI i) (Q := fun i => blkP (b i)) (n := n) (fun i τ hi hq hp => by
      obtain ⟨p1, p2, p3⟩ := hp
      refine ⟨sI τ 5 6 (nI (i + 1)), ⟨p1.set _ _ (by decide), fun f hf => by rw [sI_k _ (by omega)]; exact p2 f hf, sI_1 _ _ _ _⟩, ?_⟩
      have l1 : τ.1 5 1 = nI n := (p2 1 (by omega)).trans h1
      (try simp only)
      rw [u_33_5p8 _ _ _ rfl, p3, l1, if_pos (nlt hi), s_byteAt d l1 hn (by omega), Option.bind_some]
      simp only [s_isBlank, Option.bind_some, bi_0]
      rw [if_pos hi, p1.1 6 (by decide), if_neg (fun z => z ((byR_blk (hB i hi)).mpr hq)), p3, nI_add1]) (n - e) e (sI σ 5 6 (nI e)) (by omega) ⟨(sm.rf _ _).set _ _ (by decide), fun f hf => sI_k _ (by omega), sI_1 _ _ _ _⟩
    rw [h7]
    rw [e1]
    unfold nxt
    have hsc := sc_r (fun i => blkP (b i)) (n - e) e
    generalize sc (fun i => blkP (b i)) e (n - e) = s at hsc p3 ⊢
    obtain ⟨s1, s2, -, s4⟩ := hsc
    simp only at s4 ⊢
    have l1 : τ.1 5 1 = nI n := (p2 1 (by omega)).trans h1
    have l6 : τ.1 6 = σ.1 6 := p1.1 6 (by decide)
    -- behind the blanks
    have rest : ∃ ρ, ((cI sO d 34 [.ref 5, .int ((sI τ 5 7 (τ.1 5 6)).1 5 6)] (sI τ 5 7 (τ.1 5 6))).bind fun u2 => if (u2.2.1 5 6) < (u2.2.1 5 1) then ((cI sO d 36 [.int u2.1] u2.2).bind fun u3 => if u3.1 = 0 then ((cI sO d 37 [.int u2.1] u3.2).bind fun u4 => if u4.1 = 0 then (if u2.1 = (59 : Int32) then (some (none, (sI (sI u4.2 5 7 ((u4.2.1 5 6) + (1 : Int32))) 5 5 (3 : Int32)))) else (if u2.1 = (63 : Int32) then (some (none, (sI (sI u4.2 5 7 ((u4.2.1 5 6) + (1 : Int32))) 5 5 (3 : Int32)))) else (some (none, (sI (sI u4.2 5 7 ((u4.2.1 5 6) + (1 : Int32))) 5 5 (0 : Int32)))))) else (ev sO (d + 1) 33 139 [.ref 5, .int u2.1] [] u4.2)) else (ev sO (d + 1) 33 94 [.ref 5, .int u2.1] [] (sI u3.2 5 5 (1 : Int32)))) else (some (none, (sI u2.2 5 5 (4 : Int32))))) = some ((none : Option Value), ρ) ∧ sm [5] σ ρ ∧ (∀ f, f < 5 → ρ.1 5 f = σ.1 5 f) ∧ ρ.1 5 5 = nI (cso (if s < n then (if ltrP (b s) then ((2 : Nat), s, sc (fun i => ltrP (b i)) s (n - s)) else if figP (b s) then (if 4 < sc (fun i => figP (b i)) s (n - s) - s then 0 else 3, s, sc (fun i => figP (b i)) s (n - s)) else (if b s = 59 then 4 else if b s = 63 then 5 else 0, s, s + 1)) else (1, s, s)).1) ∧ ρ.1 5 6 = nI (if s < n then (if ltrP (b s) then ((2 : Nat), s, sc (fun i => ltrP (b i)) s (n - s)) else if figP (b s) then (if 4 < sc (fun i => figP (b i)) s (n - s) - s then 0 else 3, s, sc (fun i => figP (b i)) s (n - s)) else (if b s = 59 then 4 else if b s = 63 then 5 else 0, s, s + 1)) else (1, s, s)).2.1 ∧ ρ.1 5 7 = nI (if s < n then (if ltrP (b s) then ((2 : Nat), s, sc (fun i => ltrP (b i)) s (n - s)) else if figP (b s) then (if 4 < sc (fun i => figP (b i)) s (n - s) - s then 0 else 3, s, sc (fun i => figP (b i)) s (n - s)) else (if b s = 59 then 4 else if b s = 63 then 5 else 0, s, s + 1)) else (1, s, s)).2.2 := by
      rw [p3]
      have q1 : sm [5] σ (sI τ 5 7 (nI s)) := p1.set _ _ (by decide)
      have q2 : ∀ f, f < 5 → (sI τ 5 7 (nI s)).1 5 f = σ.1 5 f := fun f hf => by rw [sI_k _ (by omega)]; exact p2 f hf
      have q6 : (sI τ 5 7 (nI s)).1 5 6 = nI s := by rw [sI_k _ (by decide)]; exact p3
      have q7 : (sI τ 5 7 (nI s)).1 5 7 = nI s := sI_1 _ _ _ _
      generalize sI τ 5 7 (nI s) = θ at q1 q2 q6 q7 ⊢
      have k1 : θ.1 5 1 = nI n := (q2 1 (by omega)).trans h1
      have k6 : θ.1 6 = σ.1 6 := q1.1 6 (by decide)
      rw [q6, s_byteAt d k1 hn (by omega), Option.bind_some]
      simp only [q6, k1]
      by_cases hs : s < n
      · rw [if_pos (nlt hs), if_pos hs, if_pos hs, k6]
        have hbs := hB s hs
        simp only [s_isLetter, s_isFigure, Option.bind_some, bi_0]
        by_cases hl : ltrP (b s)
        · rw [if_neg (fun z => z ((byR_ltr hbs).mpr hl)), if_pos hl]
          obtain ⟨ρ, ⟨r1, r2, r3, r5, r7⟩, e2⟩ := loop_sc (E := fun (τ : ax_S) => ev sO (d + 1) 33 94 [.ref 5, .int (σ.1 6 s)] [] τ) (P := fun i τ => sm [5] σ τ ∧ (∀ f, f < 5 → τ.1 5 f = σ.1 5 f) ∧ τ.1 5 6 = nI s ∧ τ.1 5 5 = 1 ∧ τ.1 5 7 = nI i) (Q := fun i => ltrP (b i)) (n := n) (fun i τ hi hq hp => by
            obtain ⟨r1, r2, r3, r5, r7⟩ := hp
            refine ⟨sI τ 5 7 (nI (i + 1)), ⟨r1.set _ _ (by decide), fun f hf => by rw [sI_k _ (by omega)]; exact r2 f hf, by rw [sI_k _ (by decide)]; exact r3, by rw [sI_k _ (by decide)]; exact r5, sI_1 _ _ _ _⟩, ?_⟩
            have l1 : τ.1 5 1 = nI n := (r2 1 (by omega)).trans h1
            (try simp only)
            rw [u_33_5p94 _ _ _ rfl, r7, l1, if_pos (nlt hi), s_byteAt d l1 hn (by omega), Option.bind_some]
            simp only [s_isLetter, Option.bind_some, bi_0]
            rw [if_pos hi, r1.1 6 (by decide), if_neg (fun z => z ((byR_ltr (hB i hi)).mpr hq)), r7, nI_add1]) (n - s) s (sI θ 5 5 1) (by omega) ⟨q1.set _ _ (by decide), fun f hf => by rw [sI_k _ (by omega)]; exact q2 f hf, by rw [sI_k _ (by decide)]; exact q6, sI_1 _ _ _ _, by rw [sI_k _ (by decide)]; exact q7⟩
          obtain ⟨t1, t2, -, t4⟩ := sc_r (fun i => ltrP (b i)) (n - s) s
          refine ⟨ρ, Eq.trans e2 ?_, r1, r2, r5, r3, r7⟩
          have l1 : ρ.1 5 1 = nI n := (r2 1 (by omega)).trans h1
          (try simp only)
          rw [u_33_5p94 _ _ _ rfl, r7, l1]
          by_cases hi : sc (fun i => ltrP (b i)) s (n - s) < n
          · rw [if_pos (nlt hi), s_byteAt d l1 hn (by omega), Option.bind_some]
            simp only [s_isLetter, Option.bind_some, bi_0]
            rw [if_pos hi, r1.1 6 (by decide), if_pos (fun z => t4 (by omega) ((byR_ltr (hB _ hi)).mp z))]
          · rw [if_neg (nnl (by omega) (by omega))]
        · rw [if_pos (fun z => hl ((byR_ltr hbs).mp z)), if_neg hl]
          by_cases hf : figP (b s)
          · rw [if_neg (fun z => z ((byR_fig hbs).mpr hf)), if_pos hf]
            obtain ⟨ρ, ⟨r1, r2, r3, r7⟩, e2⟩ := loop_sc (E := fun (τ : ax_S) => ev sO (d + 1) 33 139 [.ref 5, .int (σ.1 6 s)] [] τ) (P := fun i τ => sm [5] σ τ ∧ (∀ f, f < 5 → τ.1 5 f = σ.1 5 f) ∧ τ.1 5 6 = nI s ∧ τ.1 5 7 = nI i) (Q := fun i => figP (b i)) (n := n) (fun i τ hi hq hp => by
              obtain ⟨r1, r2, r3, r7⟩ := hp
              refine ⟨sI τ 5 7 (nI (i + 1)), ⟨r1.set _ _ (by decide), fun f hf => by rw [sI_k _ (by omega)]; exact r2 f hf, by rw [sI_k _ (by decide)]; exact r3, sI_1 _ _ _ _⟩, ?_⟩
              have l1 : τ.1 5 1 = nI n := (r2 1 (by omega)).trans h1
              (try simp only)
              rw [u_33_5p139 _ _ _ rfl, r7, l1, if_pos (nlt hi), s_byteAt d l1 hn (by omega), Option.bind_some]
              simp only [s_isFigure, Option.bind_some, bi_0]
              rw [if_pos hi, r1.1 6 (by decide), if_neg (fun z => z ((byR_fig (hB i hi)).mpr hq)), r7, nI_add1]) (n - s) s θ (by omega) ⟨q1, q2, q6, q7⟩
            obtain ⟨t1, t2, -, t4⟩ := sc_r (fun i => figP (b i)) (n - s) s
            have l1 : ρ.1 5 1 = nI n := (r2 1 (by omega)).trans h1
            have ed : nI (sc (fun i => figP (b i)) s (n - s)) - nI s = nI (sc (fun i => figP (b i)) s (n - s) - s) := by
              apply Int32.toInt_inj.mp
              rw [i_sub (by rw [nI_i (by omega), nI_i (by omega)]; omega) (by rw [nI_i (by omega), nI_i (by omega)]; omega), nI_i (by omega), nI_i (by omega), nI_i (by omega)]
              omega
            have fin : ∀ X : Option (Option Value × ax_S), (X = if (4 : Int32) < nI (sc (fun i => figP (b i)) s (n - s) - s) then some (none, sI ρ 5 5 0) else some (none, sI ρ 5 5 2)) → ∃ ρ', X = some ((none : Option Value), ρ') ∧ sm [5] σ ρ' ∧ (∀ f, f < 5 → ρ'.1 5 f = σ.1 5 f) ∧ ρ'.1 5 5 = nI (cso (if 4 < sc (fun i => figP (b i)) s (n - s) - s then 0 else 3)) ∧ ρ'.1 5 6 = nI s ∧ ρ'.1 5 7 = nI (sc (fun i => figP (b i)) s (n - s)) := fun X hX => by
              by_cases h4 : 4 < sc (fun i => figP (b i)) s (n - s) - s
              · rw [if_pos (show (4 : Int32) < nI (sc (fun i => figP (b i)) s (n - s) - s) from nI_lt (a := 4) h4 (by omega))] at hX
                rw [if_pos h4]
                exact ⟨_, hX, r1.set _ _ (by decide), fun f hf => by rw [sI_k _ (by omega)]; exact r2 f hf, sI_1 _ _ _ _, by rw [sI_k _ (by decide)]; exact r3, by rw [sI_k _ (by decide)]; exact r7⟩
              · rw [if_neg (show ¬ (4 : Int32) < nI (sc (fun i => figP (b i)) s (n - s) - s) from nI_nlt (a := 4) (by omega) (by omega))] at hX
                rw [if_neg h4]
                exact ⟨_, hX, r1.set _ _ (by decide), fun f hf => by rw [sI_k _ (by omega)]; exact r2 f hf, sI_1 _ _ _ _, by rw [sI_k _ (by decide)]; exact r3, by rw [sI_k _ (by decide)]; exact r7⟩
            refine fin _ (Eq.trans e2 ?_)
            (try simp only)
            rw [u_33_5p139 _ _ _ rfl, r7, l1, r3, ed]
            by_cases hi : sc (fun i => figP (b i)) s (n - s) < n
            · rw [if_pos (nlt hi), s_byteAt d l1 hn (by omega), Option.bind_some]
              simp only [s_isFigure, Option.bind_some, bi_0, r7, r3, ed]
              rw [if_pos hi, r1.1 6 (by decide), if_pos (fun z => t4 (by omega) ((byR_fig (hB _ hi)).mp z))]
            · rw [if_neg (nnl (by omega) (by omega))]
          · rw [if_pos (fun z => hf ((byR_fig hbs).mp z)), if_neg hf, q6, nI_add1]
            have st : ∀ v : Int32, sm [5] σ (sI (sI θ 5 7 (nI (s + 1))) 5 5 v) ∧ (∀ f, f < 5 → (sI (sI θ 5 7 (nI (s + 1))) 5 5 v).1 5 f = σ.1 5 f) ∧ (sI (sI θ 5 7 (nI (s + 1))) 5 5 v).1 5 5 = v ∧ (sI (sI θ 5 7 (nI (s + 1))) 5 5 v).1 5 6 = nI s ∧ (sI (sI θ 5 7 (nI (s + 1))) 5 5 v).1 5 7 = nI (s + 1) := fun v => ⟨(q1.set _ _ (by decide)).set _ _ (by decide), fun f hf => by rw [sI_k _ (by omega), sI_k _ (by omega)]; exact q2 f hf, sI_1 _ _ _ _, by rw [sI_k _ (by decide), sI_k _ (by decide)]; exact q6, by rw [sI_k _ (by decide), sI_1]⟩
            have c59 := byR_eq hbs 59 (by omega)
            have c63 := byR_eq hbs 63 (by omega)
            by_cases h59 : b s = 59
            · rw [if_pos (c59.mpr h59), if_pos h59]
              obtain ⟨w1, w2, w3, w4, w5⟩ := st 3
              exact ⟨_, rfl, w1, w2, w3, w4, w5⟩
            · rw [if_neg (fun z => h59 (c59.mp z)), if_neg h59]
              by_cases h63 : b s = 63
              · rw [if_pos (c63.mpr h63), if_pos h63]
                obtain ⟨w1, w2, w3, w4, w5⟩ := st 3
                exact ⟨_, rfl, w1, w2, w3, w4, w5⟩
              · rw [if_neg (fun z => h63 (c63.mp z)), if_neg h63]
                obtain ⟨w1, w2, w3, w4, w5⟩ := st 0
                exact ⟨_, rfl, w1, w2, w3, w4, w5⟩
      · rw [if_neg (nnl (by omega) (by omega)), if_neg hs]
        exact ⟨_, rfl, q1.set _ _ (by decide), fun f hf => by rw [sI_k _ (by omega)]; exact q2 f hf, sI_1 _ _ _ _, by rw [sI_k _ (by decide)]; exact q6, by rw [sI_k _ (by decide)]; exact q7⟩
    obtain ⟨ρ, g1, g2⟩ := rest
    refine ⟨ρ, ?_, g2⟩
    rw [u_33_5p8 _ _ _ rfl]
    by_cases hs : s < n
    · have eb : cI sO d 34 [.ref 5, .int (τ.1 5 6)] τ = some (σ.1 6 s, τ) := by rw [p3, s_byteAt d l1 hn (by omega), if_pos hs, l6]
      rw [if_pos (by rw [p3, l1]; exact nlt hs), eb, Option.bind_some]
      simp only [s_isBlank, Option.bind_some, bi_0]
      rw [if_pos (fun z => s4 (by omega) ((byR_blk (hB s hs)).mp z))]
      exact g1
    · rw [if_neg (by rw [p3, l1]; exact nnl (by omega) (by omega))]
      exact g1
  obtain ⟨τ, e1, e2⟩ := key
  exact ⟨τ, cV_ev mi_33 e1 rfl, e2⟩
/-- the reference's own fields of a token -/
abbrev nk (f : Nat) : Prop := f ≠ 13 ∧ f ≠ 14 ∧ f ≠ 15 ∧ f ≠ 16
theorem m_next (d : Nat) {σ : ax_S} {b : Nat → Int32} {n e : Nat} (hb : mBy σ b n) (he : e ≤ n) (h7 : σ.1 82 13 = nI e) : ∃ τ, cV sO (d + 1) 206 [.ref 82] σ = some τ ∧ sm [82] σ τ ∧ (∀ f, nk f → τ.1 82 f = σ.1 82 f) ∧ τ.1 82 14 = nI (nxt b n e).1 ∧ τ.1 82 15 = nI (nxt b n e).2.1 ∧ τ.1 82 16 = nI (nxt b n e).2.2 ∧ τ.1 82 13 = nI (nxt b n e).2.2 := by
  obtain ⟨hn, h1, hB⟩ := hb
  have put : ∀ {τ : ax_S} (k : Nat) (v : Int32), ¬ nk k → (∀ f, nk f → τ.1 82 f = σ.1 82 f) → ∀ f, nk f → (sI τ 82 k v).1 82 f = σ.1 82 f := fun {τ} k v hk h f hf => by
    have nq : f ≠ k := fun q => hk (by rw [← q]; exact hf)
    rw [sI_k _ nq]
    exact h f hf
  have n13 : ¬ nk 13 := fun q => q.1 rfl
  have n14 : ¬ nk 14 := fun q => q.2.1 rfl
  have n15 : ¬ nk 15 := fun q => q.2.2.1 rfl
  have n16 : ¬ nk 16 := fun q => q.2.2.2 rfl
  have k12 : nk 12 := by decide
  have key : ∃ τ, ev sO (d + 1) 206 0 [.ref 82, .null] [] σ = some (none, τ) ∧ sm [82] σ τ ∧ (∀ f, nk f → τ.1 82 f = σ.1 82 f) ∧ τ.1 82 14 = nI (nxt b n e).1 ∧ τ.1 82 15 = nI (nxt b n e).2.1 ∧ τ.1 82 16 = nI (nxt b n e).2.2 ∧ τ.1 82 13 = nI (nxt b n e).2.2 := by
    obtain ⟨τ, ⟨p1, p2, p3⟩, e1⟩ := loop_sc (E := fun (τ : ax_S) => ev sO (d + 1) 206 0 [.ref 82, .null] [] τ) (P := fun i τ => sm [82] σ τ ∧ (∀ f, nk f → τ.1 82 f = σ.1 82 f) ∧ τ.1 82 13 = nI i) (Q := fun i => blkP (b i)) (n := n) (fun i τ hi hq hp => by
      obtain ⟨p1, p2, p3⟩ := hp
      refine ⟨sI τ 82 13 (nI (i + 1)), ⟨p1.set _ _ (by decide), put 13 _ n13 p2, sI_1 _ _ _ _⟩, ?_⟩
      have l1 : τ.1 82 12 = nI n := (p2 12 k12).trans h1
      (try simp only)
      rw [u_206_82, p3, m_byteAt d l1 hn (by omega), Option.bind_some]
      simp only [p3, m_byteAt d l1 hn (show i < 2147483648 by omega), Option.bind_some]
      rw [if_pos hi, p1.1 89 (by decide), (hB i hi).1, nI_add1]
      by_cases q : b i = 32
      · rw [if_pos q]
      · rw [if_neg q, if_pos (hq.resolve_left q)]) (n - e) e σ (by omega) ⟨sm.rf _ _, fun _ _ => rfl, h7⟩
    rw [e1]
    unfold nxt
    have hsc := sc_r (fun i => blkP (b i)) (n - e) e
    generalize sc (fun i => blkP (b i)) e (n - e) = s at hsc p3 ⊢
    obtain ⟨s1, s2, -, s4⟩ := hsc
    simp only at s4 ⊢
    have l1 : τ.1 82 12 = nI n := (p2 12 k12).trans h1
    have l6 : τ.1 89 = σ.1 89 := p1.1 89 (by decide)
    have q1 : sm [82] σ (sI τ 82 15 (nI s)) := p1.set _ _ (by decide)
    have q2 : ∀ f, nk f → (sI τ 82 15 (nI s)).1 82 f = σ.1 82 f := put 15 _ n15 p2
    have q5 : (sI τ 82 15 (nI s)).1 82 15 = nI s := sI_1 _ _ _ _
    have q3 : (sI τ 82 15 (nI s)).1 82 13 = nI s := by rw [sI_k _ (by decide)]; exact p3
    have lz : ∀ w : Int32, w = (if s < n then σ.1 89 s else -1000000) → ¬ w = 32 ∧ ¬ w = 10 := fun w hw => by
      by_cases hs : s < n
      · rw [if_pos hs, (hB s hs).1] at hw
        have := s4 (by omega)
        rw [hw]
        exact ⟨fun z => this (Or.inl z), fun z => this (Or.inr z)⟩
      · rw [if_neg hs] at hw
        rw [hw]
        exact ⟨by decide, by decide⟩
    rw [u_206_82, p3, m_byteAt d l1 hn (by omega), Option.bind_some]
    simp only [p3, m_byteAt d l1 hn (show s < 2147483648 by omega), Option.bind_some, l6]
    rw [if_neg (lz _ rfl).1, if_neg (lz _ rfl).2]
    generalize sI τ 82 15 (nI s) = θ at q1 q2 q5 q3 ⊢
    have k1 : θ.1 82 12 = nI n := (q2 12 k12).trans h1
    have k6 : θ.1 89 = σ.1 89 := q1.1 89 (by decide)
    simp only [q3, m_byteAt d k1 hn (show s < 2147483648 by omega), Option.bind_some, k6]
    by_cases hs : s < n
    · rw [if_pos hs, if_pos hs, (hB s hs).1, if_neg (show ¬ b s = -1000000 from fun z => by have := (hB s hs).2.1; rw [z, i_none] at this; omega)]
      simp only [m_isLetter, m_isFigure, Option.bind_some, bi_0]
      by_cases hl : ltrP (b s)
      · rw [if_neg (fun z => z hl), if_pos hl]
        obtain ⟨ρ, ⟨r1, r2, r5, r3⟩, e2⟩ := loop_sc (E := fun (τ : ax_S) => ev sO (d + 1) 206 77 [.ref 82, .int (b s)] [] τ) (P := fun i τ => sm [82] σ τ ∧ (∀ f, nk f → τ.1 82 f = σ.1 82 f) ∧ τ.1 82 15 = nI s ∧ τ.1 82 13 = nI i) (Q := fun i => ltrP (b i)) (n := n) (fun i τ hi hq hp => by
          obtain ⟨r1, r2, r5, r3⟩ := hp
          refine ⟨sI τ 82 13 (nI (i + 1)), ⟨r1.set _ _ (by decide), put 13 _ n13 r2, by rw [sI_k _ (by decide)]; exact r5, sI_1 _ _ _ _⟩, ?_⟩
          have l1 : τ.1 82 12 = nI n := (r2 12 k12).trans h1
          (try simp only)
          rw [u_206_82p77 _ _ _ rfl, r3, m_byteAt d l1 hn (by omega), Option.bind_some]
          simp only [m_isLetter, Option.bind_some, bi_0, r3]
          rw [if_pos hi, r1.1 89 (by decide), (hB i hi).1, if_neg (fun z => z hq), nI_add1]) (n - s) s θ (by omega) ⟨q1, q2, q5, q3⟩
        obtain ⟨t1, t2, -, t4⟩ := sc_r (fun i => ltrP (b i)) (n - s) s
        have l1 : ρ.1 82 12 = nI n := (r2 12 k12).trans h1
        have nl : ¬ ltrP (if sc (fun i => ltrP (b i)) s (n - s) < n then σ.1 89 (sc (fun i => ltrP (b i)) s (n - s)) else -1000000) := by
          by_cases hi : sc (fun i => ltrP (b i)) s (n - s) < n
          · rw [if_pos hi, (hB _ hi).1]
            exact t4 (by omega)
          · rw [if_neg hi]
            intro z
            have := z.1
            rw [i_none] at this
            omega
        refine ⟨sI (sI ρ 82 14 2) 82 16 (nI (sc (fun i => ltrP (b i)) s (n - s))), Eq.trans e2 ?_, (r1.set _ _ (by decide)).set _ _ (by decide), put 16 _ n16 (put 14 _ n14 r2), by rw [sI_k _ (by decide), sI_1]; rfl, by rw [sI_k _ (by decide), sI_k _ (by decide)]; exact r5, sI_1 _ _ _ _, by rw [sI_k _ (by decide), sI_k _ (by decide)]; exact r3⟩
        (try simp only)
        rw [u_206_82p77 _ _ _ rfl, r3, m_byteAt d l1 hn (by omega), Option.bind_some]
        simp only [m_isLetter, Option.bind_some, bi_0, r1.1 89 (by decide)]
        rw [if_pos nl, sI_k _ (by decide), r3]
      · rw [if_pos hl, if_neg hl]
        by_cases hf : figP (b s)
        · rw [if_neg (fun z => z hf), if_pos hf]
          obtain ⟨ρ, ⟨r1, r2, r5, r3⟩, e2⟩ := loop_sc (E := fun (τ : ax_S) => ev sO (d + 1) 206 119 [.ref 82, .int (b s)] [] τ) (P := fun i τ => sm [82] σ τ ∧ (∀ f, nk f → τ.1 82 f = σ.1 82 f) ∧ τ.1 82 15 = nI s ∧ τ.1 82 13 = nI i) (Q := fun i => figP (b i)) (n := n) (fun i τ hi hq hp => by
            obtain ⟨r1, r2, r5, r3⟩ := hp
            refine ⟨sI τ 82 13 (nI (i + 1)), ⟨r1.set _ _ (by decide), put 13 _ n13 r2, by rw [sI_k _ (by decide)]; exact r5, sI_1 _ _ _ _⟩, ?_⟩
            have l1 : τ.1 82 12 = nI n := (r2 12 k12).trans h1
            (try simp only)
            rw [u_206_82p119 _ _ _ rfl, r3, m_byteAt d l1 hn (by omega), Option.bind_some]
            simp only [m_isFigure, Option.bind_some, bi_0, r3]
            rw [if_pos hi, r1.1 89 (by decide), (hB i hi).1, if_neg (fun z => z hq), nI_add1]) (n - s) s θ (by omega) ⟨q1, q2, q5, q3⟩
          obtain ⟨t1, t2, -, t4⟩ := sc_r (fun i => figP (b i)) (n - s) s
          have l1 : ρ.1 82 12 = nI n := (r2 12 k12).trans h1
          have nl : ¬ figP (if sc (fun i => figP (b i)) s (n - s) < n then σ.1 89 (sc (fun i => figP (b i)) s (n - s)) else -1000000) := by
            by_cases hi : sc (fun i => figP (b i)) s (n - s) < n
            · rw [if_pos hi, (hB _ hi).1]
              exact t4 (by omega)
            · rw [if_neg hi]
              intro z
              have := z.1
              rw [i_none] at this
              omega
          have ed : nI (sc (fun i => figP (b i)) s (n - s)) - nI s = nI (sc (fun i => figP (b i)) s (n - s) - s) := by
            apply Int32.toInt_inj.mp
            rw [i_sub (by rw [nI_i (by omega), nI_i (by omega)]; omega) (by rw [nI_i (by omega), nI_i (by omega)]; omega), nI_i (by omega), nI_i (by omega), nI_i (by omega)]
            omega
          have st : ∀ v : Nat, sm [82] σ (sI (sI ρ 82 14 (nI v)) 82 16 (nI (sc (fun i => figP (b i)) s (n - s)))) ∧ (∀ f, nk f → (sI (sI ρ 82 14 (nI v)) 82 16 (nI (sc (fun i => figP (b i)) s (n - s)))).1 82 f = σ.1 82 f) ∧ (sI (sI ρ 82 14 (nI v)) 82 16 (nI (sc (fun i => figP (b i)) s (n - s)))).1 82 14 = nI v ∧ (sI (sI ρ 82 14 (nI v)) 82 16 (nI (sc (fun i => figP (b i)) s (n - s)))).1 82 15 = nI s ∧ (sI (sI ρ 82 14 (nI v)) 82 16 (nI (sc (fun i => figP (b i)) s (n - s)))).1 82 16 = nI (sc (fun i => figP (b i)) s (n - s)) ∧ (sI (sI ρ 82 14 (nI v)) 82 16 (nI (sc (fun i => figP (b i)) s (n - s)))).1 82 13 = nI (sc (fun i => figP (b i)) s (n - s)) := fun v => ⟨(r1.set _ _ (by decide)).set _ _ (by decide), put 16 _ n16 (put 14 _ n14 r2), by rw [sI_k _ (by decide), sI_1], by rw [sI_k _ (by decide), sI_k _ (by decide)]; exact r5, sI_1 _ _ _ _, by rw [sI_k _ (by decide), sI_k _ (by decide)]; exact r3⟩
          refine ⟨sI (sI ρ 82 14 (nI (if 4 < sc (fun i => figP (b i)) s (n - s) - s then 0 else 3))) 82 16 (nI (sc (fun i => figP (b i)) s (n - s))), Eq.trans e2 ?_, st _⟩
          (try simp only)
          rw [u_206_82p119 _ _ _ rfl, r3, m_byteAt d l1 hn (by omega), Option.bind_some]
          simp only [m_isFigure, Option.bind_some, bi_0, r1.1 89 (by decide), r3, r5, ed]
          rw [if_pos nl, sI_k (k := 14) _ (by decide), sI_k (k := 14) _ (by decide), r3]
          by_cases h4 : 4 < sc (fun i => figP (b i)) s (n - s) - s
          · rw [if_pos (show (4 : Int32) < nI (sc (fun i => figP (b i)) s (n - s) - s) from nI_lt (a := 4) h4 (by omega)), if_pos h4]
            rfl
          · rw [if_neg (show ¬ (4 : Int32) < nI (sc (fun i => figP (b i)) s (n - s) - s) from nI_nlt (a := 4) (by omega) (by omega)), if_neg h4]
            rfl
        · rw [if_pos hf, if_neg hf, q3, nI_add1]
          have st : ∀ v : Nat, sm [82] σ (sI (sI (sI θ 82 13 (nI (s + 1))) 82 14 (nI v)) 82 16 (nI (s + 1))) ∧ (∀ f, nk f → (sI (sI (sI θ 82 13 (nI (s + 1))) 82 14 (nI v)) 82 16 (nI (s + 1))).1 82 f = σ.1 82 f) ∧ (sI (sI (sI θ 82 13 (nI (s + 1))) 82 14 (nI v)) 82 16 (nI (s + 1))).1 82 14 = nI v ∧ (sI (sI (sI θ 82 13 (nI (s + 1))) 82 14 (nI v)) 82 16 (nI (s + 1))).1 82 15 = nI s ∧ (sI (sI (sI θ 82 13 (nI (s + 1))) 82 14 (nI v)) 82 16 (nI (s + 1))).1 82 16 = nI (s + 1) ∧ (sI (sI (sI θ 82 13 (nI (s + 1))) 82 14 (nI v)) 82 16 (nI (s + 1))).1 82 13 = nI (s + 1) := fun v => ⟨((q1.set _ _ (by decide)).set _ _ (by decide)).set _ _ (by decide), put 16 _ n16 (put 14 _ n14 (put 13 _ n13 q2)), by rw [sI_k _ (by decide), sI_1], by rw [sI_k _ (by decide), sI_k _ (by decide), sI_k _ (by decide)]; exact q5, sI_1 _ _ _ _, by rw [sI_k _ (by decide), sI_k _ (by decide), sI_1]⟩
          have e13 : ∀ v : Int32, (sI (sI θ 82 13 (nI (s + 1))) 82 14 v).1 82 13 = nI (s + 1) := fun v => by rw [sI_k _ (by decide), sI_1]
          refine ⟨sI (sI (sI θ 82 13 (nI (s + 1))) 82 14 (nI (if b s = 59 then 4 else if b s = 63 then 5 else 0))) 82 16 (nI (s + 1)), ?_, st _⟩
          simp only [e13]
          by_cases h59 : b s = 59
          · rw [if_pos h59, if_pos h59]
            rfl
          · rw [if_neg h59, if_neg h59]
            by_cases h63 : b s = 63
            · rw [if_pos h63, if_pos h63]
              rfl
            · rw [if_neg h63, if_neg h63]
              rfl
    · rw [if_neg hs, if_neg hs, if_pos rfl]
      refine ⟨sI (sI θ 82 14 1) 82 16 (nI s), ?_, (q1.set _ _ (by decide)).set _ _ (by decide), put 16 _ n16 (put 14 _ n14 q2), by rw [sI_k _ (by decide), sI_1]; rfl, by rw [sI_k _ (by decide), sI_k _ (by decide)]; exact q5, sI_1 _ _ _ _, by rw [sI_k _ (by decide), sI_k _ (by decide)]; exact q3⟩
      rw [sI_k (k := 14) _ (by decide), q3]
  obtain ⟨τ, e1, e2⟩ := key
  exact ⟨τ, cV_ev mi_206 e1 rfl, e2⟩
