/-! THE PUBLIC METHODS, 40: sure -/
theorem t_sure (d : Nat) {σ : ax_S} (x i : Int32) (r : RA σ) (hF : FI σ) : PT d σ 153 266 [.int x, .int i] := by
  obtain ⟨n, hRD⟩ := r.1
  obtain ⟨hn, h17, h88, -⟩ := rd_of hRD
  have e88 : (sI σ 82 0 0).1 88 0 = nI n := by rw [sI_n _ _ (by decide)]; exact h88
  have pw : 2 ^ n ≤ 4096 := pw_lt hn
  have ec := u_153_0 (d + 16) σ x i
  have em := u_266_82 (d + 14)
  obtain ⟨X, rfl, hX, p2, p6, g1⟩ | ⟨hno, g1⟩ := s_isGrove (d + 18) (σ := σ) x hn h17
  · rw [g1, Option.bind_some] at ec
    (try simp only at ec)
    rw [if_neg (show ¬ (1 : Int32) = 0 by decide)] at ec
    by_cases hi : i < -1
    · rw [if_pos hi] at ec
      obtain ⟨ρ, a1, a2, a3, -⟩ := m_areEnds (d + 18) (σ := sI σ 82 0 0) (n := n) (X := X) hn e88 hX p2 p6
      have eml := em σ (nI X) i
      rw [a1, Option.bind_some] at eml
      (try simp only at eml)
      rw [if_neg (show ¬ (1 : Int32) = 0 by decide), if_pos hi] at eml
      have f : ∀ f, f ≠ 0 → f ≠ 25 → ρ.1 82 f = σ.1 82 f := fun f f0 f25 => by rw [a3 f f25, sI_k _ f0]
      have hS : Sc σ ρ := ⟨((sm.rf _ _).set _ _ (by decide)).tr (a2.up (by decide)), f 1 (by decide) (by decide), f 7 (by decide) (by decide), f 10 (by decide) (by decide), f 11 (by decide) (by decide), f 43 (by decide) (by decide)⟩
      exact ⟨_, σ, ρ, cL_ev mi_153 ec rfl, cL_ev mi_266 eml rfl, RA_Sc hS r, FI_c (Fo_Sc hS) hF⟩
    · rw [if_neg hi] at ec
      obtain ⟨τ, K, F, cd, k1, fr, k3, -, k5, k6, k7, k8⟩ := t_grow (d + 16) hRD hF hX p2 p6
      have hlen := enL_len hn hX
      obtain ⟨e, he⟩ : ∃ e, e = (enL X n).length := ⟨_, rfl⟩
      have hE := fun i k (h1 : i < k) (h2 : k < (enL X n).length) => vlP_inc (fun j => X.testBit j) n i k h1 h2
      have hfull := mkN_full hX
      rw [k1, Option.bind_some, s_sureJoin (d + 18) (show (enL X n).length ≤ 6 by omega) k6 hi, Option.bind_some] at ec
      have eml := em τ (nI X) i
      obtain ⟨ρ, a1, a2, a3⟩ := m_grove (d + 18) (K := K) (F := F) (cd := cd) hRD fr hX p2 p6 (fun m hm => ⟨(k8 m hm).1, (k8 m hm).2.2.2⟩)
      obtain ⟨ω, s1, s2, s3, s4⟩ := m_seekTrees (d + 14) a3
      obtain ⟨L, w, t1, t2, t3, t4, ⟨t0, t01, t02⟩, t6, -, -, t9⟩ := GA_GR (by omega) (by omega) (fun m hm => (k8 m hm).1) (fun m hm => (k8 m hm).2.2.2) k5 s4
      rw [a1, Option.bind_some] at eml
      (try simp only at eml)
      rw [if_neg (show ¬ (1 : Int32) = 0 by decide), if_neg hi, s1, Option.bind_some] at eml
      have rA : RA τ := RA_fo fr r
      have hMX : MX ω n (enL X n).length (gN (enL X n)) K F (fun m j => mr σ (gN (enL X n) j) m) cd := MX_c (s2.1 88 (by decide)) (s2.1 91 (by decide)) (s3 25 (by decide) (by decide) (by decide) (by decide)) a3
      obtain ⟨a, b1', b2, b3⟩ := m_su1 (d + 14) (ω := ω) (X := X) (by omega) i
      have hq : ∀ v, v < allN (enL X n).length → (ω.1 98 v = 0 ↔ ¬ nA (enL X n).length cd (qT (enL X n).length v) = L) := fun v hv => by
        obtain ⟨q1, q2⟩ := qT_of (show 2 ≤ (enL X n).length by omega) (by omega) hv
        have := t9 _ q1
        rw [q2] at this
        rw [this]
        by_cases z : nA (enL X n).length cd (qT (enL X n).length v) = L
        · rw [if_pos z]
          exact ⟨fun y => absurd y (by decide), fun y => absurd z y⟩
        · rw [if_neg z]
          exact ⟨fun _ => z, fun _ => rfl⟩
      obtain ⟨b, c1', c2, c3, c4⟩ := m_su2 (d + 14) (G := fun v => nA (enL X n).length cd (qT (enL X n).length v) = L) i (by omega) hMX hq b2 b3
      have fin := m_su4 (d + 14) (ρ := b) (X := X) (i := i) (by omega) hi (fun s hs => (c4 s hs).1) X 0 (by omega)
      have hf0 : fdv (vlP (fun s => b.1 99 s == 1) 0) nI i = -1000000 := by
        unfold fdv
        exact if_neg (fun z => by
          have h1 := z.1
          have h2 : i.toInt < ((0 : Nat) : Int) := z.2
          omega)
      rw [hf0] at fin
      have hlists : vlP (fun s => b.1 99 s == 1) X = (vlP (bl τ.2) 64).map fun b => mkN (gN (enL X n)) b (enL X n).length := by
        have inC : ∀ y, y ∈ vlP (bl τ.2) 64 → y < 2 ^ (enL X n).length ∧ y ≠ 2 ^ (enL X n).length - 1 ∧ 1 < pop6 y ∧ ∀ t, t < allN (enL X n).length → nA (enL X n).length cd t = L → y ∈ cJ (enL X n).length t := fun y hy => by
          obtain ⟨y1, y2⟩ := (vlP_m _ _ _).mp hy
          have hall := (t6 y y1).mp y2
          obtain ⟨-, -, z1, -⟩ := chk_of (show 2 ≤ (enL X n).length by omega) (by omega) t01
          obtain ⟨z2, z3⟩ := z1 y (hall t0 t01 t02)
          obtain ⟨-, -, -, -, -, hu⟩ := chd_of (show 2 ≤ (enL X n).length by omega) (by omega) t01
          obtain ⟨z4, z5⟩ := mJ_2 (show 2 ≤ (enL X n).length by omega) (by omega) hu z2
          exact ⟨z5, z3, z4, hall⟩
        refine inc_eq _ _ (vlP_pw _ _) (List.pairwise_map.mpr (List.Pairwise.imp_of_mem (fun ha hb hab => mkN_lt2 hE (inC _ hb).1 hab) (vlP_pw _ _))) (fun s => ?_)
        rw [vlP_m, List.mem_map]
        constructor
        · rintro ⟨z1, z2⟩
          have z2 : b.1 99 s = 1 := eq_of_beq z2
          obtain ⟨y1, y2⟩ := (c4 s z1).2.mp z2
          have jm : ∀ t, t < allN (enL X n).length → nA (enL X n).length cd t = L → JM (enL X n).length (gN (enL X n)) (piT (enL X n).length t) s := fun t ht hL => by
            obtain ⟨-, -, -, -, -, hu⟩ := chd_of (show 2 ≤ (enL X n).length by omega) (by omega) ht
            exact y2 _ hu (by rw [qT_pi (by omega) (by omega) ht]; exact hL)
          obtain ⟨v, v1, v2⟩ := jm t0 t01 t02
          obtain ⟨-, -, -, -, -, hu0⟩ := chd_of (show 2 ≤ (enL X n).length by omega) (by omega) t01
          obtain ⟨v3, v4⟩ := mJ_2 (show 2 ≤ (enL X n).length by omega) (by omega) hu0 v1
          have hp64 : 2 ^ (enL X n).length ≤ 2 ^ 6 := Nat.pow_le_pow_right (by omega) (by omega)
          have v64 : v < 64 := by
            have : (2 : Nat) ^ 6 = 64 := rfl
            omega
          refine ⟨v, (vlP_m _ _ _).mpr ⟨v64, (t6 v v64).mpr (fun t ht hL => ?_)⟩, v2⟩
          obtain ⟨v', w1, w2⟩ := jm t ht hL
          obtain ⟨-, -, -, -, -, hu⟩ := chd_of (show 2 ≤ (enL X n).length by omega) (by omega) ht
          obtain ⟨w3, w4⟩ := mJ_2 (show 2 ≤ (enL X n).length by omega) (by omega) hu w1
          have := mkN_inj hE w4 v4 (w2.trans v2.symm)
          subst this
          obtain ⟨-, -, -, x1, -⟩ := chk_of (show 2 ≤ (enL X n).length by omega) (by omega) ht
          obtain x2 | x2 := x1 v' w1
          · rw [x2, hfull] at w2
            exact absurd w2 (by omega)
          · exact x2
        · rintro ⟨v, v1, v2⟩
          obtain ⟨w1, w2, w3, w4⟩ := inC v v1
          have h12 : ∀ j, j < (enL X n).length → gN (enL X n) j < 12 := fun j hj => Nat.lt_of_lt_of_le (vlP_lt (P := fun j => X.testBit j) hj).1 hn
          have hpc : pcN s = pop6 v := by
            rw [← v2]
            have := mkN_pc (E := gN (enL X n)) (m := v) (enL X n).length h12 hE
            rw [this, pop6_cn (by omega) w1]
          have hsX : s < X := by
            have h1 := mkN_lt2 (E := gN (enL X n)) (a := v) (b := 2 ^ (enL X n).length - 1) hE (by omega) (by omega)
            rw [hfull, v2] at h1
            exact h1
          refine ⟨hsX, ?_⟩
          have : b.1 99 s = 1 := (c4 s hsX).2.mpr ⟨⟨bt_ext (fun o ho => ?_), by omega, by omega⟩, fun u' hu' hL => ?_⟩
          · exact beq_iff_eq.mpr this
          · rw [bt_0, bt_and, bt_xor, bt_m1 ho, nI_bt s ho, nI_bt X ho]
            cases h1 : s.testBit o
            · rfl
            · rw [← v2] at h1
              obtain ⟨j, j1, -, j3⟩ := (mkN_b (enL X n).length).mp h1
              have h3 := (vlP_lt (P := fun j => X.testBit j) j1).2
              have j3 : gN (vlP (fun j => X.testBit j) n) j = o := j3
              rw [j3] at h3
              have h3 : X.testBit o = true := h3
              rw [h3]
              rfl
          · obtain ⟨q1, q2⟩ := qT_of (show 2 ≤ (enL X n).length by omega) (by omega) hu'
            obtain ⟨-, -, x1, -⟩ := chk_of (show 2 ≤ (enL X n).length by omega) (by omega) q1
            have := (x1 v (w4 _ q1 hL)).1
            rw [q2] at this
            exact ⟨v, this, v2⟩
      have hval : sjv (vlP (bl τ.2) 64) (fun b => (mkE (τ.1 68) b (enL X n).length).toInt64) i = sjv (vlP (fun s => b.1 99 s == 1) X) (fun s => (nI s).toInt64) i := by
        rw [hlists]
        refine (sjv_map hi (fun b _ => ?_)).symm
        (try simp only)
        rw [mkE_n (E := gN (enL X n)) (enL X n).length (fun j hj => ⟨k7 j hj, Nat.lt_of_lt_of_le (vlP_lt (P := fun j => X.testBit j) hj).1 hn⟩)]
      have hS : Sc τ b := by
        refine Sc_tr a2 (Sc_tr (Sc_seek s2 s3) ⟨c2.up (by decide), ?_, ?_, ?_, ?_, ?_⟩)
        · exact c3 1 (by decide)
        · exact c3 7 (by decide)
        · exact c3 10 (by decide)
        · exact c3 11 (by decide)
        · exact c3 43 (by decide)
      rw [hval] at ec
      exact ⟨_, τ, b, cL_ev mi_153 ec rfl, cL_ev mi_266 (eml.trans (b1'.trans (c1'.trans fin))) rfl, RA_Sc hS rA, FI_c (Fo_Sc hS) k3⟩
  · rw [g1, Option.bind_some] at ec
    (try simp only at ec)
    rw [if_pos trivial] at ec
    have eml := em σ x i
    rw [m_noEnds (d + 18) x hn e88 hno, Option.bind_some] at eml
    (try simp only at eml)
    rw [if_pos trivial] at eml
    exact ⟨_, σ, _, cL_ev mi_153 ec rfl, cL_ev mi_266 eml rfl, RA_Sc (Sc_0 σ) r, FI_c (Fo_Sc (Sc_0 σ)) hF⟩
