/-! THE REFERENCE'S CARDS (cell 88: [0] how many, 15 each: land 1, year 2, mother 3, stains 4, marks 5..) -/
theorem m_in (d : Nat) (σ : ax_S) (a b c : Int64) : cI sO d 198 [.long a, .long b, .long c] σ = some (bi (b.toInt ≤ a.toInt ∧ a.toInt ≤ c.toInt), σ) := by
  refine cI_ev mi_198 ((u_198 d σ a b c).trans ?_) rfl
  simp only [lg_cmp_lt, lg_cmp_gt, Int64.lt_iff_toInt_lt]
  unfold bi
  split
  · rw [if_neg (by omega)]
  · split
    · rw [if_neg (by omega)]
    · rw [if_pos (by omega)]
theorem l_0 : (0 : Int64).toInt = 0 := by decide
theorem l_i (x : Int32) : x.toInt64.toInt = x.toInt := Int32.toInt_toInt64 x
theorem m_isRow (d : Nat) (σ : ax_S) (x : Int32) : cI sO (d + 1) 197 [.int x] σ = some (bi (rgP 0 7 x), σ) := by
  refine cI_ev mi_197 ((u_197 d σ x).trans ?_) rfl
  rw [m_in, Option.bind_some]
  simp only [bi_a, l_i, l_0, show (7 : Int64).toInt = 7 by decide]
theorem m_isLand (d : Nat) (σ : ax_S) (x : Int32) : cI sO (d + 1) 229 [.int x] σ = some (bi (rgP 0 3 x), σ) := by
  refine cI_ev mi_229 ((u_229 d σ x).trans ?_) rfl
  rw [m_in, Option.bind_some]
  simp only [bi_a, l_i, l_0, show (3 : Int64).toInt = 3 by decide]
theorem m_isYear (d : Nat) (σ : ax_S) (x : Int32) : cI sO (d + 1) 230 [.int x] σ = some (bi (rgP 1800 2000 x), σ) := by
  refine cI_ev mi_230 ((u_230 d σ x).trans ?_) rfl
  rw [m_in, Option.bind_some]
  simp only [bi_a, l_i, show (1800 : Int64).toInt = 1800 by decide, show (2000 : Int64).toInt = 2000 by decide]
theorem m_isThing (d : Nat) (σ : ax_S) (x : Int32) : cI sO (d + 1) 272 [.int x] σ = some (bi (rgP 0 7 x), σ) := by
  refine cI_ev mi_272 ((u_272 d σ x).trans ?_) rfl
  rw [m_in, Option.bind_some]
  simp only [bi_a, l_i, l_0, show (7 : Int64).toInt = 7 by decide]
theorem m_isMark (d : Nat) (σ : ax_S) (x : Int32) : cI sO (d + 1) 237 [.int x] σ = some (bi (mkP x), σ) := by
  refine cI_ev mi_237 ((u_237 d σ x).trans ?_) rfl
  rw [m_in, Option.bind_some]
  simp only [bi_a, l_i, l_0, show (10 : Int64).toInt = 10 by decide]
  rw [bi_c (show (0 ≤ x.toInt ∧ x.toInt ≤ 10) ↔ mkP x from by constructor <;> (intro h; exact ⟨h.1, by have := h.2; omega⟩))]
theorem m_isCard (d : Nat) {σ : ax_S} {n : Nat} (x : Int32) (hs : σ.1 88 0 = nI n) (hn : n ≤ 12) : cI sO (d + 1) 231 [.ref 82, .int x] σ = some (bi (hasP (nI n) x), σ) := by
  refine cI_ev mi_231 ((u_231_82 d σ x).trans ?_) rfl
  rw [m_in, Option.bind_some, hs]
  have e : (nI n - 1).toInt = n - 1 := by
    rw [i_sub, nI_i (by omega), i_1]
    · rw [nI_i (by omega), i_1]; omega
    · rw [nI_i (by omega), i_1]; omega
  simp only [bi_a, l_i, l_0, e]
  rw [bi_c (show (0 ≤ x.toInt ∧ x.toInt ≤ (n : Int) - 1) ↔ hasP (nI n) x from by
    unfold hasP
    rw [nI_i (by omega)]
    omega)]
theorem nI_pl {a b : Nat} (h : a + b < 2147483648) : nI a + nI b = nI (a + b) := by
  apply Int32.toInt_inj.mp
  rw [i_add, nI_i (by omega), nI_i (by omega), nI_i (by omega)]
  · omega
  · rw [nI_i (by omega), nI_i (by omega)]; omega
  · rw [nI_i (by omega), nI_i (by omega)]; omega
theorem nI_mul {a b : Nat} (h : a * b < 2147483648) (ha : a < 2147483648) (hb : b < 2147483648) : nI a * nI b = nI (a * b) := by
  apply Int32.toInt_inj.mp
  rw [i_mul, nI_i ha, nI_i hb, nI_i h]
  · omega
  · rw [nI_i ha, nI_i hb]; have : (0 : Int) ≤ (a : Int) * b := by exact_mod_cast Nat.zero_le _
    omega
  · rw [nI_i ha, nI_i hb]; have : (a : Int) * b = ((a * b : Nat) : Int) := by push_cast; rfl
    omega
theorem m_of (d : Nat) (σ : ax_S) {j r : Nat} (hj : j < 12) (hr : r < 16) : cI sO d 232 [.ref 82, .int (nI j), .int (nI r)] σ = some (σ.1 88 (15 * j + r), σ) := by
  refine cI_ev mi_232 ((u_232_82 d σ _ _).trans ?_) rfl
  have e : (15 : Int32) * nI j + nI r = nI (15 * j + r) := by
    rw [show (15 : Int32) = nI 15 from rfl, nI_mul (by omega) (by omega) (by omega), nI_pl (by omega)]
  rw [e, gd_t (by rw [nI_i (by omega)]; omega), nI_c (by omega)]
def ml (σ : ax_S) (j : Nat) : Int32 := σ.1 88 (15 * j + 1)
def my (σ : ax_S) (j : Nat) : Int32 := σ.1 88 (15 * j + 2)
def mo (σ : ax_S) (j : Nat) : Int32 := σ.1 88 (15 * j + 3)
def ms (σ : ax_S) (j : Nat) : Int32 := σ.1 88 (15 * j + 4)
def mk (σ : ax_S) (j k : Nat) : Int32 := σ.1 88 (15 * j + 5 + k)
def mr (σ : ax_S) (j k : Nat) : Int32 := if bt (ms σ j) k then -1000000 else mk σ j k
def mm (σ : ax_S) (j : Nat) : Int32 := if mo σ j < 0 then -1000000 else mo σ j
theorem m_of2 (d : Nat) (σ : ax_S) {j : Nat} (hj : j < 12) : cI sO d 232 [.ref 82, .int (nI j), .int (2 : Int32)] σ = some (my σ j, σ) := m_of d σ (r := 2) hj (by omega)
theorem m_of3 (d : Nat) (σ : ax_S) {j : Nat} (hj : j < 12) : cI sO d 232 [.ref 82, .int (nI j), .int (3 : Int32)] σ = some (mo σ j, σ) := m_of d σ (r := 3) hj (by omega)
theorem m_of4 (d : Nat) (σ : ax_S) {j : Nat} (hj : j < 12) : cI sO d 232 [.ref 82, .int (nI j), .int (4 : Int32)] σ = some (ms σ j, σ) := m_of d σ (r := 4) hj (by omega)
theorem m_mark (d : Nat) (σ : ax_S) {j k : Nat} (hj : j < 12) (hk : k < 11) : cI sO d 235 [.ref 82, .int (nI j), .int (nI k)] σ = some (mk σ j k, σ) := by
  refine cI_ev mi_235 ((u_235_82 d σ _ _).trans ?_) rfl
  have e : (15 : Int32) * nI j + (5 : Int32) + nI k = nI (15 * j + 5 + k) := by
    rw [show (15 : Int32) = nI 15 from rfl, show (5 : Int32) = nI 5 from rfl, nI_mul (by omega) (by omega) (by omega), nI_pl (by omega), nI_pl (by omega)]
  rw [e, gd_t (by rw [nI_i (by omega)]; omega), nI_c (by omega)]
  rfl
theorem m_isKnown (d : Nat) (σ : ax_S) {j k : Nat} (hj : j < 12) (hk : k < 11) : cI sO (d + 1) 234 [.ref 82, .int (nI j), .int (nI k)] σ = some (bi (bt (ms σ j) k = false), σ) := by
  refine cI_ev mi_234 ((u_234_82 d σ _ _).trans ?_) rfl
  rw [m_of4 _ _ hj, Option.bind_some]
  simp only
  rw [bt_at _ (by omega)]
  cases bt (ms σ j) k <;> rfl
/-- what holds of the reference's cards -/
def mI (σ : ax_S) (n : Nat) : Prop := ∀ j, j < n → (∀ k, k < 11 → 0 ≤ (mk σ j k).toInt ∧ (bt (ms σ j) k = true → mk σ j k = 0)) ∧ (∀ k, 11 ≤ k → k < 32 → bt (ms σ j) k = false)
theorem i_pos_nn {x : Int32} (h : 0 ≤ x.toInt) : x ≠ -1000000 := by
  intro e
  rw [e, i_none] at h
  omega
theorem mr_t {σ : ax_S} {j k : Nat} (h : bt (ms σ j) k = true) : mr σ j k = -1000000 := if_pos h
theorem mr_f {σ : ax_S} {j k : Nat} (h : bt (ms σ j) k = false) : mr σ j k = mk σ j k := if_neg (by rw [h]; decide)
theorem mr_kn {σ : ax_S} {n j k : Nat} (hi : mI σ n) (hj : j < n) (hk : k < 11) : bt (ms σ j) k = false ↔ mr σ j k ≠ -1000000 := by
  cases h : bt (ms σ j) k
  · rw [mr_f h]
    exact ⟨fun _ => i_pos_nn ((hi j hj).1 k hk).1, fun _ => rfl⟩
  · rw [mr_t h]
    exact ⟨fun q => absurd q (by decide), fun q => absurd rfl q⟩
theorem mk_cz {σ : ax_S} {n j k : Nat} (hi : mI σ n) (hj : j < n) (hk : k < 11) : mk σ j k = cz (mr σ j k) := by
  unfold cz
  cases h : bt (ms σ j) k
  · rw [mr_f h, if_neg (i_pos_nn ((hi j hj).1 k hk).1)]
  · rw [mr_t h, if_pos rfl]
    exact ((hi j hj).1 k hk).2 h
theorem m_isUnlike (d : Nat) {σ : ax_S} {n a b k : Nat} (hn : n ≤ 12) (hi : mI σ n) (ha : a < n) (hb : b < n) (hk : k < 11) : cI sO (d + 2) 245 [.ref 82, .int (nI a), .int (nI b), .int (nI k)] σ = some (bi (ulP (mr σ a) (mr σ b) k), σ) := by
  refine cI_ev mi_245 ((u_245_82 d σ _ _ _).trans ?_) rfl
  simp only [m_isKnown _ σ (show a < 12 by omega) hk, m_isKnown _ σ (show b < 12 by omega) hk, m_mark _ σ (show a < 12 by omega) hk, m_mark _ σ (show b < 12 by omega) hk, Option.bind_some, bi_0]
  have ka := mr_kn hi ha hk
  have kb := mr_kn hi hb hk
  by_cases h1 : bt (ms σ a) k = false
  · rw [if_neg (fun q => q h1)]
    by_cases h2 : bt (ms σ b) k = false
    · rw [if_neg (fun q => q h2), ← mr_f h1, ← mr_f h2]
      by_cases h3 : mr σ a k = mr σ b k
      · rw [if_pos h3, bi_f (fun q => q.2.2 h3)]
      · rw [if_neg h3, bi_t ⟨ka.mp h1, kb.mp h2, h3⟩]
    · rw [if_pos h2, bi_f (fun q => h2 (kb.mpr q.2.1))]
  · rw [if_pos h1, bi_f (fun q => h1 (ka.mpr q.1))]
theorem m_unlikeOf (d : Nat) {σ : ax_S} {n a b : Nat} (hn : n ≤ 12) (hi : mI σ n) (ha : a < n) (hb : b < n) : cI sO (d + 3) 244 [.ref 82, .int (nI a), .int (nI b)] σ = some (unl (mr σ a) (mr σ b), σ) := by
  refine cI_ev mi_244 ((u_244_82 d σ _ _).trans ?_) rfl
  refine (loop_it (E := fun k (u : Int32) => ev sO (d + 3) 244 5 [.ref 82, .int (nI a), .int (nI b), .int u, .int (nI k)] [] σ) (f := fun k u => if ulP (mr σ a) (mr σ b) k then u + 1 else u) (N := 11) (fun k u hk => ?_) 0).trans ?_
  · rw [u_244_82p5, if_pos (l11 hk)]
    simp only [m_isUnlike _ hn hi ha hb hk, Option.bind_some, bi_0, nI_add1, Int32.add_zero]
    by_cases h : ulP (mr σ a) (mr σ b) k
    · rw [if_neg (fun q => q h), if_pos h]
    · rw [if_pos h, if_neg h]
  · rw [u_244_82p5, if_neg g11]
    rfl
theorem m_isAlike (d : Nat) {σ : ax_S} {n a b k : Nat} (hn : n ≤ 12) (hi : mI σ n) (ha : a < n) (hb : b < n) (hk : k < 11) : cI sO (d + 2) 256 [.ref 82, .int (nI a), .int (nI b), .int (nI k)] σ = some (bi (mr σ a k ≠ -1000000 ∧ mr σ b k ≠ -1000000 ∧ mr σ a k = mr σ b k), σ) := by
  refine cI_ev mi_256 ((u_256_82 d σ _ _ _).trans ?_) rfl
  simp only [m_isKnown _ σ (show a < 12 by omega) hk, m_isKnown _ σ (show b < 12 by omega) hk, m_mark _ σ (show a < 12 by omega) hk, m_mark _ σ (show b < 12 by omega) hk, Option.bind_some, bi_0]
  have ka := mr_kn hi ha hk
  have kb := mr_kn hi hb hk
  by_cases h1 : bt (ms σ a) k = false
  · rw [if_neg (fun q => q h1)]
    by_cases h2 : bt (ms σ b) k = false
    · rw [if_neg (fun q => q h2), ← mr_f h1, ← mr_f h2]
      by_cases h3 : mr σ a k = mr σ b k
      · rw [if_pos h3, bi_t ⟨ka.mp h1, kb.mp h2, h3⟩]
      · rw [if_neg h3, bi_f (fun q => h3 q.2.2)]
    · rw [if_pos h2, bi_f (fun q => h2 (kb.mpr q.2.1))]
  · rw [if_pos h1, bi_f (fun q => h1 (ka.mpr q.1))]
theorem m_has (d : Nat) {σ : ax_S} {n c k : Nat} (hn : n ≤ 12) (hi : mI σ n) (hc : c < n) (hk : k < 11) : cI sO (d + 2) 270 [.ref 82, .int (nI c), .int (nI k)] σ = some (bi (0 < mr σ c k), σ) := by
  refine cI_ev mi_270 ((u_270_82 d σ _ _).trans ?_) rfl
  simp only [m_isKnown _ σ (show c < 12 by omega) hk, m_mark _ σ (show c < 12 by omega) hk, Option.bind_some, bi_0]
  cases h : bt (ms σ c) k
  · rw [if_neg (fun q => q rfl), mr_f h]
    unfold bi
    split <;> rfl
  · rw [if_pos (by decide), mr_t h, bi_f (by decide)]
theorem m_lacks (d : Nat) {σ : ax_S} {n c k : Nat} (hn : n ≤ 12) (hi : mI σ n) (hc : c < n) (hk : k < 11) : cI sO (d + 2) 274 [.ref 82, .int (nI c), .int (nI k)] σ = some (bi (mr σ c k = 0), σ) := by
  refine cI_ev mi_274 ((u_274_82 d σ _ _).trans ?_) rfl
  simp only [m_isKnown _ σ (show c < 12 by omega) hk, m_mark _ σ (show c < 12 by omega) hk, Option.bind_some, bi_0]
  cases h : bt (ms σ c) k
  · rw [if_neg (fun q => q rfl), mr_f h]
    unfold bi
    split <;> rfl
  · rw [if_pos (by decide), mr_t h, bi_f (by decide)]
theorem m_isEarlier (d : Nat) {σ : ax_S} {n a b : Nat} (hn : n ≤ 12) (ha : a < n) (hb : b < n) : cI sO (d + 1) 253 [.ref 82, .int (nI a), .int (nI b)] σ = some (bi (erP (my σ) a b), σ) := by
  refine cI_ev mi_253 ((u_253_82 d σ _ _).trans ?_) rfl
  simp only [m_of2 _ σ (show a < 12 by omega), m_of2 _ σ (show b < 12 by omega), Option.bind_some]
  by_cases h1 : my σ a < my σ b
  · rw [if_pos h1, bi_t (Or.inl h1)]
  · rw [if_neg h1]
    by_cases h2 : my σ a = my σ b
    · rw [if_pos h2]
      by_cases h3 : a < b
      · rw [if_pos (nlt h3), bi_t (Or.inr ⟨h2, h3⟩)]
      · rw [if_neg (nnl (by omega)), bi_f (fun q => q.elim (fun z => h1 z) (fun z => h3 z.2))]
    · rw [if_neg h2, bi_f (fun q => q.elim (fun z => h1 z) (fun z => h2 z.1))]
