/-! THE LAW: its loop -/
theorem lw_case {xs : Nat → Int32} {L i : Nat} {σ : ax_S} (hL : L ≤ 3584) (hi : i + 7 ≤ L) (r : RA σ) (f : FI σ) (x : Int32) : ∃ ρ : ax_S, ev (ax_lO xs L) 60 293 33 (lwL i) [.int x] (ax_mk σ) = ev (ax_lO xs L) 60 293 1455 (lwL i) [] (ax_mk ρ) ∧ RA ρ ∧ FI ρ := by
  rw [E_sw (q := 1455) c_293_33 [(0, 192), (1, 236), (2, 280), (3, 344), (4, 368), (5, 432), (6, 446), (7, 460), (8, 473), (9, 537), (10, 613), (11, 647), (12, 681), (13, 715), (14, 759), (15, 793), (16, 827), (17, 871), (18, 895), (19, 919), (20, 953), (21, 987), (22, 1021), (23, 1065), (24, 1099), (25, 1133), (26, 1177), (27, 1231), (28, 1255), (29, 1279), (30, 1303), (31, 1327), (32, 1361), (33, 1395), (34, 1418), (35, 1442)] rfl (by decide +kernel) (by decide) (by decide)]
  rw [ev_sw1]
  by_cases h0 : x = 0
  · rw [if_pos h0]
    exact lw_c0 hL hi r f
  rw [if_neg h0]
  rw [ev_sw1]
  by_cases h1 : x = 1
  · rw [if_pos h1]
    exact lw_c1 hL hi r f
  rw [if_neg h1]
  rw [ev_sw1]
  by_cases h2 : x = 2
  · rw [if_pos h2]
    exact lw_c2 hL hi r f
  rw [if_neg h2]
  rw [ev_sw1]
  by_cases h3 : x = 3
  · rw [if_pos h3]
    exact lw_c3 hL hi r f
  rw [if_neg h3]
  rw [ev_sw1]
  by_cases h4 : x = 4
  · rw [if_pos h4]
    exact lw_c4 hL hi r f
  rw [if_neg h4]
  rw [ev_sw1]
  by_cases h5 : x = 5
  · rw [if_pos h5]
    exact lw_c5 hL hi r f
  rw [if_neg h5]
  rw [ev_sw1]
  by_cases h6 : x = 6
  · rw [if_pos h6]
    exact lw_c6 hL hi r f
  rw [if_neg h6]
  rw [ev_sw1]
  by_cases h7 : x = 7
  · rw [if_pos h7]
    exact lw_c7 hL hi r f
  rw [if_neg h7]
  rw [ev_sw1]
  by_cases h8 : x = 8
  · rw [if_pos h8]
    exact lw_c8 hL hi r f
  rw [if_neg h8]
  rw [ev_sw1]
  by_cases h9 : x = 9
  · rw [if_pos h9]
    exact lw_c9 hL hi r f
  rw [if_neg h9]
  rw [ev_sw1]
  by_cases h10 : x = 10
  · rw [if_pos h10]
    exact lw_c10 hL hi r f
  rw [if_neg h10]
  rw [ev_sw1]
  by_cases h11 : x = 11
  · rw [if_pos h11]
    exact lw_c11 hL hi r f
  rw [if_neg h11]
  rw [ev_sw1]
  by_cases h12 : x = 12
  · rw [if_pos h12]
    exact lw_c12 hL hi r f
  rw [if_neg h12]
  rw [ev_sw1]
  by_cases h13 : x = 13
  · rw [if_pos h13]
    exact lw_c13 hL hi r f
  rw [if_neg h13]
  rw [ev_sw1]
  by_cases h14 : x = 14
  · rw [if_pos h14]
    exact lw_c14 hL hi r f
  rw [if_neg h14]
  rw [ev_sw1]
  by_cases h15 : x = 15
  · rw [if_pos h15]
    exact lw_c15 hL hi r f
  rw [if_neg h15]
  rw [ev_sw1]
  by_cases h16 : x = 16
  · rw [if_pos h16]
    exact lw_c16 hL hi r f
  rw [if_neg h16]
  rw [ev_sw1]
  by_cases h17 : x = 17
  · rw [if_pos h17]
    exact lw_c17 hL hi r f
  rw [if_neg h17]
  rw [ev_sw1]
  by_cases h18 : x = 18
  · rw [if_pos h18]
    exact lw_c18 hL hi r f
  rw [if_neg h18]
  rw [ev_sw1]
  by_cases h19 : x = 19
  · rw [if_pos h19]
    exact lw_c19 hL hi r f
  rw [if_neg h19]
  rw [ev_sw1]
  by_cases h20 : x = 20
  · rw [if_pos h20]
    exact lw_c20 hL hi r f
  rw [if_neg h20]
  rw [ev_sw1]
  by_cases h21 : x = 21
  · rw [if_pos h21]
    exact lw_c21 hL hi r f
  rw [if_neg h21]
  rw [ev_sw1]
  by_cases h22 : x = 22
  · rw [if_pos h22]
    exact lw_c22 hL hi r f
  rw [if_neg h22]
  rw [ev_sw1]
  by_cases h23 : x = 23
  · rw [if_pos h23]
    exact lw_c23 hL hi r f
  rw [if_neg h23]
  rw [ev_sw1]
  by_cases h24 : x = 24
  · rw [if_pos h24]
    exact lw_c24 hL hi r f
  rw [if_neg h24]
  rw [ev_sw1]
  by_cases h25 : x = 25
  · rw [if_pos h25]
    exact lw_c25 hL hi r f
  rw [if_neg h25]
  rw [ev_sw1]
  by_cases h26 : x = 26
  · rw [if_pos h26]
    exact lw_c26 hL hi r f
  rw [if_neg h26]
  rw [ev_sw1]
  by_cases h27 : x = 27
  · rw [if_pos h27]
    exact lw_c27 hL hi r f
  rw [if_neg h27]
  rw [ev_sw1]
  by_cases h28 : x = 28
  · rw [if_pos h28]
    exact lw_c28 hL hi r f
  rw [if_neg h28]
  rw [ev_sw1]
  by_cases h29 : x = 29
  · rw [if_pos h29]
    exact lw_c29 hL hi r f
  rw [if_neg h29]
  rw [ev_sw1]
  by_cases h30 : x = 30
  · rw [if_pos h30]
    exact lw_c30 hL hi r f
  rw [if_neg h30]
  rw [ev_sw1]
  by_cases h31 : x = 31
  · rw [if_pos h31]
    exact lw_c31 hL hi r f
  rw [if_neg h31]
  rw [ev_sw1]
  by_cases h32 : x = 32
  · rw [if_pos h32]
    exact lw_c32 hL hi r f
  rw [if_neg h32]
  rw [ev_sw1]
  by_cases h33 : x = 33
  · rw [if_pos h33]
    exact lw_c33 hL hi r f
  rw [if_neg h33]
  rw [ev_sw1]
  by_cases h34 : x = 34
  · rw [if_pos h34]
    exact lw_c34 hL hi r f
  rw [if_neg h34]
  rw [ev_sw1]
  by_cases h35 : x = 35
  · rw [if_pos h35]
    exact lw_c35 hL hi r f
  rw [if_neg h35]
  exact ⟨σ, ev_sw0, r, f⟩
