/-! THE CHECKS HOLD: text by wip/whole/gen/simk.py -/
set_option maxRecDepth 100000 in
theorem dq_d0 : (List.range 23).all (fun k => dq_m3 (0 + k)) = true := by decide +kernel
set_option maxRecDepth 100000 in
theorem dq_e0 : (List.range 23).all (fun k => dq_m2 (0 + k)) = true := by decide +kernel
set_option maxRecDepth 100000 in
theorem dq_d1 : (List.range 14).all (fun k => dq_m3 (23 + k)) = true := by decide +kernel
set_option maxRecDepth 100000 in
theorem dq_e1 : (List.range 14).all (fun k => dq_m2 (23 + k)) = true := by decide +kernel
set_option maxRecDepth 100000 in
theorem dq_d2 : (List.range 18).all (fun k => dq_m3 (37 + k)) = true := by decide +kernel
set_option maxRecDepth 100000 in
theorem dq_e2 : (List.range 18).all (fun k => dq_m2 (37 + k)) = true := by decide +kernel
set_option maxRecDepth 100000 in
theorem dq_d3 : (List.range 19).all (fun k => dq_m3 (55 + k)) = true := by decide +kernel
set_option maxRecDepth 100000 in
theorem dq_e3 : (List.range 19).all (fun k => dq_m2 (55 + k)) = true := by decide +kernel
set_option maxRecDepth 100000 in
theorem dq_d4 : (List.range 22).all (fun k => dq_m3 (74 + k)) = true := by decide +kernel
set_option maxRecDepth 100000 in
theorem dq_e4 : (List.range 22).all (fun k => dq_m2 (74 + k)) = true := by decide +kernel
set_option maxRecDepth 100000 in
theorem dq_d5 : (List.range 18).all (fun k => dq_m3 (96 + k)) = true := by decide +kernel
set_option maxRecDepth 100000 in
theorem dq_e5 : (List.range 18).all (fun k => dq_m2 (96 + k)) = true := by decide +kernel
set_option maxRecDepth 100000 in
theorem dq_d6 : (List.range 18).all (fun k => dq_m3 (114 + k)) = true := by decide +kernel
set_option maxRecDepth 100000 in
theorem dq_e6 : (List.range 18).all (fun k => dq_m2 (114 + k)) = true := by decide +kernel
set_option maxRecDepth 100000 in
theorem dq_d7 : (List.range 22).all (fun k => dq_m3 (132 + k)) = true := by decide +kernel
set_option maxRecDepth 100000 in
theorem dq_e7 : (List.range 22).all (fun k => dq_m2 (132 + k)) = true := by decide +kernel
set_option maxRecDepth 100000 in
theorem dq_d8 : (List.range 20).all (fun k => dq_m3 (154 + k)) = true := by decide +kernel
set_option maxRecDepth 100000 in
theorem dq_e8 : (List.range 20).all (fun k => dq_m2 (154 + k)) = true := by decide +kernel
set_option maxRecDepth 100000 in
theorem dq_d9 : (List.range 13).all (fun k => dq_m3 (174 + k)) = true := by decide +kernel
set_option maxRecDepth 100000 in
theorem dq_e9 : (List.range 13).all (fun k => dq_m2 (174 + k)) = true := by decide +kernel
set_option maxRecDepth 100000 in
theorem dq_d10 : (List.range 17).all (fun k => dq_m3 (187 + k)) = true := by decide +kernel
set_option maxRecDepth 100000 in
theorem dq_e10 : (List.range 17).all (fun k => dq_m2 (187 + k)) = true := by decide +kernel
set_option maxRecDepth 100000 in
theorem dq_d11 : (List.range 16).all (fun k => dq_m3 (204 + k)) = true := by decide +kernel
set_option maxRecDepth 100000 in
theorem dq_e11 : (List.range 16).all (fun k => dq_m2 (204 + k)) = true := by decide +kernel
set_option maxRecDepth 100000 in
theorem dq_d12 : (List.range 15).all (fun k => dq_m3 (220 + k)) = true := by decide +kernel
set_option maxRecDepth 100000 in
theorem dq_e12 : (List.range 15).all (fun k => dq_m2 (220 + k)) = true := by decide +kernel
set_option maxRecDepth 100000 in
theorem dq_d13 : (List.range 9).all (fun k => dq_m3 (235 + k)) = true := by decide +kernel
set_option maxRecDepth 100000 in
theorem dq_e13 : (List.range 9).all (fun k => dq_m2 (235 + k)) = true := by decide +kernel
set_option maxRecDepth 100000 in
theorem dq_d14 : (List.range 16).all (fun k => dq_m3 (244 + k)) = true := by decide +kernel
set_option maxRecDepth 100000 in
theorem dq_e14 : (List.range 16).all (fun k => dq_m2 (244 + k)) = true := by decide +kernel
set_option maxRecDepth 100000 in
theorem dq_d15 : (List.range 14).all (fun k => dq_m3 (260 + k)) = true := by decide +kernel
set_option maxRecDepth 100000 in
theorem dq_e15 : (List.range 14).all (fun k => dq_m2 (260 + k)) = true := by decide +kernel
set_option maxRecDepth 100000 in
theorem dq_d16 : (List.range 1).all (fun k => dq_m3 (274 + k)) = true := by decide +kernel
set_option maxRecDepth 100000 in
theorem dq_e16 : (List.range 1).all (fun k => dq_m2 (274 + k)) = true := by decide +kernel
set_option maxRecDepth 100000 in
theorem dq_dlaw : dq_m1 275 code.data.toList = true := by decide +kernel
set_option maxRecDepth 100000 in
theorem dq_elaw : dq_m2 275 = true := by decide +kernel
theorem dq_in {f : Nat → Bool} {a n y : Nat} (h : (List.range n).all (fun k => f (a + k)) = true) (h1 : a ≤ y) (h2 : y < a + n) : f y = true := by
  have := List.all_eq_true.mp h (y - a) (List.mem_range.mpr (by omega))
  rwa [show a + (y - a) = y by omega] at this
theorem dq_dok {y : Nat} (hy : y < dm_law) : dq_m3 y = true := by
  have hy : y < 275 := hy
  rcases Nat.lt_or_ge y 23 with h0 | h0
  · exact dq_in dq_d0 (by omega) (by omega)
  rcases Nat.lt_or_ge y 37 with h1 | h1
  · exact dq_in dq_d1 (by omega) (by omega)
  rcases Nat.lt_or_ge y 55 with h2 | h2
  · exact dq_in dq_d2 (by omega) (by omega)
  rcases Nat.lt_or_ge y 74 with h3 | h3
  · exact dq_in dq_d3 (by omega) (by omega)
  rcases Nat.lt_or_ge y 96 with h4 | h4
  · exact dq_in dq_d4 (by omega) (by omega)
  rcases Nat.lt_or_ge y 114 with h5 | h5
  · exact dq_in dq_d5 (by omega) (by omega)
  rcases Nat.lt_or_ge y 132 with h6 | h6
  · exact dq_in dq_d6 (by omega) (by omega)
  rcases Nat.lt_or_ge y 154 with h7 | h7
  · exact dq_in dq_d7 (by omega) (by omega)
  rcases Nat.lt_or_ge y 174 with h8 | h8
  · exact dq_in dq_d8 (by omega) (by omega)
  rcases Nat.lt_or_ge y 187 with h9 | h9
  · exact dq_in dq_d9 (by omega) (by omega)
  rcases Nat.lt_or_ge y 204 with h10 | h10
  · exact dq_in dq_d10 (by omega) (by omega)
  rcases Nat.lt_or_ge y 220 with h11 | h11
  · exact dq_in dq_d11 (by omega) (by omega)
  rcases Nat.lt_or_ge y 235 with h12 | h12
  · exact dq_in dq_d12 (by omega) (by omega)
  rcases Nat.lt_or_ge y 244 with h13 | h13
  · exact dq_in dq_d13 (by omega) (by omega)
  rcases Nat.lt_or_ge y 260 with h14 | h14
  · exact dq_in dq_d14 (by omega) (by omega)
  rcases Nat.lt_or_ge y 274 with h15 | h15
  · exact dq_in dq_d15 (by omega) (by omega)
  exact dq_in dq_d16 (by omega) (by omega)
theorem dq_eok {y : Nat} (hy : y < dm_law) : dq_m2 y = true := by
  have hy : y < 275 := hy
  rcases Nat.lt_or_ge y 23 with h0 | h0
  · exact dq_in dq_e0 (by omega) (by omega)
  rcases Nat.lt_or_ge y 37 with h1 | h1
  · exact dq_in dq_e1 (by omega) (by omega)
  rcases Nat.lt_or_ge y 55 with h2 | h2
  · exact dq_in dq_e2 (by omega) (by omega)
  rcases Nat.lt_or_ge y 74 with h3 | h3
  · exact dq_in dq_e3 (by omega) (by omega)
  rcases Nat.lt_or_ge y 96 with h4 | h4
  · exact dq_in dq_e4 (by omega) (by omega)
  rcases Nat.lt_or_ge y 114 with h5 | h5
  · exact dq_in dq_e5 (by omega) (by omega)
  rcases Nat.lt_or_ge y 132 with h6 | h6
  · exact dq_in dq_e6 (by omega) (by omega)
  rcases Nat.lt_or_ge y 154 with h7 | h7
  · exact dq_in dq_e7 (by omega) (by omega)
  rcases Nat.lt_or_ge y 174 with h8 | h8
  · exact dq_in dq_e8 (by omega) (by omega)
  rcases Nat.lt_or_ge y 187 with h9 | h9
  · exact dq_in dq_e9 (by omega) (by omega)
  rcases Nat.lt_or_ge y 204 with h10 | h10
  · exact dq_in dq_e10 (by omega) (by omega)
  rcases Nat.lt_or_ge y 220 with h11 | h11
  · exact dq_in dq_e11 (by omega) (by omega)
  rcases Nat.lt_or_ge y 235 with h12 | h12
  · exact dq_in dq_e12 (by omega) (by omega)
  rcases Nat.lt_or_ge y 244 with h13 | h13
  · exact dq_in dq_e13 (by omega) (by omega)
  rcases Nat.lt_or_ge y 260 with h14 | h14
  · exact dq_in dq_e14 (by omega) (by omega)
  rcases Nat.lt_or_ge y 274 with h15 | h15
  · exact dq_in dq_e15 (by omega) (by omega)
  exact dq_in dq_e16 (by omega) (by omega)
