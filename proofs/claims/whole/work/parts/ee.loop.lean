/-! THE LAW'S LOOP: text by wip/whole/gen/lawloop.py -/
section LWL
variable {h : dm_H} {π : Int → Int} {pL : Nat} {x4 : Int} {xs : Nat → Int}
theorem tb_0 (f : Nat → dm_O) : dm_tab 40 2138 0 29 #[136, 204, 322, 414, 470, 483, 496, 580, 700, 780, 872, 916, 952, 965, 1021, 1077, 1145, 1244, 1343, 1435, 1527, 1540, 1553, 1645, 1737, 1829, 1921, 2013, 2069, 2082] 0 f = f 176 := rfl
theorem tb_1 (f : Nat → dm_O) : dm_tab 40 2138 0 29 #[136, 204, 322, 414, 470, 483, 496, 580, 700, 780, 872, 916, 952, 965, 1021, 1077, 1145, 1244, 1343, 1435, 1527, 1540, 1553, 1645, 1737, 1829, 1921, 2013, 2069, 2082] 1 f = f 244 := rfl
theorem tb_2 (f : Nat → dm_O) : dm_tab 40 2138 0 29 #[136, 204, 322, 414, 470, 483, 496, 580, 700, 780, 872, 916, 952, 965, 1021, 1077, 1145, 1244, 1343, 1435, 1527, 1540, 1553, 1645, 1737, 1829, 1921, 2013, 2069, 2082] 2 f = f 362 := rfl
theorem tb_3 (f : Nat → dm_O) : dm_tab 40 2138 0 29 #[136, 204, 322, 414, 470, 483, 496, 580, 700, 780, 872, 916, 952, 965, 1021, 1077, 1145, 1244, 1343, 1435, 1527, 1540, 1553, 1645, 1737, 1829, 1921, 2013, 2069, 2082] 3 f = f 454 := rfl
theorem tb_4 (f : Nat → dm_O) : dm_tab 40 2138 0 29 #[136, 204, 322, 414, 470, 483, 496, 580, 700, 780, 872, 916, 952, 965, 1021, 1077, 1145, 1244, 1343, 1435, 1527, 1540, 1553, 1645, 1737, 1829, 1921, 2013, 2069, 2082] 4 f = f 510 := rfl
theorem tb_5 (f : Nat → dm_O) : dm_tab 40 2138 0 29 #[136, 204, 322, 414, 470, 483, 496, 580, 700, 780, 872, 916, 952, 965, 1021, 1077, 1145, 1244, 1343, 1435, 1527, 1540, 1553, 1645, 1737, 1829, 1921, 2013, 2069, 2082] 5 f = f 523 := rfl
theorem tb_6 (f : Nat → dm_O) : dm_tab 40 2138 0 29 #[136, 204, 322, 414, 470, 483, 496, 580, 700, 780, 872, 916, 952, 965, 1021, 1077, 1145, 1244, 1343, 1435, 1527, 1540, 1553, 1645, 1737, 1829, 1921, 2013, 2069, 2082] 6 f = f 536 := rfl
theorem tb_7 (f : Nat → dm_O) : dm_tab 40 2138 0 29 #[136, 204, 322, 414, 470, 483, 496, 580, 700, 780, 872, 916, 952, 965, 1021, 1077, 1145, 1244, 1343, 1435, 1527, 1540, 1553, 1645, 1737, 1829, 1921, 2013, 2069, 2082] 7 f = f 620 := rfl
theorem tb_8 (f : Nat → dm_O) : dm_tab 40 2138 0 29 #[136, 204, 322, 414, 470, 483, 496, 580, 700, 780, 872, 916, 952, 965, 1021, 1077, 1145, 1244, 1343, 1435, 1527, 1540, 1553, 1645, 1737, 1829, 1921, 2013, 2069, 2082] 8 f = f 740 := rfl
theorem tb_9 (f : Nat → dm_O) : dm_tab 40 2138 0 29 #[136, 204, 322, 414, 470, 483, 496, 580, 700, 780, 872, 916, 952, 965, 1021, 1077, 1145, 1244, 1343, 1435, 1527, 1540, 1553, 1645, 1737, 1829, 1921, 2013, 2069, 2082] 9 f = f 820 := rfl
theorem tb_10 (f : Nat → dm_O) : dm_tab 40 2138 0 29 #[136, 204, 322, 414, 470, 483, 496, 580, 700, 780, 872, 916, 952, 965, 1021, 1077, 1145, 1244, 1343, 1435, 1527, 1540, 1553, 1645, 1737, 1829, 1921, 2013, 2069, 2082] 10 f = f 912 := rfl
theorem tb_11 (f : Nat → dm_O) : dm_tab 40 2138 0 29 #[136, 204, 322, 414, 470, 483, 496, 580, 700, 780, 872, 916, 952, 965, 1021, 1077, 1145, 1244, 1343, 1435, 1527, 1540, 1553, 1645, 1737, 1829, 1921, 2013, 2069, 2082] 11 f = f 956 := rfl
theorem tb_12 (f : Nat → dm_O) : dm_tab 40 2138 0 29 #[136, 204, 322, 414, 470, 483, 496, 580, 700, 780, 872, 916, 952, 965, 1021, 1077, 1145, 1244, 1343, 1435, 1527, 1540, 1553, 1645, 1737, 1829, 1921, 2013, 2069, 2082] 12 f = f 992 := rfl
theorem tb_13 (f : Nat → dm_O) : dm_tab 40 2138 0 29 #[136, 204, 322, 414, 470, 483, 496, 580, 700, 780, 872, 916, 952, 965, 1021, 1077, 1145, 1244, 1343, 1435, 1527, 1540, 1553, 1645, 1737, 1829, 1921, 2013, 2069, 2082] 13 f = f 1005 := rfl
theorem tb_14 (f : Nat → dm_O) : dm_tab 40 2138 0 29 #[136, 204, 322, 414, 470, 483, 496, 580, 700, 780, 872, 916, 952, 965, 1021, 1077, 1145, 1244, 1343, 1435, 1527, 1540, 1553, 1645, 1737, 1829, 1921, 2013, 2069, 2082] 14 f = f 1061 := rfl
theorem tb_15 (f : Nat → dm_O) : dm_tab 40 2138 0 29 #[136, 204, 322, 414, 470, 483, 496, 580, 700, 780, 872, 916, 952, 965, 1021, 1077, 1145, 1244, 1343, 1435, 1527, 1540, 1553, 1645, 1737, 1829, 1921, 2013, 2069, 2082] 15 f = f 1117 := rfl
theorem tb_16 (f : Nat → dm_O) : dm_tab 40 2138 0 29 #[136, 204, 322, 414, 470, 483, 496, 580, 700, 780, 872, 916, 952, 965, 1021, 1077, 1145, 1244, 1343, 1435, 1527, 1540, 1553, 1645, 1737, 1829, 1921, 2013, 2069, 2082] 16 f = f 1185 := rfl
theorem tb_17 (f : Nat → dm_O) : dm_tab 40 2138 0 29 #[136, 204, 322, 414, 470, 483, 496, 580, 700, 780, 872, 916, 952, 965, 1021, 1077, 1145, 1244, 1343, 1435, 1527, 1540, 1553, 1645, 1737, 1829, 1921, 2013, 2069, 2082] 17 f = f 1284 := rfl
theorem tb_18 (f : Nat → dm_O) : dm_tab 40 2138 0 29 #[136, 204, 322, 414, 470, 483, 496, 580, 700, 780, 872, 916, 952, 965, 1021, 1077, 1145, 1244, 1343, 1435, 1527, 1540, 1553, 1645, 1737, 1829, 1921, 2013, 2069, 2082] 18 f = f 1383 := rfl
theorem tb_19 (f : Nat → dm_O) : dm_tab 40 2138 0 29 #[136, 204, 322, 414, 470, 483, 496, 580, 700, 780, 872, 916, 952, 965, 1021, 1077, 1145, 1244, 1343, 1435, 1527, 1540, 1553, 1645, 1737, 1829, 1921, 2013, 2069, 2082] 19 f = f 1475 := rfl
theorem tb_20 (f : Nat → dm_O) : dm_tab 40 2138 0 29 #[136, 204, 322, 414, 470, 483, 496, 580, 700, 780, 872, 916, 952, 965, 1021, 1077, 1145, 1244, 1343, 1435, 1527, 1540, 1553, 1645, 1737, 1829, 1921, 2013, 2069, 2082] 20 f = f 1567 := rfl
theorem tb_21 (f : Nat → dm_O) : dm_tab 40 2138 0 29 #[136, 204, 322, 414, 470, 483, 496, 580, 700, 780, 872, 916, 952, 965, 1021, 1077, 1145, 1244, 1343, 1435, 1527, 1540, 1553, 1645, 1737, 1829, 1921, 2013, 2069, 2082] 21 f = f 1580 := rfl
theorem tb_22 (f : Nat → dm_O) : dm_tab 40 2138 0 29 #[136, 204, 322, 414, 470, 483, 496, 580, 700, 780, 872, 916, 952, 965, 1021, 1077, 1145, 1244, 1343, 1435, 1527, 1540, 1553, 1645, 1737, 1829, 1921, 2013, 2069, 2082] 22 f = f 1593 := rfl
theorem tb_23 (f : Nat → dm_O) : dm_tab 40 2138 0 29 #[136, 204, 322, 414, 470, 483, 496, 580, 700, 780, 872, 916, 952, 965, 1021, 1077, 1145, 1244, 1343, 1435, 1527, 1540, 1553, 1645, 1737, 1829, 1921, 2013, 2069, 2082] 23 f = f 1685 := rfl
theorem tb_24 (f : Nat → dm_O) : dm_tab 40 2138 0 29 #[136, 204, 322, 414, 470, 483, 496, 580, 700, 780, 872, 916, 952, 965, 1021, 1077, 1145, 1244, 1343, 1435, 1527, 1540, 1553, 1645, 1737, 1829, 1921, 2013, 2069, 2082] 24 f = f 1777 := rfl
theorem tb_25 (f : Nat → dm_O) : dm_tab 40 2138 0 29 #[136, 204, 322, 414, 470, 483, 496, 580, 700, 780, 872, 916, 952, 965, 1021, 1077, 1145, 1244, 1343, 1435, 1527, 1540, 1553, 1645, 1737, 1829, 1921, 2013, 2069, 2082] 25 f = f 1869 := rfl
theorem tb_26 (f : Nat → dm_O) : dm_tab 40 2138 0 29 #[136, 204, 322, 414, 470, 483, 496, 580, 700, 780, 872, 916, 952, 965, 1021, 1077, 1145, 1244, 1343, 1435, 1527, 1540, 1553, 1645, 1737, 1829, 1921, 2013, 2069, 2082] 26 f = f 1961 := rfl
theorem tb_27 (f : Nat → dm_O) : dm_tab 40 2138 0 29 #[136, 204, 322, 414, 470, 483, 496, 580, 700, 780, 872, 916, 952, 965, 1021, 1077, 1145, 1244, 1343, 1435, 1527, 1540, 1553, 1645, 1737, 1829, 1921, 2013, 2069, 2082] 27 f = f 2053 := rfl
theorem tb_28 (f : Nat → dm_O) : dm_tab 40 2138 0 29 #[136, 204, 322, 414, 470, 483, 496, 580, 700, 780, 872, 916, 952, 965, 1021, 1077, 1145, 1244, 1343, 1435, 1527, 1540, 1553, 1645, 1737, 1829, 1921, 2013, 2069, 2082] 28 f = f 2109 := rfl
theorem tb_29 (f : Nat → dm_O) : dm_tab 40 2138 0 29 #[136, 204, 322, 414, 470, 483, 496, 580, 700, 780, 872, 916, 952, 965, 1021, 1077, 1145, 1244, 1343, 1435, 1527, 1540, 1553, 1645, 1737, 1829, 1921, 2013, 2069, 2082] 29 f = f 2122 := rfl
theorem tb_x {x : Int} (hx : x < 0 ∨ 29 < x) (f : Nat → dm_O) : dm_tab 40 2138 0 29 #[136, 204, 322, 414, 470, 483, 496, 580, 700, 780, 872, 916, 952, 965, 1021, 1077, 1145, 1244, 1343, 1435, 1527, 1540, 1553, 1645, 1737, 1829, 1921, 2013, 2069, 2082] x f = f 2178 := by
  unfold dm_tab
  rw [if_neg (by omega)]
  rfl
theorem rm_refl (h : dm_H) : rm h h := rm_3 rfl (by omega)
/-- one call, whichever -/
theorem lw_any {d : Nat} (hd : 18 ≤ d) (SC : scP xs pL d) (sx : ∀ j : Nat, j < pL → gi h 1000 j = xs j) (ok : dm_ok true h) (hx : 0 ≤ x4 ∧ x4 + 7 ≤ pL) (hp : pL ≤ 3584) (J : LWI π h) (hT : gi h 1 12 ≤ 2000000000) (hN : gi h 13 3 ≤ 2000000000) (x : Int) (w5 w6 : Option dm_V) : ∃ π' h2 y5 y6, dm_tab 40 2138 0 29 #[136, 204, 322, 414, 470, 483, 496, 580, 700, 780, 872, 916, 952, 965, 1021, 1077, 1145, 1244, 1343, 1435, 1527, 1540, 1553, 1645, 1737, 1829, 1921, 2013, 2069, 2082] x (fun q => dL d 275 q [lR 8 pL 1000, lR 1 10 1, lR 1 11 165, lR 4 1 196, lI x4, w5, w6] [] h) = dL d 275 2178 [lR 8 pL 1000, lR 1 10 1, lR 1 11 165, lR 4 1 196, lI x4, y5, y6] [] h2 ∧ LWI π' h2 ∧ dm_ok true h2 ∧ (∀ j : Int, 0 ≤ j → j < pL → gi h2 1000 j = gi h 1000 j) ∧ rm h h2 := by
  by_cases z : x < 0 ∨ 29 < x
  · exact ⟨π, h, w5, w6, tb_x z _, J, ok, fun _ _ _ => rfl, rm_refl h⟩
  have z2 : x = 0 ∨ x = 1 ∨ x = 2 ∨ x = 3 ∨ x = 4 ∨ x = 5 ∨ x = 6 ∨ x = 7 ∨ x = 8 ∨ x = 9 ∨ x = 10 ∨ x = 11 ∨ x = 12 ∨ x = 13 ∨ x = 14 ∨ x = 15 ∨ x = 16 ∨ x = 17 ∨ x = 18 ∨ x = 19 ∨ x = 20 ∨ x = 21 ∨ x = 22 ∨ x = 23 ∨ x = 24 ∨ x = 25 ∨ x = 26 ∨ x = 27 ∨ x = 28 ∨ x = 29 := by omega
  rcases z2 with rfl | rfl | rfl | rfl | rfl | rfl | rfl | rfl | rfl | rfl | rfl | rfl | rfl | rfl | rfl | rfl | rfl | rfl | rfl | rfl | rfl | rfl | rfl | rfl | rfl | rfl | rfl | rfl | rfl | rfl
  · obtain ⟨p, h2, y5, y6, a1, a2, a3, a4, a5⟩ := lw_0 hd SC sx ok hx hp J w5 w6
    exact ⟨p, h2, y5, y6, (tb_0 _).trans a1, a2, a3, a4, a5⟩
  · obtain ⟨p, h2, y5, y6, a1, a2, a3, a4, a5⟩ := lw_1 hd SC sx ok hx hp J w5 w6
    exact ⟨p, h2, y5, y6, (tb_1 _).trans a1, a2, a3, a4, a5⟩
  · obtain ⟨p, h2, y5, y6, a1, a2, a3, a4, a5⟩ := lw_2 hd SC sx ok hx hp J w5 w6
    exact ⟨p, h2, y5, y6, (tb_2 _).trans a1, a2, a3, a4, a5⟩
  · obtain ⟨p, h2, y5, y6, a1, a2, a3, a4, a5, -⟩ := lw_3 hd SC sx ok hx hp J hT w5 w6
    exact ⟨p, h2, y5, y6, (tb_3 _).trans a1, a2, a3, a4, a5⟩
  · obtain ⟨p, h2, y5, y6, a1, a2, a3, a4, a5⟩ := lw_4 hd SC sx ok hx hp J w5 w6
    exact ⟨p, h2, y5, y6, (tb_4 _).trans a1, a2, a3, a4, a5⟩
  · obtain ⟨p, h2, y5, y6, a1, a2, a3, a4, a5⟩ := lw_5 hd SC sx ok hx hp J w5 w6
    exact ⟨p, h2, y5, y6, (tb_5 _).trans a1, a2, a3, a4, a5⟩
  · obtain ⟨p, h2, y5, y6, a1, a2, a3, a4, a5⟩ := lw_6 hd SC sx ok hx hp J w5 w6
    exact ⟨p, h2, y5, y6, (tb_6 _).trans a1, a2, a3, a4, a5⟩
  · obtain ⟨p, h2, y5, y6, a1, a2, a3, a4, a5⟩ := lw_7 hd SC sx ok hx hp J w5 w6
    exact ⟨p, h2, y5, y6, (tb_7 _).trans a1, a2, a3, a4, a5⟩
  · obtain ⟨p, h2, y5, y6, a1, a2, a3, a4, a5⟩ := lw_8 hd SC sx ok hx hp J w5 w6
    exact ⟨p, h2, y5, y6, (tb_8 _).trans a1, a2, a3, a4, a5⟩
  · obtain ⟨p, h2, y5, y6, a1, a2, a3, a4, a5⟩ := lw_9 hd SC sx ok hx hp J w5 w6
    exact ⟨p, h2, y5, y6, (tb_9 _).trans a1, a2, a3, a4, a5⟩
  · obtain ⟨p, h2, y5, y6, a1, a2, a3, a4, a5, -⟩ := lw_10 hd SC sx ok hx hp J hN w5 w6
    exact ⟨p, h2, y5, y6, (tb_10 _).trans a1, a2, a3, a4, a5⟩
  · obtain ⟨p, h2, y5, y6, a1, a2, a3, a4, a5⟩ := lw_11 hd SC sx ok hx hp J w5 w6
    exact ⟨p, h2, y5, y6, (tb_11 _).trans a1, a2, a3, a4, a5⟩
  · obtain ⟨p, h2, y5, y6, a1, a2, a3, a4, a5⟩ := lw_12 hd SC sx ok hx hp J w5 w6
    exact ⟨p, h2, y5, y6, (tb_12 _).trans a1, a2, a3, a4, a5⟩
  · obtain ⟨p, h2, y5, y6, a1, a2, a3, a4, a5⟩ := lw_13 hd SC sx ok hx hp J w5 w6
    exact ⟨p, h2, y5, y6, (tb_13 _).trans a1, a2, a3, a4, a5⟩
  · obtain ⟨p, h2, y5, y6, a1, a2, a3, a4, a5⟩ := lw_14 hd SC sx ok hx hp J w5 w6
    exact ⟨p, h2, y5, y6, (tb_14 _).trans a1, a2, a3, a4, a5⟩
  · obtain ⟨p, h2, y5, y6, a1, a2, a3, a4, a5⟩ := lw_15 hd SC sx ok hx hp J w5 w6
    exact ⟨p, h2, y5, y6, (tb_15 _).trans a1, a2, a3, a4, a5⟩
  · obtain ⟨p, h2, y5, y6, a1, a2, a3, a4, a5⟩ := lw_16 hd SC sx ok hx hp J w5 w6
    exact ⟨p, h2, y5, y6, (tb_16 _).trans a1, a2, a3, a4, a5⟩
  · obtain ⟨p, h2, y5, y6, a1, a2, a3, a4, a5⟩ := lw_17 hd SC sx ok hx hp J w5 w6
    exact ⟨p, h2, y5, y6, (tb_17 _).trans a1, a2, a3, a4, a5⟩
  · obtain ⟨p, h2, y5, y6, a1, a2, a3, a4, a5⟩ := lw_18 hd SC sx ok hx hp J w5 w6
    exact ⟨p, h2, y5, y6, (tb_18 _).trans a1, a2, a3, a4, a5⟩
  · obtain ⟨p, h2, y5, y6, a1, a2, a3, a4, a5⟩ := lw_19 hd SC sx ok hx hp J w5 w6
    exact ⟨p, h2, y5, y6, (tb_19 _).trans a1, a2, a3, a4, a5⟩
  · obtain ⟨p, h2, y5, y6, a1, a2, a3, a4, a5⟩ := lw_20 hd SC sx ok hx hp J w5 w6
    exact ⟨p, h2, y5, y6, (tb_20 _).trans a1, a2, a3, a4, a5⟩
  · obtain ⟨p, h2, y5, y6, a1, a2, a3, a4, a5⟩ := lw_21 hd SC sx ok hx hp J w5 w6
    exact ⟨p, h2, y5, y6, (tb_21 _).trans a1, a2, a3, a4, a5⟩
  · obtain ⟨p, h2, y5, y6, a1, a2, a3, a4, a5⟩ := lw_22 hd SC sx ok hx hp J w5 w6
    exact ⟨p, h2, y5, y6, (tb_22 _).trans a1, a2, a3, a4, a5⟩
  · obtain ⟨p, h2, y5, y6, a1, a2, a3, a4, a5⟩ := lw_23 hd SC sx ok hx hp J w5 w6
    exact ⟨p, h2, y5, y6, (tb_23 _).trans a1, a2, a3, a4, a5⟩
  · obtain ⟨p, h2, y5, y6, a1, a2, a3, a4, a5⟩ := lw_24 hd SC sx ok hx hp J w5 w6
    exact ⟨p, h2, y5, y6, (tb_24 _).trans a1, a2, a3, a4, a5⟩
  · obtain ⟨p, h2, y5, y6, a1, a2, a3, a4, a5⟩ := lw_25 hd SC sx ok hx hp J w5 w6
    exact ⟨p, h2, y5, y6, (tb_25 _).trans a1, a2, a3, a4, a5⟩
  · obtain ⟨p, h2, y5, y6, a1, a2, a3, a4, a5⟩ := lw_26 hd SC sx ok hx hp J w5 w6
    exact ⟨p, h2, y5, y6, (tb_26 _).trans a1, a2, a3, a4, a5⟩
  · obtain ⟨p, h2, y5, y6, a1, a2, a3, a4, a5⟩ := lw_27 hd SC sx ok hx hp J w5 w6
    exact ⟨p, h2, y5, y6, (tb_27 _).trans a1, a2, a3, a4, a5⟩
  · obtain ⟨p, h2, y5, y6, a1, a2, a3, a4, a5⟩ := lw_28 hd SC sx ok hx hp J w5 w6
    exact ⟨p, h2, y5, y6, (tb_28 _).trans a1, a2, a3, a4, a5⟩
  · obtain ⟨p, h2, y5, y6, a1, a2, a3, a4, a5⟩ := lw_29 hd SC sx ok hx hp J w5 w6
    exact ⟨p, h2, y5, y6, (tb_29 _).trans a1, a2, a3, a4, a5⟩
/-- the loop: every call answers alike -/
theorem lw_loop {d : Nat} (hd : 18 ≤ d) (SC : scP xs pL d) (hp : pL ≤ 3584) : ∀ (m : Nat) (x4 : Int) (h : dm_H) (π : Int → Int) (w5 w6 : Option dm_V), 0 ≤ x4 → (pL : Int) < x4 + 7 * (m + 1) → m ≤ 512 → LWI π h → dm_ok true h → (∀ j : Nat, j < pL → gi h 1000 j = xs j) → gi h 1 12 + 100 * m ≤ 100000 → gi h 13 3 + m ≤ 1000 → ∃ h', dL d 275 23 [lR 8 pL 1000, lR 1 10 1, lR 1 11 165, lR 4 1 196, lI x4, w5, w6] [] h = rI 1 h' ∧ gz h' = gz h ∧ gc h' ≤ gc h + m ∧ gs h' ≤ gs h + 6 * m := by
  intro m
  induction m with
  | zero =>
    intro x4 h π w5 w6 x0 xm m5 J ok sx hT hN
    refine ⟨h, ?_, rfl, by omega, by omega⟩
    rw [b275_23, ck_p (by omega) (by omega), if_pos (by omega)]
  | succ m ih =>
    intro x4 h π w5 w6 x0 xm m5 J ok sx hT hN
    by_cases z : (pL : Int) - 7 < x4
    · refine ⟨h, ?_, rfl, by omega, by omega⟩
      rw [b275_23, ck_p (by omega) (by omega), if_pos z]
    · obtain ⟨π', h2, y5, y6, a1, a2, a3, a4, a5⟩ := lw_any hd SC sx ok ⟨x0, by omega⟩ hp J (by omega) (by omega) (dm_and (gi h 1000 x4) 31) w5 w6
      have c := a5.2.2.2
      obtain ⟨h', b1, b2, b3, b4⟩ := ih (x4 + 7) h2 π' y5 y6 (by omega) (by omega) (by omega) a2 a3 (sx_t sx a4) (by omega) (by omega)
      obtain ⟨r1, r2, r3, -⟩ := a5
      refine ⟨h', ?_, b2.trans r1, by omega, by omega⟩
      rw [b275_23, ck_p (by omega) (by omega), if_neg z, ix_p x0 (by omega), a1, b275_2178, ck_p (by omega) (by omega), b1]
end LWL
