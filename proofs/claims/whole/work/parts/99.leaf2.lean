/-! LEAVES of the calls: what is asked, and what is thrown -/
/-- a caught exception -/
theorem bk_c {k : dm_K} {T : dm_T} {pc : Nat} {L L' : dm_L} {S : List dm_V} {E g j n : Nat} {h : dm_H} (hT : dm_find T pc E = some (g, j, n)) (hL : ∀ f, dm_put L j none f = f L') : dm_back k T pc L S (rX E h) = k (g + n) L' [] h := by
  show (match dm_find T pc E with
    | some (g, j, n) => dm_put L j none (fun L' => k (g + n) L' [] h)
    | none => some (.inr E, h)) = _
  rw [hT]
  exact hL _
theorem s73 {d : Nat} (hd : 2 ≤ d) (r : Int) (h : dm_H) : dF d 73 [dR 1 10 1, dI r] h = if 0 ≤ r ∧ r < gi h 2 0 then rV h else rX 0 (sg h 6) := by
  rw [f73 (by omega), b73_0, s74 (by omega), bk_v, b73_8]
  by_cases z : 0 ≤ r ∧ r < gi h 2 0
  · rw [bi_1 z, if_neg (by decide), if_pos z]
  · rw [bi_0 z, if_pos rfl, if_neg z]
theorem s168 {d : Nat} (hd : 1 ≤ d) (x lo hi : Int) (h : dm_H) : dF d 168 [dI x, dI lo, dI hi] h = rI (bi (lo ≤ x ∧ x ≤ hi)) h := by
  rw [f168 (by omega), b168_0]
  by_cases z : x < lo
  · rw [if_pos z, b168_14, b168_15, z1_p (Or.inl rfl), bi_0 (by omega)]
  rw [if_neg z]
  by_cases y : hi < x
  · rw [if_pos y, b168_14, b168_15, z1_p (Or.inl rfl), bi_0 (by omega)]
  · rw [if_neg y, b168_15, z1_p (Or.inr rfl), bi_1 (by omega)]
theorem s170 {d : Nat} (hd : 2 ≤ d) (r : Int) (h : dm_H) (h1 : 0 ≤ gi h 165 1 ∧ gi h 165 1 ≤ 6) : dF d 170 [dR 1 11 165, dI r] h = rI (bi (0 ≤ r ∧ r < gi h 165 1)) h := by
  rw [f170 (by omega), b170_0, ck_p (by omega) (by omega), s168 (by omega), bk_v, b170_11, z1_p (bi_01 _), bi_c (show 0 ≤ r ∧ r ≤ gi h 165 1 - 1 ↔ 0 ≤ r ∧ r < gi h 165 1 by omega)]
theorem s221 {d : Nat} (hd : 2 ≤ d) (x : Int) (h : dm_H) : dF d 221 [dI x] h = rI (bi (0 ≤ x ∧ x ≤ 107)) h := by
  rw [f221 (by omega), b221_0, s168 (by omega), bk_v, b221_7]
  by_cases z : 0 ≤ x ∧ x ≤ 99
  · rw [bi_1 z, if_neg (by decide), b221_21, b221_26, z1_p (Or.inr rfl), bi_1 (by omega)]
  rw [bi_0 z, if_pos rfl, s168 (by omega), bk_v, b221_18]
  by_cases y : 100 ≤ x ∧ x ≤ 107
  · rw [bi_1 y, if_neg (by decide), b221_21, b221_26, z1_p (Or.inr rfl), bi_1 (by omega)]
  · rw [bi_0 y, if_pos rfl, b221_26, z1_p (Or.inl rfl), bi_0 (by omega)]
theorem wit_99 {n lo hi a b c : Int} (h : wit n lo hi a b c) (hl : lo ≤ 0) (hh : 0 ≤ hi) : (lo ≤ a ∧ a ≤ hi) ∧ (lo ≤ b ∧ b ≤ hi) ∧ lo ≤ c ∧ c ≤ hi := by
  obtain ⟨h1, h2, h3⟩ := h
  omega
theorem s72 {d : Nat} (hd : 3 ≤ d) (r a b c : Int) (h : dm_H) (h2 : 0 ≤ gi h 2 0 ∧ gi h 2 0 ≤ 6) : (¬ (0 ≤ r ∧ r < gi h 2 0) ∧ dF d 72 [dR 1 10 1, dI r, dI a, dI b, dI c] h = rX 0 (sg h 6)) ∨ ((0 ≤ r ∧ r < gi h 2 0) ∧ ¬ wit (gi h 3 r) 0 99 a b c ∧ dF d 72 [dR 1 10 1, dI r, dI a, dI b, dI c] h = rX 1 (sg h 6)) ∨ ((0 ≤ r ∧ r < gi h 2 0) ∧ wit (gi h 3 r) 0 99 a b c ∧ dF d 72 [dR 1 10 1, dI r, dI a, dI b, dI c] h = rI (a * 10000 + b * 100 + c) h) := by
  rw [f72 (by omega), b72_0, s73 (by omega)]
  by_cases z : 0 ≤ r ∧ r < gi h 2 0
  · rw [if_pos z, bk_n, b72_5, ix_p (by omega) (by omega)]
    rw [s75 (by omega), bk_v, b72_24]
    by_cases hA : wit (gi h 3 r) 0 99 a b c
    case neg =>
      rw [bi_0 hA, if_pos rfl]
      exact Or.inr (Or.inl ⟨z, hA, rfl⟩)
    · have hB := wit_99 hA (by omega) (by omega)
      rw [bi_1 hA, if_neg (by decide), s77 (by omega) a b c h hB.1 hB.2.1 hB.2.2, bk_v, b72_45]
      exact Or.inr (Or.inr ⟨z, hA, rfl⟩)
  · rw [if_neg z]
    exact Or.inl ⟨z, bk_x rfl⟩
theorem s140 {d : Nat} (hd : 3 ≤ d) (r a b c : Int) (h : dm_H) (h2 : 0 ≤ gi h 2 0 ∧ gi h 2 0 ≤ 6) : (¬ (0 ≤ r ∧ r < gi h 2 0) ∧ dF d 140 [dR 1 10 1, dI r, dI a, dI b, dI c] h = rX 0 (sg h 6)) ∨ ((0 ≤ r ∧ r < gi h 2 0) ∧ ¬ wit (gi h 3 r) (-1) 99 a b c ∧ dF d 140 [dR 1 10 1, dI r, dI a, dI b, dI c] h = rX 1 (sg h 6)) ∨ ((0 ≤ r ∧ r < gi h 2 0) ∧ wit (gi h 3 r) (-1) 99 a b c ∧ dF d 140 [dR 1 10 1, dI r, dI a, dI b, dI c] h = rV h) := by
  rw [f140 (by omega), b140_0, s73 (by omega)]
  by_cases z : 0 ≤ r ∧ r < gi h 2 0
  · rw [if_pos z, bk_n, b140_5, ix_p (by omega) (by omega)]
    rw [s75 (by omega), bk_v, b140_24]
    by_cases hA : wit (gi h 3 r) (-1) 99 a b c
    · rw [bi_1 hA, if_neg (by decide)]
      exact Or.inr (Or.inr ⟨z, hA, rfl⟩)
    · rw [bi_0 hA, if_pos rfl]
      exact Or.inr (Or.inl ⟨z, hA, rfl⟩)
  · rw [if_neg z]
    exact Or.inl ⟨z, bk_x rfl⟩
theorem s171 {d : Nat} (hd : 2 ≤ d) (r a b c : Int) (h : dm_H) (hr : 0 ≤ r ∧ r < 6) (hc : 1 ≤ gi h 166 r) : dF d 171 [dR 1 11 165, dI r, dI a, dI b, dI c] h = rI (bi (wit (gi h 166 r) 0 99 a b c)) h := by
  rw [f171 (by omega)]
  (repeat' (first | split | simp (disch := omega) only [b171_0, b171_7, b171_31, b171_41, b171_45, b171_46, b171_71, b171_82, b171_86, b171_87, ix_p, ck_p, z1_p, bk_v, bk_n, Nat.reduceAdd, Int.reduceEq, Int.reduceLT, Int.reduceNeg, if_true, if_false, eq_self, s168, bi_e0, bi_e1, bi_01])) <;> first | (exfalso; omega) | (rw [bi_1 (by omega)]) | (rw [bi_0 (by omega)])
theorem s249 {d : Nat} (hd : 2 ≤ d) (r a b c : Int) (h : dm_H) (hr : 0 ≤ r ∧ r < 6) (hc : 1 ≤ gi h 166 r) : dF d 249 [dR 1 11 165, dI r, dI a, dI b, dI c] h = rI (bi (wit (gi h 166 r) (-1) 99 a b c)) h := by
  rw [f249 (by omega)]
  (repeat' (first | split | simp (disch := omega) only [b249_0, b249_7, b249_31, b249_41, b249_45, b249_46, b249_71, b249_82, b249_86, b249_87, ix_p, ck_p, z1_p, bk_v, bk_n, Nat.reduceAdd, Int.reduceEq, Int.reduceLT, Int.reduceNeg, if_true, if_false, eq_self, s168, bi_e0, bi_e1, bi_01])) <;> first | (exfalso; omega) | (rw [bi_1 (by omega)]) | (rw [bi_0 (by omega)])
theorem s220_0 {d : Nat} (hd : 3 ≤ d) (r a b c : Int) (h : dm_H) (hr : 0 ≤ r ∧ r < 6) (hc : 1 ≤ gi h 166 r) : dF d 220 [dR 1 11 165, dI r, dI a, dI b, dI c, dI 0] h = rI (bi (wit (gi h 166 r) 0 107 a b c)) h := by
  rw [f220 (by omega)]
  (repeat' (first | split | simp (disch := omega) only [b220_0, b220_4, b220_17, b220_21, b220_22, b220_43, b220_63, b220_67, b220_68, b220_90, b220_112, b220_116, b220_117, ix_p, ck_p, z1_p, bk_v, bk_n, Nat.reduceAdd, Int.reduceEq, Int.reduceLT, Int.reduceNeg, if_true, if_false, eq_self, s221, bi_e0, bi_e1, bi_01])) <;> first | (exfalso; omega) | (rw [bi_1 (by omega)]) | (rw [bi_0 (by omega)])
theorem s220_1 {d : Nat} (hd : 3 ≤ d) (r a b c : Int) (h : dm_H) (hr : 0 ≤ r ∧ r < 6) (hc : 1 ≤ gi h 166 r) : dF d 220 [dR 1 11 165, dI r, dI a, dI b, dI c, dI 1] h = rI (bi (wit (gi h 166 r) (-1) 107 a b c)) h := by
  rw [f220 (by omega)]
  (repeat' (first | split | simp (disch := omega) only [b220_0, b220_4, b220_17, b220_21, b220_22, b220_43, b220_63, b220_67, b220_68, b220_90, b220_112, b220_116, b220_117, ix_p, ck_p, z1_p, bk_v, bk_n, Nat.reduceAdd, Int.reduceEq, Int.reduceLT, Int.reduceNeg, if_true, if_false, eq_self, s221, bi_e0, bi_e1, bi_01])) <;> first | (exfalso; omega) | (rw [bi_1 (by omega)]) | (rw [bi_0 (by omega)])
theorem s224 {d : Nat} (hd : 2 ≤ d) (h : dm_H) : dF d 224 [dR 1 11 165] h = rI (bi (gi h 165 16 = 0 ∨ gi h 172 385 = 4)) h := by
  have e0 : dF (d - 1) 179 [dR 1 11 165, dI 10, dI 5] h = rI (gi h 172 385) h := s179 (by omega) 10 5 h (by omega) (by omega)
  rw [f224 (by omega)]
  (repeat' (first | split | simp (disch := omega) only [b224_0, b224_14, b224_18, b224_23, ix_p, ck_p, z1_p, bk_v, bk_n, Nat.reduceAdd, Int.reduceEq, Int.reduceLT, Int.reduceNeg, if_true, if_false, eq_self, e0, bi_e0, bi_e1, bi_01])) <;> first | (exfalso; omega) | (rw [bi_1 (by omega)]) | (rw [bi_0 (by omega)])
theorem s96 {d : Nat} (hd : 1 ≤ d) (h : dm_H) : dF d 96 [dR 1 10 1] h = if gi h 1 11 = 0 ∨ 4 ≤ gi h (gr h 1 10) 4 then rX 2 (sg h 6) else rV h := by
  rw [f96 (by omega), b96_0]
  by_cases z : gi h 1 11 = 0
  · rw [if_pos z, if_pos (Or.inl z), b96_18]
  rw [if_neg z]
  by_cases y : gi h (gr h 1 10) 4 < 4
  · rw [if_pos y, if_neg (by omega)]
  · rw [if_neg y, if_pos (by omega), b96_18]
