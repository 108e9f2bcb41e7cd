/-! LEAVES of the class: what its small methods answer -/
theorem s46 {d : Nat} (hd : 1 ≤ d) (x : Int) (h : dm_H) : dF d 46 [dI x] h = rI (slot x) h := by
  rw [f46 hd]
  simp only [b46_0, b46_19, b46_20]
  unfold slot
  (repeat' (first | split | simp (disch := omega) only [ix_p, ck_p, z1_p, bk_v, bk_n, Nat.reduceAdd, Int.reduceEq, Int.reduceLT, Int.reduceNeg, if_true, if_false, eq_self])) <;> rfl
theorem s105 {d : Nat} (hd : 2 ≤ d) (x : Int) (h : dm_H) : dF d 105 [dI x] h = rI (if slot x = -1 then 0 else dm_shl 1 (slot x)) h := by
  rw [f105 (by omega)]
  simp (disch := omega) only [b105_0, b105_4, b105_17, ix_p, ck_p, z1_p, bk_v, bk_n, Nat.reduceAdd, Int.reduceEq, Int.reduceLT, Int.reduceNeg, if_true, if_false, eq_self, s46]
  (repeat' (first | split | simp (disch := omega) only [ix_p, ck_p, z1_p, bk_v, bk_n, Nat.reduceAdd, Int.reduceEq, Int.reduceLT, Int.reduceNeg, if_true, if_false, eq_self])) <;> rfl
theorem s76_1 {d : Nat} (hd : 1 ≤ d) (x1 x2 x3 : Int) (h : dm_H) : dF d 76 [dI 1, dI x1, dI x2, dI x3] h = rI (bi (x1 ≤ x3 ∧ x3 ≤ x2)) h := by
  rw [f76 hd]
  simp only [b76_0, b76_18, b76_31, Int.reduceEq, if_false]
  (repeat' (first | split | simp (disch := omega) only [ix_p, ck_p, z1_p, bk_v, bk_n, Nat.reduceAdd, Int.reduceEq, Int.reduceLT, Int.reduceNeg, if_true, if_false, eq_self])) <;> first | (rw [bi_1 (by omega)]) | (rw [bi_0 (by omega)])
theorem s76_0 {d : Nat} (hd : 1 ≤ d) (x1 x2 x3 : Int) (h : dm_H) : dF d 76 [dI 0, dI x1, dI x2, dI x3] h = rI (bi (x3 = 0)) h := by
  rw [f76 hd]
  simp only [b76_0, b76_18, b76_31, if_true]
  (repeat' (first | split | simp (disch := omega) only [ix_p, ck_p, z1_p, bk_v, bk_n, Nat.reduceAdd, Int.reduceEq, Int.reduceLT, Int.reduceNeg, if_true, if_false, eq_self])) <;> first | (rw [bi_1 (by omega)]) | (rw [bi_0 (by omega)])
theorem s75 {d : Nat} (hd : 2 ≤ d) (n x1 x2 x3 x4 x5 : Int) (h : dm_H) : dF d 75 [dI n, dI x1, dI x2, dI x3, dI x4, dI x5] h = rI (bi (wit n x1 x2 x3 x4 x5)) h := by
  rw [f75 (by omega)]
  (repeat' (first | split | simp (disch := omega) only [b75_0, b75_9, b75_15, b75_28, b75_35, b75_48, b75_55, b75_62, b75_63, ix_p, ck_p, z1_p, bk_v, bk_n, Nat.reduceAdd, Int.reduceEq, Int.reduceLT, Int.reduceNeg, if_true, if_false, eq_self, s76_0, s76_1, bi_e0, bi_01])) <;> first | (exfalso; omega) | (rw [bi_1 (by omega)]) | (rw [bi_0 (by omega)])
theorem s77 {d : Nat} (hd : 1 ≤ d) (x0 x1 x2 : Int) (h : dm_H) (h0 : 0 ≤ x0 ∧ x0 ≤ 99) (h1 : 0 ≤ x1 ∧ x1 ≤ 99) (h2 : 0 ≤ x2 ∧ x2 ≤ 99) : dF d 77 [dI x0, dI x1, dI x2] h = rI (x0 * 10000 + x1 * 100 + x2) h := by
  rw [f77 hd]
  simp (disch := omega) only [b77_0, ix_p, ck_p, z1_p, bk_v, bk_n, Nat.reduceAdd, Int.reduceEq, Int.reduceLT, Int.reduceNeg, if_true, if_false, eq_self]
theorem s141 {d : Nat} (hd : 1 ≤ d) (x0 x1 : Int) (h : dm_H) : dF d 141 [dI x0, dI x1] h = rI (bi (x0 = -1 ∨ x0 = x1)) h := by
  rw [f141 hd]
  simp only [b141_0, b141_10, b141_15]
  (repeat' (first | split | simp (disch := omega) only [ix_p, ck_p, z1_p, bk_v, bk_n, Nat.reduceAdd, Int.reduceEq, Int.reduceLT, Int.reduceNeg, if_true, if_false, eq_self])) <;> first | (rw [bi_1 (by omega)]) | (rw [bi_0 (by omega)])
theorem t49 (d : Nat) (x0 x1 x2 : Int) (h : dm_H) : dL d 49 0 [lI x0, lI x1, lI x2] [] h = if x0 = 0 then dL d 49 28 [lI x0, lI x1, lI x2] [] h else if x0 = 1 then dL d 49 39 [lI x0, lI x1, lI x2] [] h else if x0 = 2 then dL d 49 50 [lI x0, lI x1, lI x2] [] h else dL d 49 61 [lI x0, lI x1, lI x2] [] h := (b49_0 d x0 x1 x2 h).trans tab_3
theorem s49 {d : Nat} (hd : 1 ≤ d) (x0 x1 x2 : Int) (h : dm_H) : dF d 49 [dI x0, dI x1, dI x2] h = rI (bi (cmpb x0 x1 x2 = true)) h := by
  rw [f49 hd, t49]
  unfold cmpb
  (repeat' (first | split | simp (disch := omega) only [ix_p, ck_p, z1_p, bk_v, bk_n, Nat.reduceAdd, Int.reduceEq, Int.reduceLT, Int.reduceNeg, if_true, if_false, eq_self, b49_28, b49_38, b49_39, b49_49, b49_50, b49_60, b49_61, b49_71])) <;> first | (rw [bi_1 (by simp; omega)]) | (rw [bi_0 (by simp; omega)])
theorem t51 (d : Nat) (x0 x1 x2 : Int) (h : dm_H) : dL d 51 0 [lI x0, lI x1, lI x2, none] [] h = if x0 = 0 then dL d 51 36 [lI x0, lI x1, lI x2, none] [] h else if x0 = 1 then dL d 51 43 [lI x0, lI x1, lI x2, none] [] h else if x0 = 2 then dL d 51 50 [lI x0, lI x1, lI x2, none] [] h else if x0 = 3 then dL d 51 57 [lI x0, lI x1, lI x2, none] [] h else if x0 = 4 then dL d 51 66 [lI x0, lI x1, lI x2, none] [] h else dL d 51 75 [lI x0, lI x1, lI x2, none] [] h := (b51_0 d x0 x1 x2 h).trans tab_5
theorem clamp_e (x : Int) : (if 0 < (if x < 99 then x else 99) then (if x < 99 then x else 99) else 0) = clamp x := by
  unfold clamp
  repeat' split
  all_goals omega
theorem mul99 {a b : Int} (h1 : 0 ≤ a ∧ a ≤ 99) (h2 : 0 ≤ b ∧ b ≤ 99) : 0 ≤ a * b ∧ a * b ≤ 9801 := by
  have a1 := Int.mul_le_mul h1.2 h2.2 h2.1 (show (0 : Int) ≤ 99 by omega)
  have a2 := Int.mul_nonneg h1.1 h2.1
  omega
theorem s51 {d : Nat} (hd : 1 ≤ d) (x0 x1 x2 : Int) (h : dm_H) (h1 : 0 ≤ x1 ∧ x1 ≤ 99) (h2 : 0 ≤ x2 ∧ x2 ≤ 99) : dF d 51 [dI x0, dI x1, dI x2] h = rI (rck x0 x1 x2) h := by
  have hm := mul99 h1 h2
  rw [f51 hd, t51]
  unfold rck
  by_cases e0 : x0 = 0
  · rw [if_pos e0, if_pos e0, b51_36, ck_p (by omega) (by omega), b51_87, clamp_e]
  rw [if_neg e0, if_neg e0]
  by_cases e1 : x0 = 1
  · rw [if_pos e1, if_pos e1, b51_43, ck_p (by omega) (by omega), b51_87, clamp_e]
  rw [if_neg e1, if_neg e1]
  by_cases e2 : x0 = 2
  · rw [if_pos e2, if_pos e2, b51_50, ck_p (by omega) (by omega), b51_87, clamp_e]
  rw [if_neg e2, if_neg e2]
  by_cases e3 : x0 = 3
  · rw [if_pos e3, if_pos e3, b51_57, b51_87, clamp_e, show (if x2 < x1 then x2 else x1) = (if x1 < x2 then x1 else x2) from by split <;> split <;> omega]
  rw [if_neg e3, if_neg e3]
  by_cases e4 : x0 = 4
  · rw [if_pos e4, if_pos e4, b51_66, b51_87, clamp_e]
  rw [if_neg e4, if_neg e4, b51_75]
  by_cases e5 : x2 = 0
  · rw [if_pos e5, if_pos e5, b51_86, b51_87, clamp_e]
  rw [if_neg e5, if_neg e5, dv_p (by omega) (by omega), b51_86, b51_87, clamp_e]
/-- an array filled -/
def fill (h : dm_H) (a : Nat) (n : Int) (x : Int) : dm_H := (fun b j => if b = a ∧ 0 ≤ j ∧ j < n then x else h.1 b j, h.2)
theorem gi_fill (h : dm_H) (a b : Nat) (n x j : Int) : gi (fill h a n x) b j = if b = a ∧ 0 ≤ j ∧ j < n then x else gi h b j := rfl
theorem gr_fill (h : dm_H) (a b : Nat) (n x j : Int) : gr (fill h a n x) b j = gr h b j := rfl
theorem s21 {d : Nat} (hd : 1 ≤ d) (p a : Nat) (x : Int) (h : dm_H) (hp : p ≤ 2000) : dF d 21 [dR 2 p a, dI x] h = rV (fill h a p x) := by
  rw [f21 hd, b21_0]
  have key : ∀ (k : Nat) (i : Int), 0 ≤ i → i + k = p → dL (d - 1) 21 5 [lR 2 p a, lI x, lI i, lI p] [] (fill h a i x) = rV (fill h a p x) := by
    intro k
    induction k with
    | zero =>
      intro i h0 hk
      rw [b21_5, if_neg (by omega), show i = (p : Int) by omega]
    | succ k ih =>
      intro i h0 hk
      rw [b21_5, if_pos (by omega), ix_p h0 (by omega), ck_p (by omega) (by omega), ← ih (i + 1) (by omega) (by omega)]
      congr 1
      unfold si fill
      congr 1
      funext b j
      by_cases hb : b = a
      · by_cases hj : j = i
        · simp [hb, hj]; omega
        · simp only [hb, hj, true_and, and_false, if_false]
          by_cases q : 0 ≤ j ∧ j < i
          · rw [if_pos q, if_pos (by omega)]
          · rw [if_neg q, if_neg (by omega)]
      · simp [hb]
  have e : fill h a 0 x = h := by
    unfold fill
    rcases h with ⟨h1, h2⟩
    congr 1
    funext b j
    rw [if_neg (by omega)]
  rw [← e]
  have := key p 0 (by omega) (by omega)
  rw [e] at this
  rw [e]
  exact this
theorem s74 {d : Nat} (hd : 1 ≤ d) (r : Int) (h : dm_H) : dF d 74 [dR 1 6 2, dI r] h = rI (bi (0 ≤ r ∧ r < gi h 2 0)) h := by
  rw [f74 hd]
  simp only [b74_0, b74_16, b74_17]
  (repeat' (first | split | simp (disch := omega) only [ix_p, ck_p, z1_p, bk_v, bk_n, Nat.reduceAdd, Int.reduceEq, Int.reduceLT, Int.reduceNeg, if_true, if_false, eq_self])) <;> first | (rw [bi_1 (by omega)]) | (rw [bi_0 (by omega)])
/-- bit j of a set -/
def hb (s j : Int) : Prop := dm_and (dm_shr s j) 1 ≠ 0
theorem s112 {d : Nat} (hd : 1 ≤ d) (r q : Int) (h : dm_H) (h1 : 0 ≤ r ∧ r < 6) (h2 : 0 ≤ q ∧ q < 6) : dF d 112 [dR 1 6 2, dI r, dI q] h = rI (if r = q then 1 else if dm_and (dm_shr (gi h 6 r) q) 1 = 0 then 0 else if dm_and (dm_shr (gi h 6 q) r) 1 = 0 then 0 else 1) h := by
  rw [f112 hd]
  simp only [b112_0, b112_31, b112_35, b112_36]
  (repeat' (first | split | simp (disch := omega) only [ix_p, ck_p, z1_p, bk_v, bk_n, Nat.reduceAdd, Int.reduceEq, Int.reduceLT, Int.reduceNeg, if_true, if_false, eq_self])) <;> rfl
theorem s57 {d : Nat} (hd : 1 ≤ d) (r : Int) (h : dm_H) (h1 : 0 ≤ r ∧ r < 6) : dF d 57 [dR 1 6 2, dI r] h = rI (dm_or (gi h 6 r) (dm_shl 1 r)) h := by
  rw [f57 hd]
  simp (disch := omega) only [b57_0, ix_p, ck_p, z1_p, bk_v, bk_n, Nat.reduceAdd, Int.reduceEq, Int.reduceLT, Int.reduceNeg, if_true, if_false, eq_self]
theorem s60 {d : Nat} (hd : 1 ≤ d) (p t : Int) (h : dm_H) (h1 : 0 ≤ p ∧ p < 24) : dF d 60 [dR 1 2 8, dI p, dI t] h = rI (bi (gi h 12 p ≠ -1 ∧ gi h 12 p ≤ t)) h := by
  rw [f60 hd]
  simp only [b60_0, b60_24, b60_25]
  (repeat' (first | split | simp (disch := omega) only [ix_p, ck_p, z1_p, bk_v, bk_n, Nat.reduceAdd, Int.reduceEq, Int.reduceLT, Int.reduceNeg, if_true, if_false, eq_self])) <;> first | (rw [bi_1 (by omega)]) | (rw [bi_0 (by omega)])
/-- places of facts, by their order -/
def fLt (h : dm_H) (r c p : Int) : Prop := r < gi h 9 p ∨ (gi h 9 p = r ∧ c < gi h 10 p)
theorem s80 {d : Nat} (hd : 1 ≤ d) (p r c : Int) (h : dm_H) (h1 : 0 ≤ p ∧ p < 24) : dF d 80 [dR 1 2 8, dI p, dI r, dI c] h = rI (bi (r < gi h 9 p ∨ (gi h 9 p = r ∧ c < gi h 10 p))) h := by
  rw [f80 hd]
  simp only [b80_0, b80_30, b80_34, b80_35]
  (repeat' (first | split | simp (disch := omega) only [ix_p, ck_p, z1_p, bk_v, bk_n, Nat.reduceAdd, Int.reduceEq, Int.reduceLT, Int.reduceNeg, if_true, if_false, eq_self])) <;> first | (rw [bi_1 (by omega)]) | (rw [bi_0 (by omega)])
def mvf (h : dm_H) (p q : Int) : dm_H := si (si (si (si h 9 q (gi h 9 p)) 10 q (gi h 10 p)) 11 q (gi h 11 p)) 12 q (gi h 12 p)
theorem s81 {d : Nat} (hd : 1 ≤ d) (p q : Int) (h : dm_H) (h1 : 0 ≤ p ∧ p < 24) (h2 : 0 ≤ q ∧ q < 24) : dF d 81 [dR 1 2 8, dI p, dI q] h = rV (mvf h p q) := by
  rw [f81 hd]
  simp (disch := omega) only [b81_0, ix_p, ck_p, z1_p, bk_v, bk_n, Nat.reduceAdd, Int.reduceEq, Int.reduceLT, Int.reduceNeg, if_true, if_false, eq_self]
  rfl
theorem s39 {d : Nat} (hd : 1 ≤ d) (A : Nat) (k : Int) (h : dm_H) (h1 : 0 ≤ k ∧ k < 4) : dF d 39 [dR 1 8 A, dI k] h = rI (bi (gi h (A + 2) k = 0 ∨ gi h (A + 2) k = 1)) h := by
  rw [f39 hd]
  simp only [b39_0, b39_19, b39_24]
  (repeat' (first | split | simp (disch := omega) only [ix_p, ck_p, z1_p, bk_v, bk_n, Nat.reduceAdd, Int.reduceEq, Int.reduceLT, Int.reduceNeg, if_true, if_false, eq_self])) <;> first | (rw [bi_1 (by omega)]) | (rw [bi_0 (by omega)])
theorem s31 {d : Nat} (hd : 1 ≤ d) (A : Nat) (t : Int) (a : Nat) (h : dm_H) : dF d 31 [dR 1 8 A, dI t, dR 2 8 a] h = rI (tv (gi h a) t) h := by
  rw [f31 hd, b31_0]
  unfold tv
  by_cases h1 : t < 100
  · rw [if_pos h1, if_pos h1, b31_16, b31_17, if_pos rfl, b31_32]
  rw [if_neg h1, if_neg h1]
  by_cases h2 : 107 < t
  · rw [if_pos h2, if_pos h2, b31_16, b31_17, if_pos rfl, b31_32]
  rw [if_neg h2, if_neg h2, b31_17, if_neg (by omega), ck_p (by omega) (by omega), ix_p (by omega) (by omega), b31_32]
theorem s115 {d : Nat} (hd : 2 ≤ d) (A : Nat) (t : Int) (h : dm_H) : dF d 115 [dR 1 8 A, dI t] h = rI (if slot t = -1 then 0 else gi h (A + 7) (slot t)) h := by
  have hs := slot_r t
  rw [f115 (by omega)]
  simp (disch := omega) only [b115_0, b115_4, b115_20, ix_p, ck_p, z1_p, bk_v, bk_n, Nat.reduceAdd, Int.reduceEq, Int.reduceLT, Int.reduceNeg, if_true, if_false, eq_self, s46]
  (repeat' (first | split | simp (disch := omega) only [ix_p, ck_p, z1_p, bk_v, bk_n, Nat.reduceAdd, Int.reduceEq, Int.reduceLT, Int.reduceNeg, if_true, if_false, eq_self])) <;> rfl
