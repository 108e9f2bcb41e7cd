/-! LEAVES of the class: what its small methods answer -/
theorem s46 {d : Nat} (hd : 1 ≤ d) (x : Int) (h : dm_H) : dF d 46 [dI x] h = rI (slot x) h := by
  rw [f46 hd]
  simp only [b46_0, b46_19, b46_20]
  unfold slot
  (repeat' (first | split | simp (disch := omega) only [ix_p, ck_p, z1_p, bk_v, bk_n, Nat.reduceAdd])) <;> rfl
theorem s105 {d : Nat} (hd : 2 ≤ d) (x : Int) (h : dm_H) : dF d 105 [dI x] h = rI (if slot x = -1 then 0 else dm_shl 1 (slot x)) h := by
  rw [f105 (by omega)]
  simp (disch := omega) only [b105_0, b105_4, b105_17, ix_p, ck_p, z1_p, bk_v, bk_n, Nat.reduceAdd, s46]
  (repeat' (first | split | simp (disch := omega) only [ix_p, ck_p, z1_p, bk_v, bk_n, Nat.reduceAdd])) <;> rfl
theorem s76 {d : Nat} (hd : 1 ≤ d) (x0 x1 x2 x3 : Int) (h : dm_H) : dF d 76 [dI x0, dI x1, dI x2, dI x3] h = rI (bi (if x0 = 0 then x3 = 0 else x1 ≤ x3 ∧ x3 ≤ x2)) h := by
  rw [f76 hd]
  simp only [b76_0, b76_18, b76_31]
  (repeat' (first | split | simp (disch := omega) only [ix_p, ck_p, z1_p, bk_v, bk_n, Nat.reduceAdd])) <;> first | (rw [bi_1 (by omega)]) | (rw [bi_0 (by omega)])
theorem s75 {d : Nat} (hd : 2 ≤ d) (n x1 x2 x3 x4 x5 : Int) (h : dm_H) : dF d 75 [dI n, dI x1, dI x2, dI x3, dI x4, dI x5] h = rI (bi (wit n x1 x2 x3 x4 x5)) h := by
  rw [f75 (by omega)]
  unfold wit
  (repeat' (first | split | simp (disch := omega) only [b75_0, b75_9, b75_15, b75_28, b75_35, b75_48, b75_55, b75_62, b75_63, ix_p, ck_p, z1_p, bk_v, bk_n, Nat.reduceAdd, s76, bi_e0, bi_01])) <;> first | (rw [bi_1 (by omega)]) | (rw [bi_0 (by omega)])
theorem s77 {d : Nat} (hd : 1 ≤ d) (x0 x1 x2 : Int) (h : dm_H) (h0 : 0 ≤ x0 ∧ x0 ≤ 99) (h1 : 0 ≤ x1 ∧ x1 ≤ 99) (h2 : 0 ≤ x2 ∧ x2 ≤ 99) : dF d 77 [dI x0, dI x1, dI x2] h = rI (x0 * 10000 + x1 * 100 + x2) h := by
  rw [f77 hd]
  simp (disch := omega) only [b77_0, ix_p, ck_p, z1_p, bk_v, bk_n, Nat.reduceAdd]
theorem s141 {d : Nat} (hd : 1 ≤ d) (x0 x1 : Int) (h : dm_H) : dF d 141 [dI x0, dI x1] h = rI (bi (x0 = -1 ∨ x0 = x1)) h := by
  rw [f141 hd]
  simp only [b141_0, b141_10, b141_15]
  (repeat' (first | split | simp (disch := omega) only [ix_p, ck_p, z1_p, bk_v, bk_n, Nat.reduceAdd])) <;> first | (rw [bi_1 (by omega)]) | (rw [bi_0 (by omega)])
theorem s49 {d : Nat} (hd : 1 ≤ d) (x0 x1 x2 : Int) (h : dm_H) : dF d 49 [dI x0, dI x1, dI x2] h = rI (bi (cmpb x0 x1 x2 = true)) h := by
  rw [f49 hd]
  simp only [b49_0, tab_3]
  unfold cmpb
  simp only [dm_to]
  simp only [b49_0, b49_28, b49_38, b49_39, b49_49, b49_50, b49_60, b49_61, b49_71]
  (repeat' (first | split | simp (disch := omega) only [ix_p, ck_p, z1_p, bk_v, bk_n, Nat.reduceAdd, b49_0, b49_28, b49_38, b49_39, b49_49, b49_50, b49_60, b49_61, b49_71])) <;> first | (rw [bi_1 (by simp; omega)]) | (rw [bi_0 (by simp; omega)])
theorem s51 {d : Nat} (hd : 1 ≤ d) (x0 x1 x2 : Int) (h : dm_H) (h1 : 0 ≤ x1 ∧ x1 ≤ 99) (h2 : 0 ≤ x2 ∧ x2 ≤ 99) : dF d 51 [dI x0, dI x1, dI x2] h = rI (rck x0 x1 x2) h := by
  have hm : 0 ≤ x1 * x2 ∧ x1 * x2 ≤ 9801 := by
    have a1 := Int.mul_le_mul h1.2 h2.2 h2.1 (show (0 : Int) ≤ 99 by omega)
    have a2 := Int.mul_nonneg h1.1 h2.1
    omega
  rw [f51 hd]
  simp only [b51_0, tab_5]
  unfold rck clamp
  generalize hq : x1 * x2 = q at *
  (repeat' (first | split | simp (disch := omega) only [ix_p, ck_p, z1_p, bk_v, bk_n, Nat.reduceAdd, b51_0, b51_36, b51_43, b51_50, b51_57, b51_66, b51_75, b51_86, b51_87, dm_to])) <;> sorry
/-- an array filled -/
def fill (h : dm_H) (a : Nat) (n : Int) (x : Int) : dm_H := (fun b j => if b = a ∧ 0 ≤ j ∧ j < n then x else h.1 b j, h.2)
theorem gi_fill (h : dm_H) (a b : Nat) (n x j : Int) : gi (fill h a n x) b j = if b = a ∧ 0 ≤ j ∧ j < n then x else gi h b j := rfl
theorem gr_fill (h : dm_H) (a b : Nat) (n x j : Int) : gr (fill h a n x) b j = gr h b j := rfl
theorem s21 {d : Nat} (hd : 1 ≤ d) (p a : Nat) (x : Int) (h : dm_H) (hp : p ≤ 2000) : dF d 21 [dR 2 p a, dI x] h = rV (fill h a p x) := by
  rw [f21 hd, b21_0]
  have key : ∀ (k : Nat) (i : Int), 0 ≤ i → i + k = p → dL (d - 1) 21 5 [lR 2 p a, lI x, lI i, lI p] [] (fill h a i x) = rV (fill h a p x) := by
    intro k
    induction k with
    | zero =>
      intro i h0 hk
      rw [b21_5, if_neg (by omega), show i = (p : Int) by omega]
    | succ k ih =>
      intro i h0 hk
      rw [b21_5, if_pos (by omega), ix_p h0 (by omega), ck_p (by omega) (by omega), ← ih (i + 1) (by omega) (by omega)]
      congr 1
      unfold si fill
      congr 1
      funext b j
      by_cases hb : b = a
      · by_cases hj : j = i
        · simp [hb, hj]; omega
        · simp only [hb, hj, true_and, and_false, if_false]
          by_cases q : 0 ≤ j ∧ j < i
          · rw [if_pos q, if_pos (by omega)]
          · rw [if_neg q, if_neg (by omega)]
      · simp [hb]
  have e : fill h a 0 x = h := by
    unfold fill
    rcases h with ⟨h1, h2⟩
    congr 1
    funext b j
    rw [if_neg (by omega)]
  rw [← e]
  have := key p 0 (by omega) (by omega)
  rw [e] at this
  rw [e]
  exact this
