/-! HEADS, and what looks on in the derivation -/
/-- the code that the first columns of a head make -/
def hcd (t : Int → Int) (v : mA) : Nat → Int → Int → Int
  | 0, _, z => z
  | n + 1, i, z => hcd t v n (i + 1) (z + dm_unit i * tv v (t i))
theorem s26 {d : Nat} (hd : 1 ≤ d) (A : Nat) (n : Int) (h : dm_H) (hn : 0 ≤ n ∧ n ≤ 3) (ht : ∀ i, 0 ≤ i → i < n → 0 ≤ tv (va h 138) (gi h (A + 1) i) ∧ tv (va h 138) (gi h (A + 1) i) ≤ 99) : dF d 26 [dR 1 8 A, dR 2 8 138, dI n] h = rI (hcd (gi h (A + 1)) (va h 138) n.toNat 0 0) h := by
  rw [f26 hd, b26_0]
  have key : ∀ (m : Nat) (i z : Int) (w5 w6 : Option dm_V), 0 ≤ i → i + m = n → 0 ≤ z → z ≤ i * 1000000 → dL (d - 1) 26 5 [lR 1 8 A, lR 2 8 138, lI n, lI z, lI i, w5, w6] [] h = rI (hcd (gi h (A + 1)) (va h 138) m i z) h := by
    intro m
    induction m with
    | zero =>
      intro i z w5 w6 h0 hm z0 z1
      rw [b26_5, if_neg (by omega)]
      rfl
    | succ m ih =>
      intro i z w5 w6 h0 hm z0 z1
      have hx := ht i h0 (by omega)
      have hmul : 0 ≤ dm_unit i * tv (va h 138) (gi h (A + 1) i) ∧ dm_unit i * tv (va h 138) (gi h (A + 1) i) ≤ 990000 := by
        rcases (show i = 0 ∨ i = 1 ∨ i = 2 by omega) with rfl | rfl | rfl
        · rw [dm_unit0]; omega
        · rw [dm_unit1]; omega
        · rw [dm_unit2]; omega
      have hfin : ∀ (w3 w5 w6 : Option dm_V), dL (d - 1) 26 65 [lR 1 8 A, lR 2 8 138, lI n, w3, lI i, w5, w6] [dI (tv (va h 138) (gi h (A + 1) i)), dI (dm_unit i), dI z] h = rI (hcd (gi h (A + 1)) (va h 138) (m + 1) i z) h := by
        intro w3 w5 w6
        rw [b26_65, ck_p (by omega) (by omega), ck_p (by omega) (by omega), ck_p (by omega) (by omega)]
        exact ih (i + 1) _ _ _ (by omega) (by omega) (by omega) (by omega)
      rw [b26_5, if_pos (by omega), ix_p h0 (by omega)]
      rw [← tv_va] at hfin
      unfold tv at hfin
      by_cases h1 : gi h (A + 1) i < 100
      · rw [if_pos h1] at hfin
        rw [if_pos h1, b26_38, b26_39, ix_p h0 (by omega), if_pos rfl]
        exact hfin _ _ _
      rw [if_neg h1] at hfin
      by_cases h2 : 107 < gi h (A + 1) i
      · rw [if_pos h2] at hfin
        rw [if_neg h1, if_pos h2, b26_38, b26_39, ix_p h0 (by omega), if_pos rfl]
        exact hfin _ _ _
      rw [if_neg h2] at hfin
      rw [if_neg h1, if_neg h2, b26_39, ix_p h0 (by omega), if_neg (by omega), ck_p (by omega) (by omega), ix_p (by omega) (by omega)]
      exact hfin _ _ _
  exact key n.toNat 0 0 none none (by omega) (by omega) (by omega) (by omega)
theorem hcd_r {t : Int → Int} {v : mA} : ∀ (n : Nat) (i z : Int), 0 ≤ i → i + n ≤ 3 → (∀ j, i ≤ j → j < i + n → 0 ≤ tv v (t j) ∧ tv v (t j) ≤ 99) → hcd t v n i z = z + hcd t v n i 0 ∧ 0 ≤ hcd t v n i 0 ∧ hcd t v n i 0 < (if i = 0 then 1000000 else if i = 1 then 10000 else if i = 2 then 100 else 1)
  | 0, i, z, h0, h1, _ => ⟨by show z = z + 0; omega, by show (0 : Int) ≤ 0; omega, by show (0 : Int) < _; repeat' split; all_goals omega⟩
  | n + 1, i, z, h0, h1, hv => by
    obtain ⟨a1, a2, a3⟩ := hcd_r (t := t) (v := v) n (i + 1) (z + dm_unit i * tv v (t i)) (by omega) (by omega) (fun j j0 j1 => hv j (by omega) (by omega))
    obtain ⟨b1, -, -⟩ := hcd_r (t := t) (v := v) n (i + 1) (0 + dm_unit i * tv v (t i)) (by omega) (by omega) (fun j j0 j1 => hv j (by omega) (by omega))
    have hx := hv i (by omega) (by omega)
    have e1 : hcd t v (n + 1) i z = hcd t v n (i + 1) (z + dm_unit i * tv v (t i)) := rfl
    have e2 : hcd t v (n + 1) i 0 = hcd t v n (i + 1) (0 + dm_unit i * tv v (t i)) := rfl
    rw [e1, e2, a1, b1]
    generalize tv v (t i) = x at *
    generalize hcd t v n (i + 1) 0 = y at *
    rcases (show i = 0 ∨ i = 1 ∨ i = 2 by omega) with rfl | rfl | rfl
    · rw [dm_unit0]
      rw [if_neg (by omega), if_pos (by omega)] at a3
      rw [if_pos rfl]
      omega
    · rw [dm_unit1]
      rw [if_neg (by omega), if_neg (by omega), if_pos (by omega)] at a3
      rw [if_neg (by omega), if_pos rfl]
      omega
    · rw [dm_unit2]
      rw [if_neg (by omega), if_neg (by omega), if_neg (by omega)] at a3
      rw [if_neg (by omega), if_neg (by omega), if_pos rfl]
      omega
