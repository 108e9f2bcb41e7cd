/-! FACTS of the reference -/
section RF
variable {h : dm_H}
theorem s173 {d : Nat} (hd : 1 ≤ d) (r c : Int) (hn : 0 ≤ gi h 165 5 ∧ gi h 165 5 ≤ 24) : dF d 173 [dR 1 11 165, dI r, dI c] h = rI (fpl (fL 168 h) (gi h 165 5) r c) h := by
  rw [f173 (by omega), b173_0]
  refine fz_loop (P := fun x => (fL 168 h x).1 = r ∧ (fL 168 h x).2.1 = c) (Hd := fun i => dL (d - 1) 173 2 [lR 1 11 165, lI r, lI c, lI i] [] h) (r := fun x => rI x h) (N := gi h 165 5) ?_ ?_ ?_ (gi h 165 5).toNat 0 (by omega) (by omega)
  · intro i i0 i1 ⟨q1, q2⟩
    have q1 : gi h 168 i = r := q1
    have q2 : gi h 169 i = c := q2
    show dL (d - 1) 173 2 [lR 1 11 165, lI r, lI c, lI i] [] h = rI i h
    rw [b173_2, if_pos i1, ix_p i0 (by omega), if_pos q1, ix_p i0 (by omega), if_pos q2]
  · intro i i0 i1 q
    show dL (d - 1) 173 2 [lR 1 11 165, lI r, lI c, lI i] [] h = dL (d - 1) 173 2 [lR 1 11 165, lI r, lI c, lI (i + 1)] [] h
    rw [b173_2, if_pos i1, ix_p i0 (by omega), b173_32, ck_p (by omega) (by omega)]
    by_cases q1 : gi h 168 i = r
    · rw [if_pos q1, ix_p i0 (by omega), if_neg (show ¬ gi h 169 i = c from fun q2 => q ⟨q1, q2⟩)]
    · rw [if_neg q1]
  · intro i i0 i1
    show dL (d - 1) 173 2 [lR 1 11 165, lI r, lI c, lI i] [] h = rI (-1) h
    rw [b173_2, if_neg (by omega)]
theorem nest4 (h : dm_H) (x z : Int) : si (si (si (si h 168 x (gi h 168 z)) 169 x (gi (si h 168 x (gi h 168 z)) 169 z)) 170 x (gi (si (si h 168 x (gi h 168 z)) 169 x (gi (si h 168 x (gi h 168 z)) 169 z)) 170 z)) 171 x (gi (si (si (si h 168 x (gi h 168 z)) 169 x (gi (si h 168 x (gi h 168 z)) 169 z)) 170 x (gi (si (si h 168 x (gi h 168 z)) 169 x (gi (si h 168 x (gi h 168 z)) 169 z)) 170 z)) 171 z) = mv4 h 168 z x := by
  have a1 : ∀ v, gi (si h 168 x v) 169 z = gi h 169 z := fun v => gi_sin (by decide)
  have a2 : ∀ v w, gi (si (si h 168 x v) 169 x w) 170 z = gi h 170 z := fun v w => by rw [gi_sin (by decide), gi_sin (by decide)]
  have a3 : ∀ v w y, gi (si (si (si h 168 x v) 169 x w) 170 x y) 171 z = gi h 171 z := fun v w y => by rw [gi_sin (by decide), gi_sin (by decide), gi_sin (by decide)]
  rw [a1, a2, a3]
  rfl
theorem s176 {d : Nat} (hd : 2 ≤ d) (x1 x2 x3 x4 : Int) {n : Int} (en : gi h 165 5 = n) (hn : 0 ≤ n ∧ n < 24) (hc : ∀ p, 0 ≤ p → p < n → 0 ≤ gi h 169 p ∧ gi h 169 p < 1000000) (hx : 0 ≤ x2 ∧ x2 < 1000000) (hne : ∀ p, 0 ≤ p → p < n → ¬ (gi h 168 p = x1 ∧ gi h 169 p = x2)) (S : FO (fL 168 h) n) :
    ∃ p, (0 ≤ p ∧ p ≤ n) ∧ dF d 176 [dR 1 11 165, dI x1, dI x2, dI x3, dI x4] h = rV (si (st4 (mov4 h 168 p n) 168 p x1 x2 x3 x4) 165 5 (n + 1)) ∧ (∀ x, 0 ≤ x → x < p → kyF (fL 168 h x) < kyF (x1, x2, x3, x4)) ∧ (∀ x, p ≤ x → x < n → kyF (x1, x2, x3, x4) < kyF (fL 168 h x)) := by
  have behind : ∀ x, 0 ≤ x → x < n → ((x1 < gi h 168 x ∨ (gi h 168 x = x1 ∧ x2 < gi h 169 x)) ↔ kyF (x1, x2, x3, x4) < kyF (fL 168 h x)) ∧ kyF (x1, x2, x3, x4) ≠ kyF (fL 168 h x) := by
    intro x a b
    have h1 := hc x a b
    have h2 := hne x a b
    show ((x1 < gi h 168 x ∨ (gi h 168 x = x1 ∧ x2 < gi h 169 x)) ↔ x1 * 1000000 + x2 < gi h 168 x * 1000000 + gi h 169 x) ∧ x1 * 1000000 + x2 ≠ gi h 168 x * 1000000 + gi h 169 x
    omega
  rw [f176 (by omega), b176_0, en]
  have loop : ∀ (m : Nat) (y : Int), (y : Int) = m → y ≤ n → (∀ x, y ≤ x → x < n → kyF (x1, x2, x3, x4) < kyF (fL 168 h x)) →
      ∃ p, (0 ≤ p ∧ p ≤ n) ∧ dL (d - 1) 176 6 [lR 1 11 165, lI x1, lI x2, lI x3, lI x4, lI y] [] (mov4 h 168 y n) = rV (si (st4 (mov4 h 168 p n) 168 p x1 x2 x3 x4) 165 5 (n + 1)) ∧ (∀ x, 0 ≤ x → x < p → kyF (fL 168 h x) < kyF (x1, x2, x3, x4)) ∧ (∀ x, p ≤ x → x < n → kyF (x1, x2, x3, x4) < kyF (fL 168 h x)) := by
    intro m
    have done : ∀ (y : Int), 0 ≤ y → y ≤ n → dL (d - 1) 176 120 [lR 1 11 165, lI x1, lI x2, lI x3, lI x4, lI y] [] (mov4 h 168 y n) = rV (si (st4 (mov4 h 168 y n) 168 y x1 x2 x3 x4) 165 5 (n + 1)) := by
      intro y y0 y1
      have e8 : gi (st4 (mov4 h 168 y n) 168 y x1 x2 x3 x4) 165 5 = n := by rw [gi_st4, if_neg (by omega), gi_mov4, if_neg (by omega), en]
      rw [b176_120, ix_p y0 (by omega), ix_p y0 (by omega), ix_p y0 (by omega), ix_p y0 (by omega)]
      show dm_ck (gi (st4 (mov4 h 168 y n) 168 y x1 x2 x3 x4) 165 5 + 1) _ = _
      rw [e8, ck_p (by omega) (by omega)]
      rfl
    induction m with
    | zero =>
      intro y ym y1 l2
      rw [b176_6, if_neg (by omega), done y (by omega) y1]
      exact ⟨y, ⟨by omega, y1⟩, rfl, fun x x0 x1 => by omega, l2⟩
    | succ m ih =>
      intro y ym y1 l2
      have b1 := behind (y - 1) (by omega) (by omega)
      have e9 : gi (mov4 h 168 y n) 168 (y - 1) = gi h 168 (y - 1) := by rw [gi_mov4, if_neg (by omega)]
      have e10 : gi (mov4 h 168 y n) 169 (y - 1) = gi h 169 (y - 1) := by rw [gi_mov4, if_neg (by omega)]
      have go : (x1 < gi h 168 (y - 1) ∨ (gi h 168 (y - 1) = x1 ∧ x2 < gi h 169 (y - 1))) → dL (d - 1) 176 50 [lR 1 11 165, lI x1, lI x2, lI x3, lI x4, lI y] [] (mov4 h 168 y n) = dL (d - 1) 176 6 [lR 1 11 165, lI x1, lI x2, lI x3, lI x4, lI (y - 1)] [] (mov4 h 168 (y - 1) n) := by
        intro _
        rw [b176_50, ck_p (by omega) (by omega), ix_p (by omega) (by omega), ix_p (by omega) (by omega), ck_p (by omega) (by omega), ix_p (by omega) (by omega), ix_p (by omega) (by omega), ck_p (by omega) (by omega), ix_p (by omega) (by omega), ix_p (by omega) (by omega), ck_p (by omega) (by omega), ix_p (by omega) (by omega), ix_p (by omega) (by omega), ck_p (by omega) (by omega), nest4, mov4_step y1, show y + -1 = y - 1 by omega]
      have stop : ¬ (x1 < gi h 168 (y - 1) ∨ (gi h 168 (y - 1) = x1 ∧ x2 < gi h 169 (y - 1))) → ∀ x, 0 ≤ x → x < y → kyF (fL 168 h x) < kyF (x1, x2, x3, x4) := by
        intro z x x0 x1
        have hz := fun w => z (b1.1.mpr w)
        have hb2 := b1.2
        by_cases w : x = y - 1
        · rw [w]; omega
        · have := S x (y - 1) x0 (by omega) (by omega)
          omega
      have more : (x1 < gi h 168 (y - 1) ∨ (gi h 168 (y - 1) = x1 ∧ x2 < gi h 169 (y - 1))) → _ := fun z => ih (y - 1) (by omega) (by omega) (fun x x0 x1 => by
        by_cases w : x = y - 1
        · rw [w]; exact b1.1.mp z
        · exact l2 x (by omega) x1)
      rw [b176_6, if_pos (by omega), ck_p (by omega) (by omega), ix_p (by omega) (by omega), e9]
      by_cases z1 : x1 < gi h 168 (y - 1)
      · rw [if_pos z1, go (Or.inl z1)]; exact more (Or.inl z1)
      rw [if_neg z1, ck_p (by omega) (by omega), ix_p (by omega) (by omega), e9]
      by_cases z2 : gi h 168 (y - 1) = x1
      · rw [if_pos z2, ck_p (by omega) (by omega), ix_p (by omega) (by omega), e10]
        by_cases z3 : x2 < gi h 169 (y - 1)
        · rw [if_pos z3, go (Or.inr ⟨z2, z3⟩)]; exact more (Or.inr ⟨z2, z3⟩)
        · rw [if_neg z3, done y (by omega) y1]
          exact ⟨y, ⟨by omega, y1⟩, rfl, stop (by omega), l2⟩
      · rw [if_neg z2, done y (by omega) y1]
        exact ⟨y, ⟨by omega, y1⟩, rfl, stop (by omega), l2⟩
  obtain ⟨p, a1, a2, a3, a4⟩ := loop n.toNat n (by omega) (Int.le_refl _) (fun x x0 x1 => by omega)
  rw [mov4_e] at a2
  exact ⟨p, a1, a2, a3, a4⟩
theorem s211 {d : Nat} (hd : 1 ≤ d) {g n : Int} (en : gi h 165 5 = n) (hg : 0 ≤ g ∧ g < n) (hn : n ≤ 24) : dF d 211 [dR 1 11 165, dI g] h = rV (dn4 (si h 165 5 (n - 1)) 168 g (n - 1)) := by
  have loop : ∀ (m : Nat) (x : Int), g ≤ x → x + m = n - 1 → dL (d - 1) 211 12 [lR 1 11 165, lI g, lI x] [] (dn4 (si h 165 5 (n - 1)) 168 g x) = rV (dn4 (si h 165 5 (n - 1)) 168 g (n - 1)) := by
    intro m
    induction m with
    | zero =>
      intro x x0 xm
      have e8 : gi (dn4 (si h 165 5 (n - 1)) 168 g x) 165 5 = n - 1 := by rw [gi_dn4, if_neg (by omega), gi_sis]
      rw [b211_12, e8, if_neg (by omega), show x = n - 1 by omega]
    | succ m ih =>
      intro x x0 xm
      have e8 : gi (dn4 (si h 165 5 (n - 1)) 168 g x) 165 5 = n - 1 := by rw [gi_dn4, if_neg (by omega), gi_sis]
      rw [b211_12, e8, if_pos (by omega), ck_p (by omega) (by omega), ix_p (by omega) (by omega), ix_p (by omega) (by omega), ck_p (by omega) (by omega), ix_p (by omega) (by omega), ix_p (by omega) (by omega), ck_p (by omega) (by omega), ix_p (by omega) (by omega), ix_p (by omega) (by omega), ck_p (by omega) (by omega), ix_p (by omega) (by omega), ix_p (by omega) (by omega), ck_p (by omega) (by omega), nest4, dn4_step x0]
      exact ih (x + 1) (by omega) (by omega)
  have := loop (n - 1 - g).toNat g (by omega) (by omega)
  rw [dn4_e] at this
  rw [f211 (by omega), b211_0, en, ck_p (by omega) (by omega), this]
/-- the first fact that has ended goes behind the others -/
theorem s216 {d : Nat} (hd : 2 ≤ d) {t n : Int} (en : gi h 165 5 = n) (hn : n ≤ 24) (hex : ∃ x, 0 ≤ x ∧ x < n ∧ edd t (fL 168 h x)) : ∃ p, (0 ≤ p ∧ p < n) ∧ edd t (fL 168 h p) ∧ (∀ x, 0 ≤ x → x < p → ¬ edd t (fL 168 h x)) ∧ dF d 216 [dR 1 11 165, dI t] h = rV (st4 (dn4 (si h 165 5 (n - 1)) 168 p (n - 1)) 168 (n - 1) (gi h 168 p) (gi h 169 p) (gi h 170 p) (gi h 171 p)) := by
  obtain ⟨x, x0, x1, x2⟩ := hex
  have loop : ∀ (m : Nat) (y : Int), 0 ≤ y → y + m = x → (∀ z, 0 ≤ z → z < y → ¬ edd t (fL 168 h z)) → ∃ p, (0 ≤ p ∧ p < n) ∧ edd t (fL 168 h p) ∧ (∀ x, 0 ≤ x → x < p → ¬ edd t (fL 168 h x)) ∧ dL (d - 1) 216 2 [lR 1 11 165, lI t, lI y, none, none, none, none] [] h = rV (st4 (dn4 (si h 165 5 (n - 1)) 168 p (n - 1)) 168 (n - 1) (gi h 168 p) (gi h 169 p) (gi h 170 p) (gi h 171 p)) := by
    intro m
    have found : ∀ y, 0 ≤ y → y < n → edd t (fL 168 h y) → dL (d - 1) 216 2 [lR 1 11 165, lI t, lI y, none, none, none, none] [] h = rV (st4 (dn4 (si h 165 5 (n - 1)) 168 y (n - 1)) 168 (n - 1) (gi h 168 y) (gi h 169 y) (gi h 170 y) (gi h 171 y)) := by
      intro y y0 y1 ⟨q1, q2⟩
      have q1 : gi h 171 y ≠ -1 := q1
      have q2 : gi h 171 y ≤ t := q2
      have e5 : gi (dn4 (si h 165 5 (n - 1)) 168 y (n - 1)) 165 5 = n - 1 := by rw [gi_dn4, if_neg (by omega), gi_sis]
      rw [b216_2, ix_p y0 (by omega), if_neg q1, ix_p y0 (by omega), if_neg (by omega), ix_p y0 (by omega), ix_p y0 (by omega), ix_p y0 (by omega), ix_p y0 (by omega), s211 (by omega) en ⟨y0, y1⟩ hn, bk_n, b216_64, e5]
      have a1 : ∀ v, gi (si (dn4 (si h 165 5 (n - 1)) 168 y (n - 1)) 168 (n - 1) v) 165 5 = n - 1 := fun v => by rw [gi_sin (by decide), e5]
      have a2 : ∀ v w, gi (si (si (dn4 (si h 165 5 (n - 1)) 168 y (n - 1)) 168 (n - 1) v) 169 (n - 1) w) 165 5 = n - 1 := fun v w => by rw [gi_sin (by decide), a1]
      have a3 : ∀ v w u, gi (si (si (si (dn4 (si h 165 5 (n - 1)) 168 y (n - 1)) 168 (n - 1) v) 169 (n - 1) w) 170 (n - 1) u) 165 5 = n - 1 := fun v w u => by rw [gi_sin (by decide), a2]
      rw [ix_p (by omega) (by omega), a1, ix_p (by omega) (by omega), a2, ix_p (by omega) (by omega), a3, ix_p (by omega) (by omega)]
      rfl
    induction m with
    | zero =>
      intro y y0 ym hno
      have : y = x := by omega
      subst this
      exact ⟨y, ⟨y0, x1⟩, x2, hno, found y y0 x1 x2⟩
    | succ m ih =>
      intro y y0 ym hno
      by_cases z : edd t (fL 168 h y)
      · exact ⟨y, ⟨y0, by omega⟩, z, hno, found y y0 (by omega) z⟩
      · have hgo : dL (d - 1) 216 2 [lR 1 11 165, lI t, lI y, none, none, none, none] [] h = dL (d - 1) 216 2 [lR 1 11 165, lI t, lI (y + 1), none, none, none, none] [] h := by
          rw [b216_2, ix_p y0 (by omega), b216_22, ck_p (by omega) (by omega)]
          by_cases q1 : gi h 171 y = -1
          · rw [if_pos q1]
          · rw [if_neg q1, ix_p y0 (by omega), if_pos]
            have : ¬ (gi h 171 y ≠ -1 ∧ gi h 171 y ≤ t) := z
            omega
        rw [hgo]
        refine ih (y + 1) (by omega) (by omega) (fun w w0 w1 => ?_)
        by_cases e : w = y
        · rw [e]; exact z
        · exact hno w w0 (by omega)
  rw [f216 (by omega), b216_0]
  exact loop x.toNat 0 (by omega) (by omega) (fun z z0 z1 => by omega)
end RF
