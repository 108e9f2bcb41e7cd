/-! THE REFERENCE LOOKS FOR A REPAIR -/
section RPR
variable {h H : dm_H} {π : Int → Int}
/-- what is held while it looks -/
def RQ (h H : dm_H) : Prop := frX h H ∧ eqW (rW h) (aW H) ∧ gi H 165 44 = 1 ∧ gi H 165 0 = gi h 165 0 ∧ H.2.2 = h.2.2
theorem RQ_n (I : IN0 π h) (q : RQ h H) : gi H 165 5 = gi h 8 0 := by
  have hQ : gr h 1 9 = 95 ∨ gr h 1 9 = 112 := I.2.2.2.2.2.2.2.2.2.1.2.1
  rw [q.1.1 165 5 (by omega) (by omega) (by omega) (by omega) (by omega) (by omega)]
  exact I.2.2.2.2.2.2.2.2.1.2.2.1
theorem RQ_si {i x : Int} (hi : 45 ≤ i) (q : RQ h H) : RQ h (si H 165 i x) := by
  obtain ⟨q1, q2, q3, q4, q5⟩ := q
  exact ⟨frX_trans q1 (frX_i (by omega)), eqW_trans q2 (aW_same (fun a i q => gi_sin (by omega))), by rw [gi_sij (by omega)]; exact q3, by rw [gi_sij (by omega)]; exact q4, q5⟩
theorem RQ_try {d : Nat} (hd : 13 ≤ d) (I : IN0 π h) (q : RQ h H) (g1 g2 : Int) : ∃ b H', dF d 273 [dR 1 11 165, dI g1, dI g2] H = rI b H' ∧ RQ h H' ∧ (b = 0 ∨ b = 1) ∧ (b = 1 ↔ fine h g1 g2) ∧ ∀ i, 44 ≤ i → gi H' 165 i = gi H 165 i := by
  obtain ⟨q1, q2, q3, q4, q5⟩ := q
  obtain ⟨b, H', x1, x2, x3, x4, x5, x6, x7, x8⟩ := s273 hd I q1 q2 g1 g2
  exact ⟨b, H', x1, ⟨x2, x3, by rw [x8 44 (by omega)]; exact q3, by rw [x6]; exact q4, by rw [x7]; exact q5⟩, x4, x5, x8⟩
theorem fine_1 {k : Int} (hk : 0 ≤ k) : fine h k (-1) ↔ fine h k k := hasQ_1 hk
/-- single facts -/
theorem s272_1 {d : Nat} (hd : 14 ≤ d) (I : IN0 π h) (w2 w3 : Option dm_V) : ∀ (m : Nat) (x : Int) (H : dm_H), 0 ≤ x → x + m = gi h 8 0 → RQ h H → gi H 165 45 = -1 → (∀ j, 0 ≤ j → j < x → ¬ fine h j j) → ∃ H', dL (d - 1) 272 37 [lR 1 11 165, lI x, w2, w3] [] H = dL (d - 1) 272 80 [lR 1 11 165, lI 0, w2, w3] [] H' ∧ RQ h H' ∧ ((gi H' 165 45 = 1 ∧ (0 ≤ gi H' 165 46 ∧ gi H' 165 46 < gi h 8 0) ∧ fine h (gi H' 165 46) (gi H' 165 46) ∧ ∀ j, 0 ≤ j → j < gi H' 165 46 → ¬ fine h j j) ∨ (gi H' 165 45 = -1 ∧ ∀ j, 0 ≤ j → j < gi h 8 0 → ¬ fine h j j)) := by
  have n24 := I.2.2.2.2.2.2.2.2.1.1.1
  intro m
  induction m with
  | zero =>
    intro x H x0 xm q e no
    refine ⟨H, ?_, q, Or.inr ⟨e, fun j j0 j1 => no j j0 (by omega)⟩⟩
    rw [b272_37, RQ_n I q, if_neg (by omega), b272_78]
  | succ m ih =>
    intro x H x0 xm q e no
    obtain ⟨b, H', x1, x2, x3, x4, x5⟩ := RQ_try (d := d - 1) (by omega) I q x (-1)
    rw [fine_1 x0] at x4
    rw [b272_37, RQ_n I q, if_pos (by omega), if_pos e, x1, bk_v, b272_59]
    rcases x3 with rfl | rfl
    · rw [if_pos rfl, b272_72, ck_p (by omega) (by omega)]
      refine ih (x + 1) H' (by omega) (by omega) x2 (by rw [x5 45 (by omega)]; exact e) (fun j j0 j1 => ?_)
      by_cases w : j = x
      · subst w; exact fun z => by have := x4.mpr z; omega
      · exact no j j0 (by omega)
    · rw [if_neg (by decide), b272_72, ck_p (by omega) (by omega)]
      have q2 : RQ h (si (si H' 165 45 1) 165 46 x) := RQ_si (by omega) (RQ_si (by omega) x2)
      have e45 : gi (si (si H' 165 45 1) 165 46 x) 165 45 = 1 := by rw [gi_sij (by decide), gi_sis]
      have e46 : gi (si (si H' 165 45 1) 165 46 x) 165 46 = x := gi_sis
      refine ⟨_, ?_, q2, Or.inl ⟨e45, by rw [e46]; omega, by rw [e46]; exact x4.mp rfl, by rw [e46]; exact no⟩⟩
      rw [b272_37, RQ_n I q2, e45]
      by_cases w : x + 1 < gi h 8 0
      · rw [if_pos w, if_neg (by decide), b272_78]
      · rw [if_neg w, b272_78]
theorem lex {n a b i j : Int} (hb : 0 ≤ b ∧ b < n) (hj : 0 ≤ j ∧ j < n) : i * n + j < a * n + b ↔ i < a ∨ (i = a ∧ j < b) := by
  constructor
  · intro q
    rcases Int.lt_trichotomy i a with w | w | w
    · exact Or.inl w
    · subst w; exact Or.inr ⟨rfl, by omega⟩
    · have : (a + 1) * n ≤ i * n := Int.mul_le_mul_of_nonneg_right (by omega) (by omega)
      rw [Int.add_mul] at this
      omega
  · rintro (w | ⟨rfl, w⟩)
    · have : (i + 1) * n ≤ a * n := Int.mul_le_mul_of_nonneg_right (by omega) (by omega)
      rw [Int.add_mul] at this
      omega
    · omega
/-- pairs -/
theorem s272_2 {d : Nat} (hd : 14 ≤ d) (I : IN0 π h) : ∀ (m : Nat) (x : Int) (H : dm_H) (w2 w3 : Option dm_V), 0 ≤ x → x + m = gi h 8 0 * gi h 8 0 → RQ h H → gi H 165 45 = -1 → (∀ i j, 0 ≤ i → i < j → j < gi h 8 0 → i * gi h 8 0 + j < x → ¬ fine h i j) → ∃ H' y1 y2 y3, dL (d - 1) 272 80 [lR 1 11 165, lI x, w2, w3] [] H = dL (d - 1) 272 150 [lR 1 11 165, y1, y2, y3] [] H' ∧ RQ h H' ∧ ((gi H' 165 45 = 2 ∧ (0 ≤ gi H' 165 46 ∧ gi H' 165 46 < gi H' 165 47 ∧ gi H' 165 47 < gi h 8 0) ∧ fine h (gi H' 165 46) (gi H' 165 47) ∧ ∀ i j, 0 ≤ i → i < j → j < gi h 8 0 → (i < gi H' 165 46 ∨ (i = gi H' 165 46 ∧ j < gi H' 165 47)) → ¬ fine h i j) ∨ (gi H' 165 45 = -1 ∧ ∀ i j, 0 ≤ i → i < j → j < gi h 8 0 → ¬ fine h i j)) := by
  have n24 := I.2.2.2.2.2.2.2.2.1.1.1
  obtain ⟨n, en⟩ : ∃ n, gi h 8 0 = n := ⟨_, rfl⟩
  rw [en] at n24
  have nn : 0 ≤ n * n ∧ n * n ≤ 576 := ⟨Int.mul_nonneg n24.1 n24.1, Int.mul_le_mul n24.2 n24.2 n24.1 (by omega)⟩
  rw [en]
  intro m
  induction m with
  | zero =>
    intro x H w2 w3 x0 xm q e no
    refine ⟨H, lI x, w2, w3, ?_, q, Or.inr ⟨e, fun i j i0 ij j1 => no i j i0 ij j1 ?_⟩⟩
    · rw [b272_80, RQ_n I q, en, ck_p (by omega) (by omega), if_neg (by omega)]
    · have : (i + 1) * n ≤ n * n := Int.mul_le_mul_of_nonneg_right (by omega) (by omega)
      rw [Int.add_mul] at this
      omega
  | succ m ih =>
    intro x H w2 w3 x0 xm q e no
    have n1 : 0 < n := by
      rcases Int.lt_or_le 0 n with w | w
      · exact w
      · have : n = 0 := by omega
        rw [this] at xm
        omega
    obtain ⟨a, ea⟩ : ∃ a, x / n = a := ⟨_, rfl⟩
    obtain ⟨b, eb⟩ : ∃ b, x % n = b := ⟨_, rfl⟩
    have ex : a * n + b = x := by rw [← ea, ← eb, Int.mul_comm]; exact Int.mul_ediv_add_emod x n
    have hb : 0 ≤ b ∧ b < n := by rw [← eb]; exact ⟨Int.emod_nonneg _ (by omega), Int.emod_lt_of_pos _ n1⟩
    have ha : 0 ≤ a := by rw [← ea]; exact Int.ediv_nonneg x0 (by omega)
    have on : ∀ (H2 : dm_H) (y2 y3 : Option dm_V), RQ h H2 → gi H2 165 45 = -1 → (a < b → ¬ fine h a b) → ∃ H' y1' y2' y3', dL (d - 1) 272 144 [lR 1 11 165, lI x, y2, y3] [] H2 = dL (d - 1) 272 150 [lR 1 11 165, y1', y2', y3'] [] H' ∧ RQ h H' ∧ ((gi H' 165 45 = 2 ∧ (0 ≤ gi H' 165 46 ∧ gi H' 165 46 < gi H' 165 47 ∧ gi H' 165 47 < n) ∧ fine h (gi H' 165 46) (gi H' 165 47) ∧ ∀ i j, 0 ≤ i → i < j → j < n → (i < gi H' 165 46 ∨ (i = gi H' 165 46 ∧ j < gi H' 165 47)) → ¬ fine h i j) ∨ (gi H' 165 45 = -1 ∧ ∀ i j, 0 ≤ i → i < j → j < n → ¬ fine h i j)) := by
      intro H2 y2 y3 q2 e2 no2
      rw [b272_144, ck_p (by omega) (by omega)]
      refine ih (x + 1) H2 y2 y3 (by omega) (by omega) q2 e2 (fun i j i0 ij j1 o => ?_)
      by_cases w : i * n + j < x
      · exact no i j i0 ij j1 w
      · have w1 : ¬ i * n + j < a * n + b := by rw [ex]; exact w
        rw [lex hb ⟨by omega, j1⟩] at w1
        have w2 : ¬ a * n + b < i * n + j := by omega
        rw [lex ⟨by omega, j1⟩ hb] at w2
        have : i = a ∧ j = b := by omega
        rw [this.1, this.2]
        exact no2 (by omega)
    rw [b272_80, RQ_n I q, en, ck_p (by omega) (by omega), if_pos (by omega), if_pos e, if_pos ⟨x0, n1⟩, if_pos ⟨x0, n1⟩, ea, eb]
    by_cases hab : a < b
    case neg =>
      rw [if_neg hab]
      exact on H _ _ q e (fun z => absurd z hab)
    rw [if_pos hab]
    obtain ⟨v, H', x1, x2, x3, x4, x5⟩ := RQ_try (d := d - 1) (by omega) I q a b
    rw [x1, bk_v, b272_126]
    rcases x3 with rfl | rfl
    · rw [if_pos rfl]
      exact on H' _ _ x2 (by rw [x5 45 (by omega)]; exact e) (fun _ z => by have := x4.mpr z; omega)
    · rw [if_neg (by decide), b272_144, ck_p (by omega) (by omega)]
      have q2 : RQ h (si (si (si H' 165 45 2) 165 46 a) 165 47 b) := RQ_si (by omega) (RQ_si (by omega) (RQ_si (by omega) x2))
      have e45 : gi (si (si (si H' 165 45 2) 165 46 a) 165 47 b) 165 45 = 2 := by rw [gi_sij (by decide), gi_sij (by decide), gi_sis]
      have e46 : gi (si (si (si H' 165 45 2) 165 46 a) 165 47 b) 165 46 = a := by rw [gi_sij (by decide), gi_sis]
      have e47 : gi (si (si (si H' 165 45 2) 165 46 a) 165 47 b) 165 47 = b := gi_sis
      refine ⟨_, lI (x + 1), lI a, lI b, ?_, q2, Or.inl ⟨e45, by rw [e46, e47]; omega, by rw [e46, e47]; exact x4.mp rfl, ?_⟩⟩
      · rw [b272_80, RQ_n I q2, en, ck_p (by omega) (by omega), e45]
        by_cases w : x + 1 < n * n
        · rw [if_pos w, if_neg (by decide)]
        · rw [if_neg w]
      · rw [e46, e47]
        intro i j i0 ij j1 o
        exact no i j i0 ij j1 (by rw [← ex]; exact (lex hb ⟨by omega, j1⟩).mpr o)
/-- no facts given up: what follows is what there is -/
theorem fine_0 (I : IN0 π h) : fine h (-1) (-1) ↔ ¬ brk h (cW h (gr h 1 8)) := by
  have g0 : gds (cK h) (gi h 4) (gi h 7) (ftC h (gi h 1 12) (-1) (-1)) (RLc h) 12 (cW h (gr h 1 8)) := I.2.2.2.2.2.2.2.2.2.2.2.2.2.2.2
  obtain ⟨-, q⟩ := hasQ_run I (fine_set I) (g1 := -1) (g2 := -1) (b := 1) (ω := cW h (gr h 1 8)) (Or.inl ⟨rfl, g0⟩)
  unfold fine
  rw [q]
  exact ⟨fun z => z.2, fun z => ⟨rfl, z⟩⟩
/-- the reference finds a repair -/
theorem s272 {d : Nat} (hd : 14 ≤ d) (I : IN0 π h) (F0 : gi h 165 44 = 0) : ∃ H', dF d 272 [dR 1 11 165] h = rV H' ∧ IN0 π H' ∧ H'.2.2 = h.2.2 ∧ gi H' 165 44 = 1 ∧ gi H' 165 0 = gi h 165 0 ∧ RPx h (gi H' 165 45) (gi H' 165 46) (gi H' 165 47) ∧ (gr H' 1 8 = gr h 1 8 ∧ RLc H' = RLc h ∧ (∀ a i, (gr h 1 8 + 1 ≤ a ∧ a ≤ gr h 1 8 + 16) ∨ (3 ≤ a ∧ a ≤ 5) ∨ (8 ≤ a ∧ a ≤ 12) ∨ (144 ≤ a ∧ a ≤ 164) → gi H' a i = gi h a i) ∧ ∀ i, 15 ≤ i → gi H' 1 i = gi h 1 i) ∧ gi H' 1 12 = gi h 1 12 ∧ gi H' 13 3 = gi h 13 3 := by
  have n24 := I.2.2.2.2.2.2.2.2.1.1.1
  have F := I.2.2.2.2.2.2.2.2.1
  obtain ⟨H0, eH0⟩ : ∃ H0, H0 = si h 165 44 1 := ⟨_, rfl⟩
  have f0 : frX h H0 := by rw [eH0]; exact frX_i (by omega)
  have E0 : eqW (rW h) (rW H0) := rW_same (fun i => by rw [eH0, gi_sin (by decide)]) (fun i => by rw [eH0, gi_sin (by decide)])
  obtain ⟨H1, x1, x2, x3, x4, x5⟩ := aside_r (d := d - 1) (by omega) I f0 E0
  have q1 : RQ h H1 := ⟨frX_trans f0 x3, x5, by rw [x2 _ _ (by omega) (by omega), eH0, gi_sis], by rw [x2 _ _ (by omega) (by omega), eH0, gi_sij (by decide)], by rw [x4, eH0]; rfl⟩
  obtain ⟨b, H2, y1, y2, y3, y4, y5⟩ := RQ_try (d := d - 1) (by omega) I q1 (-1) (-1)
  rw [fine_0 I] at y4
  -- from behind the pairs on
  have fin : ∀ (H3 : dm_H) (w1 w2 w3 : Option dm_V), RQ h H3 → RPx h (gi H3 165 45) (gi H3 165 46) (gi H3 165 47) → dF d 272 [dR 1 11 165] h = dL (d - 1) 272 150 [lR 1 11 165, w1, w2, w3] [] H3 → ∃ H', dF d 272 [dR 1 11 165] h = rV H' ∧ IN0 π H' ∧ H'.2.2 = h.2.2 ∧ gi H' 165 44 = 1 ∧ gi H' 165 0 = gi h 165 0 ∧ RPx h (gi H' 165 45) (gi H' 165 46) (gi H' 165 47) ∧ (gr H' 1 8 = gr h 1 8 ∧ RLc H' = RLc h ∧ (∀ a i, (gr h 1 8 + 1 ≤ a ∧ a ≤ gr h 1 8 + 16) ∨ (3 ≤ a ∧ a ≤ 5) ∨ (8 ≤ a ∧ a ≤ 12) ∨ (144 ≤ a ∧ a ≤ 164) → gi H' a i = gi h a i) ∧ ∀ i, 15 ≤ i → gi H' 1 i = gi h 1 i) ∧ gi H' 1 12 = gi h 1 12 ∧ gi H' 13 3 = gi h 13 3 := by
    intro H3 w1 w2 w3 q r c
    obtain ⟨H', z1, z2, z3, z4, z5, z6, z7⟩ := back_r (d := d - 1) (by omega) I q.1 q.2.1
    have s := frX_IN I z2 z5 z6 z4
    have e : ∀ i, i = 0 ∨ 44 ≤ i → gi H' 165 i = gi H3 165 i := fun i hi => z7 _ _ (by omega) (by omega)
    refine ⟨H', ?_, s.1, by rw [z3]; exact q.2.2.2.2, by rw [e 44 (by omega)]; exact q.2.2.1, by rw [e 0 (by omega)]; exact q.2.2.2.1, by rw [e 45 (by omega), e 46 (by omega), e 47 (by omega)]; exact r, s.2, z2.1 _ _ (by have hq : gr h 1 9 = 95 ∨ gr h 1 9 = 112 := I.2.2.2.2.2.2.2.2.2.1.2.1; omega) (by have hq : gr h 1 9 = 95 ∨ gr h 1 9 = 112 := I.2.2.2.2.2.2.2.2.2.1.2.1; omega) (by have hq : gr h 1 9 = 95 ∨ gr h 1 9 = 112 := I.2.2.2.2.2.2.2.2.2.1.2.1; omega) (by have hq : gr h 1 9 = 95 ∨ gr h 1 9 = 112 := I.2.2.2.2.2.2.2.2.2.1.2.1; omega) (by have hq : gr h 1 9 = 95 ∨ gr h 1 9 = 112 := I.2.2.2.2.2.2.2.2.2.1.2.1; omega) (by have hq : gr h 1 9 = 95 ∨ gr h 1 9 = 112 := I.2.2.2.2.2.2.2.2.2.1.2.1; omega) , z2.1 _ _ (by have hq : gr h 1 9 = 95 ∨ gr h 1 9 = 112 := I.2.2.2.2.2.2.2.2.2.1.2.1; omega) (by have hq : gr h 1 9 = 95 ∨ gr h 1 9 = 112 := I.2.2.2.2.2.2.2.2.2.1.2.1; omega) (by have hq : gr h 1 9 = 95 ∨ gr h 1 9 = 112 := I.2.2.2.2.2.2.2.2.2.1.2.1; omega) (by have hq : gr h 1 9 = 95 ∨ gr h 1 9 = 112 := I.2.2.2.2.2.2.2.2.2.1.2.1; omega) (by have hq : gr h 1 9 = 95 ∨ gr h 1 9 = 112 := I.2.2.2.2.2.2.2.2.2.1.2.1; omega) (by have hq : gr h 1 9 = 95 ∨ gr h 1 9 = 112 := I.2.2.2.2.2.2.2.2.2.1.2.1; omega) ⟩
    rw [c, b272_150, z1, bk_n, b272_154]
  have c0 : dF d 272 [dR 1 11 165] h = dL (d - 1) 272 24 [lR 1 11 165, none, none, none] [dI b, dR 1 11 165] H2 := by
    rw [f272 (by omega), b272_0, if_pos F0, ← eH0, x1, bk_n, b272_17, y1, bk_v]
  have nn : 0 ≤ gi h 8 0 * gi h 8 0 ∧ gi h 8 0 * gi h 8 0 ≤ 576 := ⟨Int.mul_nonneg n24.1 n24.1, Int.mul_le_mul n24.2 n24.2 n24.1 (by omega)⟩
  have skip : ∀ (H3 : dm_H) (w2 w3 : Option dm_V), RQ h H3 → gi H3 165 45 ≠ -1 → dL (d - 1) 272 80 [lR 1 11 165, lI 0, w2, w3] [] H3 = dL (d - 1) 272 150 [lR 1 11 165, lI 0, w2, w3] [] H3 := by
    intro H3 w2 w3 q e
    rw [b272_80, RQ_n I q, ck_p (by omega) (by omega)]
    by_cases w : 0 < gi h 8 0 * gi h 8 0
    · rw [if_pos w, if_neg e]
    · rw [if_neg w]
  rcases y3 with rfl | rfl
  · -- something is broken
    have br : brk h (cW h (gr h 1 8)) := Classical.byContradiction (fun z => by have := y4.mpr z; omega)
    have q2 : RQ h (si H2 165 45 (-1)) := RQ_si (by omega) y2
    rw [b272_24, if_pos rfl, b272_32] at c0
    obtain ⟨H3, z1, z2, z3⟩ := s272_1 (d := d) hd I none none (gi h 8 0).toNat 0 (si H2 165 45 (-1)) (by omega) (by omega) q2 gi_sis (fun j j0 j1 => by omega)
    rw [z1] at c0
    rcases z3 with ⟨u1, u2, u3, u4⟩ | ⟨u1, u2⟩
    · rw [skip H3 _ _ z2 (by omega)] at c0
      exact fin H3 _ _ _ z2 (by rw [u1]; exact Or.inr (Or.inl ⟨rfl, br, u2, u3, u4⟩)) c0
    · obtain ⟨H4, v1, v2, v3, t1, t2, t3⟩ := s272_2 (d := d) hd I (gi h 8 0 * gi h 8 0).toNat 0 H3 none none (by omega) (by omega) z2 u1 (fun i j i0 ij j1 o => by
        have := Int.mul_nonneg i0 n24.1
        omega)
      rw [t1] at c0
      rcases t3 with ⟨p1, p2, p3, p4⟩ | ⟨p1, p2⟩
      · exact fin H4 _ _ _ t2 (by rw [p1]; exact Or.inr (Or.inr (Or.inl ⟨rfl, br, u2, p2, p3, p4⟩))) c0
      · exact fin H4 _ _ _ t2 (by rw [p1]; exact Or.inr (Or.inr (Or.inr ⟨rfl, br, u2, p2⟩))) c0
  · have nb := y4.mp rfl
    have q2 : RQ h (si H2 165 45 0) := RQ_si (by omega) y2
    rw [b272_24, if_neg (by decide), b272_32] at c0
    have e37 : dL (d - 1) 272 37 [lR 1 11 165, lI 0, none, none] [] (si H2 165 45 0) = dL (d - 1) 272 80 [lR 1 11 165, lI 0, none, none] [] (si H2 165 45 0) := by
      rw [b272_37, RQ_n I q2]
      by_cases w : 0 < gi h 8 0
      · rw [if_pos w, gi_sis, if_neg (by decide), b272_78]
      · rw [if_neg w, b272_78]
    rw [e37, skip _ _ _ q2 (by rw [gi_sis]; decide)] at c0
    exact fin _ _ _ _ q2 (by rw [gi_sis]; exact Or.inl ⟨rfl, nb⟩) c0
end RPR
