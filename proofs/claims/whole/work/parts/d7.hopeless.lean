/-! WHICH FACTS BEAR ON IT; the class's short cuts -/
section HPL
variable {h H : dm_H} {π : Int → Int}
def nvP (h : dm_H) (j k q : Int) : Prop := ∃ i, (0 ≤ i ∧ i < gi h 13 1) ∧ gi h (gr h 14 i) 1 = 3 ∧ ∃ l, (0 ≤ l ∧ l < gi h (gr h 14 i) 4) ∧ (i < j ∨ (i = j ∧ l < k)) ∧ (gi h (gr h 14 i + 2) l = 0 ∨ gi h (gr h 14 i + 2) l = 1) ∧ rch6 h (gi h (gr h 14 i + 3) l) q
theorem s56 {d : Nat} (hd : 2 ≤ d) (I : IN0 π h) (f : fpx h H) : ∃ b, dF d 56 [dR 1 9 13] H = rI b H ∧ st 6 b ∧ ∀ q, 0 ≤ q → q < 6 → (bt b q = true ↔ nvr h q) := by
  have hQ : gr h 1 9 = 95 ∨ gr h 1 9 = 112 := I.2.2.2.2.2.2.2.2.2.1.2.1
  have B := I.2.2.1
  have hn := B.1
  have h6 := I.1.1.1
  have lo : ∀ a i, a < 95 ∨ (129 ≤ a ∧ a ≤ 136) → gi H a i = gi h a i := fun a i ha => f.1 a i (by omega) (by omega) (by omega)
  have lr : ∀ j, gr H 14 j = gr h 14 j := fun j => f.2.1 _ _ (by omega)
  have inner : ∀ (x : Int), 0 ≤ x → x < gi h 13 1 → ∀ (m : Nat) (k s : Int), 0 ≤ k → k + m = gi h (gr h 14 x) 4 → st 6 s → (∀ q, 0 ≤ q → q < 6 → (bt s q = true ↔ nvP h x k q)) → ∃ s', dL (d - 1) 56 22 [lR 1 9 13, lI s, lI x, lR 1 8 (gr h 14 x), lI k] [] H = dL (d - 1) 56 4 [lR 1 9 13, lI s', lI (x + 1), lR 1 8 (gr h 14 x), lI (gi h (gr h 14 x) 4)] [] H ∧ st 6 s' ∧ ∀ q, 0 ≤ q → q < 6 → (bt s' q = true ↔ nvP h (x + 1) 0 q) := by
    intro x x0 x1
    have R := B.2.2.1 x x0 x1
    have hru := ru_r R.1
    obtain ⟨d1, d2, d3, d4, d5, d6, d7, d8, d9, d10, d11⟩ := R.2.1
    have eA : ∀ j, j ≤ 6 → ∀ i, gi H (gr h 14 x + j) i = gi h (gr h 14 x + j) i := fun j hj i => lo _ _ (by omega)
    have eA0 : ∀ i, gi H (gr h 14 x) i = gi h (gr h 14 x) i := fun i => lo _ _ (by omega)
    intro m
    induction m with
    | zero =>
      intro k s k0 km hs hb
      refine ⟨s, ?_, hs, fun q q0 q1 => ?_⟩
      · rw [b56_22, eA0, if_neg (by omega), ck_p (by omega) (by omega), show k = gi h (gr h 14 x) 4 by omega]
      · rw [hb q q0 q1]
        constructor
        · rintro ⟨i, hi, i3, l, hl, o, r⟩
          exact ⟨i, hi, i3, l, hl, by omega, r⟩
        · rintro ⟨i, hi, i3, l, hl, o, r⟩
          refine ⟨i, hi, i3, l, hl, ?_, r⟩
          by_cases w : i = x
          · subst w; right; exact ⟨rfl, by omega⟩
          · left; omega
    | succ m ih =>
      intro k s k0 km hs hb
      have on : ∀ s2, st 6 s2 → (∀ q, 0 ≤ q → q < 6 → (bt s2 q = true ↔ nvP h x (k + 1) q)) → ∃ s', dL (d - 1) 56 65 [lR 1 9 13, lI s2, lI x, lR 1 8 (gr h 14 x), lI k] [] H = dL (d - 1) 56 4 [lR 1 9 13, lI s', lI (x + 1), lR 1 8 (gr h 14 x), lI (gi h (gr h 14 x) 4)] [] H ∧ st 6 s' ∧ ∀ q, 0 ≤ q → q < 6 → (bt s' q = true ↔ nvP h (x + 1) 0 q) := by
        intro s2 h1 h2
        rw [b56_65, ck_p (by omega) (by omega)]
        exact ih (k + 1) s2 (by omega) (by omega) h1 h2
      have same : ¬ (gi h (gr h 14 x) 1 = 3 ∧ (gi h (gr h 14 x + 2) k = 0 ∨ gi h (gr h 14 x + 2) k = 1)) → ∀ q, 0 ≤ q → q < 6 → (bt s q = true ↔ nvP h x (k + 1) q) := by
        intro no q q0 q1
        rw [hb q q0 q1]
        constructor
        · rintro ⟨i, hi, i3, l, hl, o, r⟩
          exact ⟨i, hi, i3, l, hl, by omega, r⟩
        · rintro ⟨i, hi, i3, l, hl, o, r⟩
          refine ⟨i, hi, i3, l, hl, ?_, r⟩
          by_cases w : i = x ∧ l = k
          · obtain ⟨rfl, rfl⟩ := w
            exact absurd ⟨i3, r.1⟩ no
          · omega
      rw [b56_22, eA0, if_pos (by omega), eA0]
      by_cases j3 : gi h (gr h 14 x) 1 = 3
      case neg =>
        rw [if_neg j3]
        exact on s hs (same (fun z => j3 z.1))
      rw [if_pos j3, s39 (by omega) _ _ _ (by omega), bk_v, eA 2 (by omega), b56_45]
      by_cases ka : gi h (gr h 14 x + 2) k = 0 ∨ gi h (gr h 14 x + 2) k = 1
      case neg =>
        rw [bi_0 ka, if_pos rfl]
        exact on s hs (same (fun z => ka z.2))
      have hsub : 0 ≤ gi h (gr h 14 x + 3) k ∧ gi h (gr h 14 x + 3) k < 6 := by
        have ka' : (cR h (gr h 14 x)).1 k = 0 ∨ (cR h (gr h 14 x)).1 k = 1 := ka
        have e3 : (cR h (gr h 14 x)).2.1 k = gi h (gr h 14 x + 3) k := rfl
        rcases d7 k k0 (by omega) with z | z | z
        · have := z.2.1; omega
        · have z1 := z.1; omega
        · have z1 := z.1; omega
      obtain ⟨r1, r2⟩ := rch6_bt I hsub
      rw [bi_1 ka, if_neg (by decide), ix_p k0 (by omega), eA 3 (by omega), s57 (by omega) _ H hsub, bk_v, lo 6 _ (by omega), b56_63]
      refine on _ (st_or (by omega) hs r1) (fun q q0 q1 => ?_)
      rw [bt_or (by omega) hs r1, Bool.or_eq_true, hb q q0 q1, r2 q q0 q1]
      constructor
      · rintro (⟨i, hi, i3, l, hl, o, r⟩ | r)
        · exact ⟨i, hi, i3, l, hl, by omega, r⟩
        · exact ⟨x, ⟨x0, x1⟩, j3, k, ⟨k0, by omega⟩, Or.inr ⟨rfl, by omega⟩, ka, r⟩
      · rintro ⟨i, hi, i3, l, hl, o, r⟩
        by_cases w : i = x ∧ l = k
        · obtain ⟨rfl, rfl⟩ := w
          exact Or.inr r.2
        · exact Or.inl ⟨i, hi, i3, l, hl, by omega, r⟩
  have outer : ∀ (m : Nat) (x s : Int) (w3 w4 : Option dm_V), 0 ≤ x → x + m = gi h 13 1 → st 6 s → (∀ q, 0 ≤ q → q < 6 → (bt s q = true ↔ nvP h x 0 q)) → ∃ b, dL (d - 1) 56 4 [lR 1 9 13, lI s, lI x, w3, w4] [] H = rI b H ∧ st 6 b ∧ ∀ q, 0 ≤ q → q < 6 → (bt b q = true ↔ nvr h q) := by
    intro m
    induction m with
    | zero =>
      intro x s w3 w4 x0 xm hs hb
      refine ⟨s, ?_, hs, fun q q0 q1 => ?_⟩
      · rw [b56_4, lo 13 1 (by omega), if_neg (by omega)]
      · rw [hb q q0 q1]
        constructor
        · rintro ⟨i, hi, i3, l, hl, o, r⟩
          exact ⟨i, hi, i3, l, hl, r⟩
        · rintro ⟨i, hi, i3, l, hl, r⟩
          exact ⟨i, hi, i3, l, hl, Or.inl (by omega), r⟩
    | succ m ih =>
      intro x s w3 w4 x0 xm hs hb
      have R := B.2.2.1 x x0 (by omega)
      have hN := R.2.1.2.1
      obtain ⟨s', y1, y2, y3⟩ := inner x x0 (by omega) (gi h (gr h 14 x) 4).toNat 0 s (by omega) (by omega) hs hb
      rw [b56_4, lo 13 1 (by omega), if_pos (by omega), ix_p x0 (by omega), lr, y1]
      exact ih (x + 1) s' _ _ (by omega) (by omega) y2 y3
  rw [f56 (by omega), b56_0]
  exact outer (gi h 13 1).toNat 0 0 none none (by omega) (by omega) (st_z 6) (fun q q0 q1 => by
    rw [bt_z]
    refine ⟨fun z => (nomatch z), ?_⟩
    rintro ⟨i, hi, i3, l, hl, o, r⟩
    omega)
theorem s55 {d : Nat} (hd : 3 ≤ d) (I : IN0 π h) (f : fpx h H) {x y t : Int} (hx : 0 ≤ x ∧ x < gi h 8 0) (hy : 0 ≤ y ∧ y < gi h 8 0) (ht : st 24 t) : ∃ b, dF d 55 [dR 1 10 1, dI x, dI y, dI t] H = rI b H ∧ (b = 0 ∨ b = 1) ∧ (b = 1 ↔ (¬ nvr h (gi h 9 x) ∧ (¬ nvr h (gi h 9 y) ∨ bt t y = false)) ∨ (nvr h (gi h 9 x) ∧ ¬ nvr h (gi h 9 y) ∧ bt t x = false)) := by
  have hQ : gr h 1 9 = 95 ∨ gr h 1 9 = 112 := I.2.2.2.2.2.2.2.2.2.1.2.1
  have F := I.2.2.2.2.2.2.2.2.1
  have n24 := F.1.1
  have h6 := I.1.1.1
  have vx := (F.1.2 x hx.1 hx.2).1
  have vy := (F.1.2 y hy.1 hy.2).1
  obtain ⟨b, x1, x2, x3⟩ := s56 (d := d - 1) (by omega) I f
  have e9 : ∀ i, gi H 9 i = gi h 9 i := fun i => f.1 _ _ (by omega) (by omega) (by omega)
  have tx := bt_0 (k := 24) (by omega) ht (j := x) (by omega)
  have ty := bt_0 (k := 24) (by omega) ht (j := y) (by omega)
  have bx := bt_0 (k := 6) (by omega) x2 (j := gi h 9 x) (by omega)
  have by' := bt_0 (k := 6) (by omega) x2 (j := gi h 9 y) (by omega)
  have nx : bt b (gi h 9 x) = false ↔ ¬ nvr h (gi h 9 x) := by
    rw [← x3 _ vx.1 (by omega)]
    cases bt b (gi h 9 x) <;> simp
  have ny : bt b (gi h 9 y) = false ↔ ¬ nvr h (gi h 9 y) := by
    rw [← x3 _ vy.1 (by omega)]
    cases bt b (gi h 9 y) <;> simp
  rw [f55 (by omega), b55_0, x1, bk_v, b55_7, ix_p hx.1 (by omega), e9]
  by_cases zx : nvr h (gi h 9 x)
  · rw [if_neg (fun w => (nx.mp (bx.mp w)) zx), b55_31, ix_p hy.1 (by omega), e9]
    by_cases zy : nvr h (gi h 9 y)
    · rw [if_neg (fun w => (ny.mp (by'.mp w)) zy), b55_55, if_neg (by decide), if_neg (by decide), b55_98, b55_99, z1_p (Or.inl rfl)]
      refine ⟨0, rfl, Or.inl rfl, ⟨fun q => by omega, fun q => ?_⟩⟩
      rcases q with q | q
      · exact absurd zx q.1
      · exact absurd zy q.2.1
    · rw [if_pos (by'.mpr (ny.mpr zy)), b55_55, if_neg (by decide), if_pos rfl]
      by_cases w : bt t x = false
      · rw [if_pos (tx.mpr w), b55_99, z1_p (Or.inr rfl)]
        exact ⟨1, rfl, Or.inr rfl, ⟨fun _ => Or.inr ⟨zx, zy, w⟩, fun _ => rfl⟩⟩
      · rw [if_neg (fun u => w (tx.mp u)), b55_98, b55_99, z1_p (Or.inl rfl)]
        refine ⟨0, rfl, Or.inl rfl, ⟨fun q => by omega, fun q => ?_⟩⟩
        rcases q with q | q
        · exact absurd zx q.1
        · exact absurd q.2.2 w
  · rw [if_pos (bx.mpr (nx.mpr zx)), b55_31, ix_p hy.1 (by omega), e9]
    by_cases zy : nvr h (gi h 9 y)
    · rw [if_neg (fun w => (ny.mp (by'.mp w)) zy), b55_55, if_pos rfl, if_neg (by decide)]
      by_cases w : bt t y = false
      · rw [if_pos (ty.mpr w), b55_75, b55_80, z1_p (Or.inr rfl)]
        exact ⟨1, rfl, Or.inr rfl, ⟨fun _ => Or.inl ⟨zx, Or.inr w⟩, fun _ => rfl⟩⟩
      · rw [if_neg (fun u => w (ty.mp u)), b55_80, z1_p (Or.inl rfl)]
        refine ⟨0, rfl, Or.inl rfl, ⟨fun q => by omega, fun q => ?_⟩⟩
        rcases q with q | q
        · rcases q.2 with q2 | q2
          · exact absurd zy q2
          · exact absurd q2 w
        · exact absurd q.1 zx
    · rw [if_pos (by'.mpr (ny.mpr zy)), b55_55, if_pos rfl, if_pos rfl, b55_75, b55_80, z1_p (Or.inr rfl)]
      exact ⟨1, rfl, Or.inr rfl, ⟨fun _ => Or.inl ⟨zx, Or.inl zy⟩, fun _ => rfl⟩⟩
end HPL
