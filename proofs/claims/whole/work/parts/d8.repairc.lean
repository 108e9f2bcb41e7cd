/-! THE CLASS LOOKS FOR A REPAIR -/
section RPC
variable {h H : dm_H} {π : Int → Int}
/-- s facts are to be given up, a and b the first ones with which it is enough -/
def RPx (h : dm_H) (s a b : Int) : Prop :=
  (s = 0 ∧ ¬ brk h (cW h (gr h 1 8))) ∨
  (s = 1 ∧ brk h (cW h (gr h 1 8)) ∧ (0 ≤ a ∧ a < gi h 8 0) ∧ fine h a a ∧ ∀ x, 0 ≤ x → x < a → ¬ fine h x x) ∨
  (s = 2 ∧ brk h (cW h (gr h 1 8)) ∧ (∀ x, 0 ≤ x → x < gi h 8 0 → ¬ fine h x x) ∧ (0 ≤ a ∧ a < b ∧ b < gi h 8 0) ∧ fine h a b ∧ ∀ x y, 0 ≤ x → x < y → y < gi h 8 0 → (x < a ∨ (x = a ∧ y < b)) → ¬ fine h x y) ∨
  (s = -1 ∧ brk h (cW h (gr h 1 8)) ∧ (∀ x, 0 ≤ x → x < gi h 8 0 → ¬ fine h x x) ∧ ∀ x y, 0 ≤ x → x < y → y < gi h 8 0 → ¬ fine h x y)
theorem RPx_one {s a b s' a' b' : Int} (p : RPx h s a b) (q : RPx h s' a' b') : s = s' ∧ (1 ≤ s → a = a') ∧ (s = 2 → b = b') := by
  rcases p with ⟨p1, p2⟩ | ⟨p1, p2, p3, p4, p5⟩ | ⟨p1, p2, p3, p4, p5, p6⟩ | ⟨p1, p2, p3, p4⟩
  · rcases q with ⟨q1, q2⟩ | ⟨q1, q2, q3, q4, q5⟩ | ⟨q1, q2, q3, q4, q5, q6⟩ | ⟨q1, q2, q3, q4⟩
    · exact ⟨by omega, fun _ => by omega, fun _ => by omega⟩
    · exact absurd q2 p2
    · exact absurd q2 p2
    · exact absurd q2 p2
  · rcases q with ⟨q1, q2⟩ | ⟨q1, q2, q3, q4, q5⟩ | ⟨q1, q2, q3, q4, q5, q6⟩ | ⟨q1, q2, q3, q4⟩
    · exact absurd p2 q2
    · refine ⟨by omega, fun _ => ?_, fun _ => by omega⟩
      rcases Int.lt_trichotomy a a' with w | w | w
      · exact absurd p4 (q5 a p3.1 w)
      · exact w
      · exact absurd q4 (p5 a' q3.1 w)
    · exact absurd p4 (q3 a p3.1 p3.2)
    · exact absurd p4 (q3 a p3.1 p3.2)
  · rcases q with ⟨q1, q2⟩ | ⟨q1, q2, q3, q4, q5⟩ | ⟨q1, q2, q3, q4, q5, q6⟩ | ⟨q1, q2, q3, q4⟩
    · exact absurd p2 q2
    · exact absurd q4 (p3 a' q3.1 q3.2)
    · have : a = a' ∧ b = b' := by
        rcases Int.lt_trichotomy a a' with w | w | w
        · exact absurd p5 (q6 a b p4.1 p4.2.1 p4.2.2 (Or.inl w))
        · rcases Int.lt_trichotomy b b' with u | u | u
          · exact absurd p5 (q6 a b p4.1 p4.2.1 p4.2.2 (Or.inr ⟨w, u⟩))
          · exact ⟨w, u⟩
          · exact absurd q5 (p6 a' b' q4.1 q4.2.1 q4.2.2 (Or.inr ⟨w.symm, u⟩))
        · exact absurd q5 (p6 a' b' q4.1 q4.2.1 q4.2.2 (Or.inl w))
      exact ⟨by omega, fun _ => this.1, fun _ => this.2⟩
    · exact absurd p5 (q4 a b p4.1 p4.2.1 p4.2.2)
  · rcases q with ⟨q1, q2⟩ | ⟨q1, q2, q3, q4, q5⟩ | ⟨q1, q2, q3, q4, q5, q6⟩ | ⟨q1, q2, q3, q4⟩
    · exact absurd p2 q2
    · exact absurd q4 (p3 a' q3.1 q3.2)
    · exact absurd q5 (p4 a' b' q4.1 q4.2.1 q4.2.2)
    · exact ⟨by omega, fun _ => by omega, fun _ => by omega⟩
/-- what was too much without it -/
def TM (h : dm_H) (t n0 : Int) : Prop := st 24 t ∧ ∀ k, 0 ≤ k → k < n0 → nvr h (gi h 9 k) → bt t k = false → hasQ h k k (fun _ => True)
theorem setT : setQ h (fun _ => True) := fun _ _ _ _ _ _ => trivial
/-- one way is tried -/
theorem tryC {d : Nat} (hd : 12 ≤ d) (I : IN0 π h) (f : fpx h H) {sz x y e t : Int} (hx : 0 ≤ x ∧ x < gi h 8 0) (hy : 0 ≤ y ∧ y < gi h 8 0) (hye : y < e) (hs : sz = 1 ∨ sz = 2) (ht : st 24 t) (hop : (¬ nvr h (gi h 9 x) ∧ (¬ nvr h (gi h 9 y) ∨ bt t y = false)) ∨ (nvr h (gi h 9 x) ∧ ¬ nvr h (gi h 9 y) ∧ bt t x = false) → ¬ fine h x y) (w6 : Option dm_V) :
    (fine h x y ∧ ∃ H', dL (d - 1) 18 82 [lR 1 10 1, lI t, lI sz, lI x, lI e, lI y, w6] [] H = rV (si (si (si H' 1 17 sz) 164 0 x) 164 1 y) ∧ fpx h H') ∨
    (¬ fine h x y ∧ ∃ H' t' w6', dL (d - 1) 18 82 [lR 1 10 1, lI t, lI sz, lI x, lI e, lI y, w6] [] H = dL (d - 1) 18 82 [lR 1 10 1, lI t', lI sz, lI x, lI e, lI (y + 1), w6'] [] H' ∧ fpx h H' ∧ st 24 t' ∧ (∀ j, bt t' j = false → bt t j = false) ∧ (sz = 1 → x = y → nvr h (gi h 9 x) → bt t' x = false → hasQ h x x (fun _ => True))) := by
  have hQ : gr h 1 9 = 95 ∨ gr h 1 9 = 112 := I.2.2.2.2.2.2.2.2.2.1.2.1
  have n24 := I.2.2.2.2.2.2.2.2.1.1.1
  obtain ⟨b, x1, x2, x3⟩ := s55 (d := d - 1) (by omega) I f hx hy ht
  have e183 : ∀ (t' : Int) (H' : dm_H) (w6' : Option dm_V), dL (d - 1) 18 183 [lR 1 10 1, lI t', lI sz, lI x, lI e, lI y, w6'] [] H' = dL (d - 1) 18 82 [lR 1 10 1, lI t', lI sz, lI x, lI e, lI (y + 1), w6'] [] H' := fun t' H' w6' => by rw [b18_183, ck_p (by omega) (by omega)]
  have or0 : ∀ j, bt (dm_or t 0) j = bt t j := fun j => by rw [bt_or (k := 24) (by omega) ht (st_z 24), bt_z, Bool.or_false]
  rw [b18_82, if_pos hye, x1, bk_v, b18_97]
  by_cases hb : b = 0
  case neg =>
    have b1 : b = 1 := by omega
    rw [if_neg hb, e183]
    refine Or.inr ⟨hop (x3.mp b1), H, t, w6, rfl, f, ht, fun j q => q, fun q1 q2 q3 q4 => ?_⟩
    subst q2
    rcases x3.mp b1 with z | z
    · exact absurd q3 z.1
    · exact absurd q3 z.2.1
  rw [if_pos hb, f.2.1 1 9 (by omega), f.1 1 12 (by omega) (by omega) (by omega)]
  obtain ⟨b2, H', y1, y2, y3, y4⟩ := run_c (d := d - 1) (by omega) I f x y
  obtain ⟨q1, q2⟩ := hasQ_run I (fine_set I) y3
  obtain ⟨-, q3⟩ := hasQ_run I setT y3
  rw [y1, bk_v, b18_121]
  rcases q1 with rfl | rfl
  · rw [if_pos rfl, b18_163, if_pos rfl]
    have nf : ¬ fine h x y := fun w => by have := (q2.mp w).1; omega
    rcases hs with rfl | rfl
    · have s2 : st 24 (dm_shl 1 x) := st_shl (k := 24) (by omega) (i := x) (by omega)
      rw [if_pos rfl, b18_181, e183]
      refine Or.inr ⟨nf, H', _, _, rfl, y2, st_or (by omega) ht s2, fun j q => ?_, fun _ _ _ q => ?_⟩
      · rw [bt_or (k := 24) (by omega) ht s2] at q
        cases hj : bt t j with
        | false => rfl
        | true => rw [hj] at q; simp at q
      · rw [bt_or (k := 24) (by omega) ht s2, bt_shl (by omega) (by omega)] at q
        simp at q
    · rw [if_neg (by decide), b18_180, b18_181, e183]
      exact Or.inr ⟨nf, H', _, _, rfl, y2, st_or (by omega) ht (st_z 24), fun j q => by rw [or0] at q; exact q, fun q => by omega⟩
  · have V : VW (cK h) (gi h 4) (cW H' (gr h 1 9)) := by
      rcases y3 with ⟨_, g⟩ | ⟨w, _⟩
      · exact g.1
      · omega
    obtain ⟨b3, H2, z1, z2, z3, z4⟩ := s19 (d := d - 1) (by omega) I y2 (P := gr h 1 9) hQ V (y4 rfl)
    have f2 : fpx h H2 := fpx_trans y2 (fpx_J z2)
    rw [if_neg (by decide), y2.2.1 1 9 (by omega), z1, bk_v, b18_139]
    rcases z3 with rfl | rfl
    · rw [if_pos rfl, ix_p (by omega) (by omega), ix_p (by omega) (by omega)]
      exact Or.inl ⟨q2.mpr ⟨rfl, fun w => by have := z4.mpr w; omega⟩, H2, rfl, f2⟩
    · rw [if_neg (by decide), b18_163, if_neg (by decide), b18_180, b18_181, e183]
      refine Or.inr ⟨fun w => (q2.mp w).2 (z4.mp rfl), H2, _, _, rfl, f2, st_or (by omega) ht (st_z 24), fun j q => by rw [or0] at q; exact q, fun _ q _ _ => ?_⟩
      subst q
      exact q3.mpr ⟨rfl, trivial⟩
/-- single facts -/
theorem s18_1 {d : Nat} (hd : 12 ≤ d) (I : IN0 π h) (br : brk h (cW h (gr h 1 8))) : ∀ (m : Nat) (x t : Int) (H : dm_H) (w4 w5 w6 : Option dm_V), 0 ≤ x → x + m = gi h 8 0 → fpx h H → TM h t x → (∀ j, 0 ≤ j → j < x → ¬ fine h j j) →
    (∃ a, (0 ≤ a ∧ a < gi h 8 0) ∧ fine h a a ∧ (∀ j, 0 ≤ j → j < a → ¬ fine h j j) ∧ ∃ H', dL (d - 1) 18 44 [lR 1 10 1, lI t, lI 1, lI x, w4, w5, w6] [] H = rV (si (si (si H' 1 17 1) 164 0 a) 164 1 a) ∧ fpx h H') ∨
    ((∀ j, 0 ≤ j → j < gi h 8 0 → ¬ fine h j j) ∧ ∃ t' H' y4 y5 y6, dL (d - 1) 18 44 [lR 1 10 1, lI t, lI 1, lI x, w4, w5, w6] [] H = dL (d - 1) 18 37 [lR 1 10 1, lI t', lI 2, lI (gi h 8 0), y4, y5, y6] [] H' ∧ fpx h H' ∧ TM h t' (gi h 8 0)) := by
  have hQ : gr h 1 9 = 95 ∨ gr h 1 9 = 112 := I.2.2.2.2.2.2.2.2.2.1.2.1
  have n24 := I.2.2.2.2.2.2.2.2.1.1.1
  have g0 : gds (cK h) (gi h 4) (gi h 7) (ftC h (gi h 1 12) (-1) (-1)) (RLc h) 12 (cW h (gr h 1 8)) := I.2.2.2.2.2.2.2.2.2.2.2.2.2.2.2
  intro m
  induction m with
  | zero =>
    intro x t H w4 w5 w6 x0 xm f T no
    right
    refine ⟨fun j j0 j1 => no j j0 (by omega), t, H, w4, w5, w6, ?_, f, by rw [show gi h 8 0 = x by omega]; exact T⟩
    rw [b18_44, f.1 8 0 (by omega) (by omega) (by omega), if_neg (by omega), ck_p (by omega) (by omega), show x = gi h 8 0 by omega]
    rfl
  | succ m ih =>
    intro x t H w4 w5 w6 x0 xm f T no
    have st0 : dL (d - 1) 18 44 [lR 1 10 1, lI t, lI 1, lI x, w4, w5, w6] [] H = dL (d - 1) 18 82 [lR 1 10 1, lI t, lI 1, lI x, lI (x + 1), lI x, w6] [] H := by
      rw [b18_44, f.1 8 0 (by omega) (by omega) (by omega), if_pos (by omega), if_pos rfl, ck_p (by omega) (by omega), b18_73, ck_p (by omega) (by omega), ck_p (by omega) (by omega), show x + 1 - 1 = x by omega]
    rw [st0]
    rcases tryC (d := d) hd I f (sz := 1) (x := x) (y := x) (e := x + 1) (t := t) ⟨x0, by omega⟩ ⟨x0, by omega⟩ (by omega) (Or.inl rfl) T.1 (fun q => by
      have nx : ¬ nvr h (gi h 9 x) := by
        rcases q with q | q
        · exact q.1
        · exact fun _ => q.2.1 q.1
      exact fine_far I g0 br (fun _ _ _ _ => nx) (fun _ _ _ _ => nx) (fun z => by omega) (fun z => by omega)) w6 with ⟨z1, H', z2, z3⟩ | ⟨z1, H', t', w6', z2, z3, z4, z5, z6⟩
    · exact Or.inl ⟨x, ⟨x0, by omega⟩, z1, no, H', z2, z3⟩
    · rw [z2, b18_82, if_neg (by omega), ck_p (by omega) (by omega)]
      refine ih (x + 1) t' H' _ _ _ (by omega) (by omega) z3 ⟨z4, fun k k0 k1 kn kb => ?_⟩ (fun j j0 j1 => ?_)
      · by_cases w : k = x
        · subst w; exact z6 rfl rfl kn kb
        · exact T.2 k k0 (by omega) kn (z5 k kb)
      · by_cases w : j = x
        · subst w; exact z1
        · exact no j j0 (by omega)
/-- pairs with the first fact x -/
theorem s18_2 {d : Nat} (hd : 12 ≤ d) (I : IN0 π h) (br : brk h (cW h (gr h 1 8))) (no1 : ∀ j, 0 ≤ j → j < gi h 8 0 → ¬ fine h j j) {x : Int} (hx : 0 ≤ x ∧ x < gi h 8 0) : ∀ (m : Nat) (y t : Int) (H : dm_H) (w6 : Option dm_V), x < y → y + m = gi h 8 0 → fpx h H → TM h t (gi h 8 0) → (∀ j, x < j → j < y → ¬ fine h x j) →
    (∃ b, (x < b ∧ b < gi h 8 0) ∧ fine h x b ∧ (∀ j, x < j → j < b → ¬ fine h x j) ∧ ∃ H', dL (d - 1) 18 82 [lR 1 10 1, lI t, lI 2, lI x, lI (gi h 8 0), lI y, w6] [] H = rV (si (si (si H' 1 17 2) 164 0 x) 164 1 b) ∧ fpx h H') ∨
    ((∀ j, x < j → j < gi h 8 0 → ¬ fine h x j) ∧ ∃ t' H' y4 y5 y6, dL (d - 1) 18 82 [lR 1 10 1, lI t, lI 2, lI x, lI (gi h 8 0), lI y, w6] [] H = dL (d - 1) 18 44 [lR 1 10 1, lI t', lI 2, lI (x + 1), y4, y5, y6] [] H' ∧ fpx h H' ∧ TM h t' (gi h 8 0)) := by
  have hQ : gr h 1 9 = 95 ∨ gr h 1 9 = 112 := I.2.2.2.2.2.2.2.2.2.1.2.1
  have n24 := I.2.2.2.2.2.2.2.2.1.1.1
  have g0 : gds (cK h) (gi h 4) (gi h 7) (ftC h (gi h 1 12) (-1) (-1)) (RLc h) 12 (cW h (gr h 1 8)) := I.2.2.2.2.2.2.2.2.2.2.2.2.2.2.2
  intro m
  induction m with
  | zero =>
    intro y t H w6 xy ym f T no
    right
    refine ⟨fun j j0 j1 => no j j0 (by omega), t, H, lI (gi h 8 0), lI y, w6, ?_, f, T⟩
    rw [b18_82, if_neg (by omega), ck_p (by omega) (by omega)]
  | succ m ih =>
    intro y t H w6 xy ym f T no
    -- a fact that is not too much when it goes alone does not mend, then something is broken
    have one : ∀ k, 0 ≤ k → k < gi h 8 0 → nvr h (gi h 9 k) → bt t k = false → ∃ ω, gds (cK h) (gi h 4) (gi h 7) (ftC h (gi h 1 12) k k) (RLc h) 12 ω ∧ brk h ω := by
      intro k k0 k1 kn kb
      obtain ⟨ω, g, -⟩ := T.2 k k0 k1 kn kb
      exact ⟨ω, g, Classical.byContradiction (fun q => no1 k k0 k1 ⟨ω, g, q⟩)⟩
    rcases tryC (d := d) hd I f (sz := 2) (x := x) (y := y) (e := gi h 8 0) (t := t) hx ⟨by omega, by omega⟩ (by omega) (Or.inr rfl) T.1 (fun q => by
      by_cases nx : nvr h (gi h 9 x)
      · rcases q with q | q
        · exact absurd nx q.1
        · obtain ⟨ω, g, b⟩ := one x hx.1 hx.2 nx q.2.2
          exact fine_far I g b (fun _ _ z _ => absurd rfl z) (fun _ _ _ _ => q.2.1) (fun _ _ z _ => absurd rfl z) (fun _ _ z _ => absurd rfl z)
      · by_cases ny : nvr h (gi h 9 y)
        · rcases q with q | q
          · rcases q.2 with q2 | q2
            · exact absurd ny q2
            · obtain ⟨ω, g, b⟩ := one y (by omega) (by omega) ny q2
              exact fine_far I g b (fun _ _ _ _ => nx) (fun _ _ z _ => absurd rfl z) (fun _ _ _ z => absurd rfl z) (fun _ _ _ z => absurd rfl z)
          · exact absurd q.1 nx
        · exact fine_far I g0 br (fun _ _ _ _ => nx) (fun _ _ _ _ => ny) (fun z => by omega) (fun z => by omega)) w6 with ⟨z1, H', z2, z3⟩ | ⟨z1, H', t', w6', z2, z3, z4, z5, z6⟩
    · exact Or.inl ⟨y, ⟨xy, by omega⟩, z1, no, H', z2, z3⟩
    · rw [z2]
      refine ih (y + 1) t' H' w6' (by omega) (by omega) z3 ⟨z4, fun k k0 k1 kn kb => T.2 k k0 k1 kn (z5 k kb)⟩ (fun j j0 j1 => ?_)
      by_cases w : j = y
      · subst w; exact z1
      · exact no j j0 (by omega)
/-- all pairs -/
theorem s18_3 {d : Nat} (hd : 12 ≤ d) (I : IN0 π h) (br : brk h (cW h (gr h 1 8))) (no1 : ∀ j, 0 ≤ j → j < gi h 8 0 → ¬ fine h j j) : ∀ (m : Nat) (x t : Int) (H : dm_H) (w4 w5 w6 : Option dm_V), 0 ≤ x → x + m = gi h 8 0 → fpx h H → TM h t (gi h 8 0) → (∀ i j, 0 ≤ i → i < x → i < j → j < gi h 8 0 → ¬ fine h i j) →
    (∃ a b, (0 ≤ a ∧ a < b ∧ b < gi h 8 0) ∧ fine h a b ∧ (∀ i j, 0 ≤ i → i < j → j < gi h 8 0 → (i < a ∨ (i = a ∧ j < b)) → ¬ fine h i j) ∧ ∃ H', dL (d - 1) 18 44 [lR 1 10 1, lI t, lI 2, lI x, w4, w5, w6] [] H = rV (si (si (si H' 1 17 2) 164 0 a) 164 1 b) ∧ fpx h H') ∨
    ((∀ i j, 0 ≤ i → i < j → j < gi h 8 0 → ¬ fine h i j) ∧ ∃ H', dL (d - 1) 18 44 [lR 1 10 1, lI t, lI 2, lI x, w4, w5, w6] [] H = rV (si H' 1 17 (-1)) ∧ fpx h H') := by
  have hQ : gr h 1 9 = 95 ∨ gr h 1 9 = 112 := I.2.2.2.2.2.2.2.2.2.1.2.1
  have n24 := I.2.2.2.2.2.2.2.2.1.1.1
  intro m
  induction m with
  | zero =>
    intro x t H w4 w5 w6 x0 xm f T no
    right
    refine ⟨fun i j i0 ij j1 => no i j i0 (by omega) ij j1, H, ?_, f⟩
    rw [b18_44, f.1 8 0 (by omega) (by omega) (by omega), if_neg (by omega), ck_p (by omega) (by omega), b18_37, if_pos (by omega)]
  | succ m ih =>
    intro x t H w4 w5 w6 x0 xm f T no
    have st0 : dL (d - 1) 18 44 [lR 1 10 1, lI t, lI 2, lI x, w4, w5, w6] [] H = dL (d - 1) 18 82 [lR 1 10 1, lI t, lI 2, lI x, lI (gi h 8 0), lI (x + 1), w6] [] H := by
      rw [b18_44, f.1 8 0 (by omega) (by omega) (by omega), if_pos (by omega), if_neg (by decide), b18_73, ck_p (by omega) (by omega), ck_p (by omega) (by omega), show x + 2 - 1 = x + 1 by omega]
    rw [st0]
    rcases s18_2 (d := d) hd I br no1 (x := x) ⟨x0, by omega⟩ m (x + 1) t H w6 (by omega) (by omega) f T (fun j j0 j1 => by omega) with ⟨b, hb, z1, z2, H', z3, z4⟩ | ⟨z1, t', H', y4, y5, y6, z2, z3, z4⟩
    · refine Or.inl ⟨x, b, ⟨x0, hb.1, hb.2⟩, z1, fun i j i0 ij j1 o => ?_, H', z3, z4⟩
      rcases o with o | ⟨rfl, o⟩
      · exact no i j i0 o ij j1
      · exact z2 j ij o
    · rw [z2]
      refine ih (x + 1) t' H' y4 y5 y6 (by omega) (by omega) z3 z4 (fun i j i0 i1 ij j1 => ?_)
      by_cases w : i = x
      · subst w; exact z1 j ij j1
      · exact no i j i0 (by omega) ij j1
end RPC
