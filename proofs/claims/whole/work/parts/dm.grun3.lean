/-! GOALS: the class's search, whole -/
section GR3
variable {h H : dm_H} {π : Int → Int}
/-- the goals asked by those ahead of x, and by x with the rules ahead of j, are found -/
def cls3 (h H : dm_H) (x j : Int) : Prop := (∀ y, 0 ≤ y → y < x → ∀ b, nxt h (gi H 162 y) b → fnd H b) ∧ ∀ i, 0 ≤ i → i < j → ∀ b, nxj h i (gi H 162 x) b → fnd H b
theorem s144i {d : Nat} (hd : 9 ≤ d) (I : IN0 π h) (S : still h (gr h 1 8)) {R : Int → Prop} (hR : ∀ g, R g → okG g) (hN : ∀ a b, R a → nxt h a b → R b) {x : Int} (w2 : Option dm_V) : ∀ (m : Nat) (j : Int) (H : dm_H), 0 ≤ j → j + m = gi h 13 1 → fgr h H → GIs R H → (0 ≤ x ∧ x < gi H 161 4) → (fullG H ∨ cls3 h H x j) → ∃ H' w4, dL (d - 1) 144 41 [lR 1 3 161, lR 1 7 (gr h 1 8), w2, lI x, lI j] [] H = dL (d - 1) 144 20 [lR 1 3 161, lR 1 7 (gr h 1 8), w2, lI (x + 1), w4] [] H' ∧ fgr h H' ∧ GIs R H' ∧ gmo H H' ∧ (fullG H' ∨ cls3 h H' (x + 1) 0) := by
  intro m
  induction m with
  | zero =>
    intro j H j0 jm f GI hx c
    refine ⟨H, lI j, ?_, f, GI, gmo_refl H, c.imp id (fun c => ⟨fun y y0 y1 b n => ?_, fun i i0 i1 => by omega⟩)⟩
    · have := GI.1.1
      rw [b144_41, (fgr_lo f).1 13 1 (by omega), if_neg (by omega), ck_p (by omega) (by omega)]
    · by_cases z : y = x
      · rw [z] at n
        obtain ⟨i, hi, q⟩ := n
        exact c.2 i hi.1 (by omega) b q
      · exact c.1 y y0 (by omega) b n
  | succ m ih =>
    intro j H j0 jm f GI hx c
    obtain ⟨H1, x1, x2, x3, x4, x5⟩ := s144j (d := d) hd I S hR hN f GI hx (j := j) ⟨j0, by omega⟩ w2
    have hx1 : 0 ≤ x ∧ x < gi H1 161 4 := by have := x4.1; omega
    obtain ⟨H2, w4, y1, y2, y3, y4, y5⟩ := ih (j + 1) H1 (by omega) (by omega) x2 x3 hx1 (by
      rcases c with z | z
      · exact Or.inl (full_gmo x4 x3 z)
      · rcases x5 with w | w
        · exact Or.inl w
        · refine Or.inr ⟨fun y y0 y1 b n => ?_, fun i i0 i1 b n => ?_⟩
          · rw [x4.2 y y0 (by omega)] at n
            exact fnd_gmo x4 (z.1 y y0 y1 b n)
          · rw [x4.2 x hx.1 hx.2] at n
            by_cases e : i = j
            · rw [e] at n; exact w b n
            · exact fnd_gmo x4 (z.2 i i0 (by omega) b n))
    refine ⟨H2, w4, ?_, y2, y3, gmo_trans x4 y4, y5⟩
    have hn := I.2.2.1.1
    rw [x1, b144_131, ck_p (by omega) (by omega), y1]
theorem s144o {d : Nat} (hd : 9 ≤ d) (I : IN0 π h) (S : still h (gr h 1 8)) {R : Int → Prop} (hR : ∀ g, R g → okG g) (hN : ∀ a b, R a → nxt h a b → R b) (w2 : Option dm_V) : ∀ (m : Nat) (x : Int) (H : dm_H) (w4 : Option dm_V), 0 ≤ x → x + m = 501 → x ≤ gi H 161 4 → fgr h H → GIs R H → (fullG H ∨ cls3 h H x 0) → ∃ H', dL (d - 1) 144 20 [lR 1 3 161, lR 1 7 (gr h 1 8), w2, lI x, w4] [] H = rI (gi H' 161 4) H' ∧ fgr h H' ∧ GIs R H' ∧ gmo H H' ∧ (fullG H' ∨ ∀ a, fnd H' a → ∀ b, nxt h a b → fnd H' b) := by
  intro m
  induction m with
  | zero =>
    intro x H w4 x0 xm xz f GI c
    have := GI.1.1
    omega
  | succ m ih =>
    intro x H w4 x0 xm xz f GI c
    have hz := GI.1.1
    rw [b144_20]
    by_cases z : x < gi H 161 4
    · rw [if_pos z]
      by_cases y : gi H 161 4 < 500
      · rw [if_pos y]
        obtain ⟨H1, w4', x1, x2, x3, x4, x5⟩ := s144i (d := d) hd I S hR hN (x := x) w2 (gi h 13 1).toNat 0 H (by omega) (by have := I.2.2.1.1; omega) f GI ⟨x0, z⟩ c
        obtain ⟨H2, y1, y2, y3, y4, y5⟩ := ih (x + 1) H1 w4' (by omega) (by omega) (by have := x4.1; omega) x2 x3 x5
        exact ⟨H2, by rw [x1, y1], y2, y3, gmo_trans x4 y4, y5⟩
      · rw [if_neg y, b144_143]
        exact ⟨H, rfl, f, GI, gmo_refl H, Or.inl (by unfold fullG; omega)⟩
    · rw [if_neg z, b144_143]
      refine ⟨H, rfl, f, GI, gmo_refl H, c.imp id (fun c => ?_)⟩
      rintro a ⟨y, hy, rfl⟩ b n
      exact c.1 y hy.1 (by omega) b n
theorem s144 {d : Nat} (hd : 9 ≤ d) (I : IN0 π h) (S : still h (gr h 1 8)) {g0 : Int} (og : okG g0) : ∃ H', dF d 144 [dR 1 3 161, dR 1 7 (gr h 1 8), dI g0] h = rI (gi H' 161 4) H' ∧ fgr h H' ∧ GIs (fun g => rcG h g0 g ∧ okG g) H' ∧ fnd H' g0 ∧ (fullG H' ∨ ∀ a, fnd H' a → ∀ b, nxt h a b → fnd H' b) := by
  obtain ⟨H0, eH0⟩ : ∃ H0, H0 = fill (si h 161 4 0) 163 1024 (-1) := ⟨_, rfl⟩
  have gf : ∀ a i, gi H0 a i = if a = 163 ∧ 0 ≤ i ∧ i < 1024 then -1 else gi (si h 161 4 0) a i := fun a i => by rw [eH0]; rfl
  have z4 : gi H0 161 4 = 0 := by rw [gf, if_neg (by omega), gi_sis]
  have f0 : fgr h H0 := ⟨fun a i _ p q r => by rw [gf, if_neg (by omega), gi_si, if_neg p], fun a i _ _ => by rw [eH0]; rfl, by rw [eH0]; rfl⟩
  have hs : ∀ s, 0 ≤ s → s < 1024 → gi H0 163 s = -1 := fun s a b => by rw [gf, if_pos ⟨rfl, a, b⟩]
  have G0 : GIs (fun g => rcG h g0 g ∧ okG g) H0 := ⟨⟨by omega, fun x x0 x1 => by omega, fun x y x0 xy y1 => by omega, fun s a b => Or.inl (hs s a b), fun s s' a b c _ => hs s a (by omega), fun x x0 x1 => by omega⟩, fun x x0 x1 => by omega⟩
  obtain ⟨H1, x1, x2, x3, x4⟩ := s42 (d := d - 1) (by omega) G0.1 (g := g0) (okG_r og).1.1
  obtain ⟨y1, y2, y3⟩ := askd_all G0 x2 x4 (show (fun g => rcG h g0 g ∧ okG g) g0 from ⟨rcG_0 g0, og⟩)
  have hz1 : gi H1 161 4 = 1 := by
    rcases x4 with ⟨-, q⟩ | ⟨q, -⟩
    · rcases q with q | ⟨x, hx, -⟩ <;> omega
    · omega
  have nf : ¬ fullG H1 := by unfold fullG; omega
  have f1 : fgr h H1 := fgr_trans f0 (fgr_o x3)
  obtain ⟨H2, u1, u2, u3, u4, u5⟩ := s144o (d := d) hd I S (R := fun g => rcG h g0 g ∧ okG g) (fun g q => q.2) (fun a b q n => ⟨rcG_s q.1 n, by
    obtain ⟨j, hj, n⟩ := n
    exact nxj_ok I hj.1 hj.2 q.2 n⟩) (lI g0) 501 0 H1 none (by omega) (by omega) (by omega) f1 y1 (Or.inr ⟨fun y y0 y1 => by omega, fun i i0 i1 => by omega⟩)
  refine ⟨H2, ?_, u2, u3, fnd_gmo u4 (y3.resolve_right nf), u5⟩
  rw [f144 (by omega), b144_0]
  have e21 := s21 (d := d - 1) (by omega) 1024 163 (-1) (si h 161 4 0) (by omega)
  rw [show dF (d - 1) 21 [dR 2 1024 163, dI (-1)] (si h 161 4 0) = rV H0 from by rw [eH0]; exact e21, bk_n, b144_13, x1, bk_n, b144_18, u1]
/-- distinct goals on one side are no more than those of a closed set on the other -/
theorem goal_le {h : dm_H} {g0 z z' : Int} {f f' : Int → Int} (z0 : 0 ≤ z) (r' : ∀ x, 0 ≤ x → x < z' → rcG h g0 (f' x)) (d' : ∀ x y, 0 ≤ x → x < y → y < z' → f' x ≠ f' y) (c0 : ∃ x, (0 ≤ x ∧ x < z) ∧ f x = g0) (cl : ∀ x, 0 ≤ x → x < z → ∀ b, nxt h (f x) b → ∃ y, (0 ≤ y ∧ y < z) ∧ f y = b) : z' ≤ z := by
  rcases Int.lt_or_le z z' with q | q
  case inr => exact q
  exfalso
  have hx : ∀ x, ∃ y, 0 ≤ x → x < z' → (0 ≤ y ∧ y < z) ∧ f y = f' x := by
    intro x
    by_cases w : 0 ≤ x ∧ x < z'
    · obtain ⟨y, hy⟩ := r' x w.1 w.2 (fun g => ∃ y, (0 ≤ y ∧ y < z) ∧ f y = g) c0 (fun a b ⟨y, hy, e⟩ n => cl y hy.1 hy.2 b (by rw [e]; exact n))
      exact ⟨y, fun _ _ => hy⟩
    · exact ⟨0, fun a b => absurd ⟨a, b⟩ w⟩
  obtain ⟨k, hk⟩ : ∃ k : Int → Int, ∀ x, 0 ≤ x → x < z' → (0 ≤ k x ∧ k x < z) ∧ f (k x) = f' x := ⟨fun s => Classical.choose (hx s), fun s => Classical.choose_spec (hx s)⟩
  clear hx
  obtain ⟨x, y, x0, xy, y1, e⟩ := pigeon z.toNat k (fun x x0 x1 => by
    have := (hk x x0 (by omega)).1
    omega)
  have a1 := (hk x x0 (by omega)).2
  have a2 := (hk y (by omega) (by omega)).2
  rw [e, a2] at a1
  exact d' x y x0 xy (by omega) a1.symm
end GR3
