/-! THE LAW'S INVARIANT AT THE START: no relation, no fact, no rule, no row -/
section WI
variable {h : dm_H}
theorem LWI_0 (z : ∀ a i, a ≠ 165 → a ≠ 1000 → gi h a i = 0) (z1 : ∀ i, i ≠ 10 → i ≠ 11 → gi h 165 i = 0) (z2 : gi h 165 10 = -1) (z3 : gi h 165 11 = -1) (r8 : gr h 1 8 = 95) (r9 : gr h 1 9 = 112) (r10 : gr h 1 10 = 129) (rr : ∀ j, 0 ≤ j → j < 10 → gr h 14 j = 15 + 8 * j.toNat) : LWI (fun j => j) h := by
  have e20 : gi h 2 0 = 0 := z 2 0 (by decide) (by decide)
  have e26 : gi h 2 6 = 0 := z 2 6 (by decide) (by decide)
  have e3 : ∀ r, gi h 3 r = 0 := fun r => z 3 r (by decide) (by decide)
  have e4 : ∀ r, gi h 4 r = 0 := fun r => z 4 r (by decide) (by decide)
  have e6 : ∀ r, gi h 6 r = 0 := fun r => z 6 r (by decide) (by decide)
  have e7 : ∀ r, gi h 7 r = 0 := fun r => z 7 r (by decide) (by decide)
  have e80 : gi h 8 0 = 0 := z 8 0 (by decide) (by decide)
  have e131 : gi h 13 1 = 0 := z 13 1 (by decide) (by decide)
  have e133 : gi h 13 3 = 0 := z 13 3 (by decide) (by decide)
  have e111 : gi h 1 11 = 0 := z 1 11 (by decide) (by decide)
  have e112 : gi h 1 12 = 0 := z 1 12 (by decide) (by decide)
  have e174 : ∀ p, gi h 174 p = 0 := fun p => z 174 p (by decide) (by decide)
  have hsz : ∀ r, rsz h 95 r = 0 := fun r => z 96 r (by decide) (by decide)
  have rl : ∀ u, ¬ RLc h u := by
    rintro u ⟨j, j0, j1, -⟩
    rw [e131] at j1
    omega
  have nb : ∀ r q, ¬ bh h 6 r q := by
    rintro r q ⟨-, -, k⟩
    rw [e6] at k
    simp [bt] at k
  have i1 : IRel h := by
    refine ⟨⟨by rw [e20]; exact ⟨by omega, by omega⟩, fun r r0 r1 => ?_⟩, (z1 1 (by decide) (by decide)).trans e20.symm, fun r => ⟨(z 166 r (by decide) (by decide)).trans (e3 r).symm, (z 167 r (by decide) (by decide)).trans (e4 r).symm⟩, fun r _ _ => ⟨e3 r, e4 r⟩⟩
    rw [e3 r, e4 r, e20]
    exact ⟨⟨by omega, by omega, by omega⟩, fun q => absurd q (by omega)⟩
  have i2 : IDr h := ⟨(z1 16 (by decide) (by decide)).trans e111.symm, Or.inl e111, by rw [r10]; exact Or.inr rfl, fun q => absurd q (by rw [e111]; omega)⟩
  have i3 : BKS (fun j => j) h := by
    refine ⟨by rw [e131]; exact ⟨by omega, by omega⟩, ⟨fun j j0 j1 => ?_, fun i j i0 ij j1 => ?_, fun j j0 j1 => ?_⟩, fun j j0 j1 => absurd j1 (by rw [e131]; omega), fun i j i0 ij j1 => absurd j1 (by rw [e131]; omega), fun p _ _ q => absurd (e174 p) q, fun p _ _ => Or.inl (e174 p)⟩
    · rw [rr j j0 j1]
      exact Or.inl ⟨by omega, by omega, by omega⟩
    · rw [rr i i0 (by omega), rr j (by omega) j1]
      omega
    · rw [rr j j0 j1, r10]
      omega
  have i4 : INm (fun j => j) h := ⟨(z1 15 (by decide) (by decide)).trans e133.symm, by rw [e133]; omega, fun j j0 j1 => absurd j1 (by rw [e131]; omega)⟩
  have i5 : CH h := ⟨fun r _ _ => by rw [e6]; exact ⟨by decide, by decide⟩, ⟨fun r q ⟨u, hu, _⟩ => absurd hu (rl u), fun r q s k _ => absurd k (nb r q), fun R _ _ r q k => absurd k (nb r q)⟩⟩
  have i6 : CL h := ⟨⟨⟨fun r _ _ => by rw [e7]; omega, fun u hu => absurd hu (rl u)⟩, fun g hg r r0 r1 => by rw [e7]; exact hg.1 r r0 r1⟩, fun r _ _ => by rw [e7, e26]; omega, by rw [e26]; omega, by rw [e26]; omega⟩
  have i7 : IFc h := ⟨⟨by rw [e80]; exact ⟨by omega, by omega⟩, fun p p0 p1 => absurd p1 (by rw [e80]; omega)⟩, fun x y x0 xy y1 => absurd y1 (by rw [e80]; omega), (z1 5 (by decide) (by decide)).trans e80.symm, fun p p0 p1 => absurd p1 (by rw [e80]; omega), fun p p0 p1 => absurd p1 (by rw [e80]; omega), (z1 4 (by decide) (by decide)).trans e112.symm, by rw [e112]; omega, z2, z3⟩
  have hc : ∀ r, (cW h 95).1 r = 0 := hsz
  have ho : ∀ r, (oW h).1 r = 0 := fun r => z 182 r (by decide) (by decide)
  have hm : ∀ ω ω' : mW, (∀ r, ω.1 r = 0) → ms ω ω' = 0 := by
    intro ω ω' k
    unfold ms
    rw [show (fun r => sm (fun x => inb ω' r (ω.2 r x)) (ω.1 r).toNat) = fun _ => 0 from funext fun r => by rw [k r]; rfl]
    rfl
  have i8 : IRw h := by
    unfold IRw
    rw [r8, r9]
    refine ⟨⟨Or.inl rfl, Or.inr rfl, by decide⟩, fun r r0 r1 x y x0 xy y1 => absurd y1 (by rw [hc]; omega), fun r r0 r1 => ⟨(z 178 r (by decide) (by decide)).trans (hc r).symm, fun x x0 x1 => absurd x1 (by rw [hc]; omega)⟩, fun r _ _ => hsz r, fun r _ _ => by rw [ho]; exact ⟨by omega, by omega⟩, ⟨(z 1 13 (by decide) (by decide)).trans (hm _ _ hc).symm, (z 1 14 (by decide) (by decide)).trans (hm _ _ ho).symm⟩, ⟨fun r r0 r1 => ⟨by rw [hc]; exact ⟨by omega, by omega⟩, fun x x0 x1 => absurd x1 (by rw [hc]; omega), fun x y x0 xy y1 => absurd y1 (by rw [hc]; omega)⟩, fun Ly _ _ => ⟨⟨?_, fun u hu => absurd hu (rl u)⟩, ?_⟩⟩⟩
    · rintro r c r0 r1 - - ⟨q, q0, q1, -⟩
      exact absurd q1 (by rw [e80]; omega)
    · rintro Dm ω' - - - - r r0 r1 - - c ⟨x, x0, x1, -⟩
      exact absurd x1 (by rw [hc]; omega)
  refine ⟨⟨i1, i2, i3, e174 10, i4, fun u hu => absurd hu (rl u), i5, i6, i7, i8⟩, ?_, Or.inl (z 1 15 (by decide) (by decide)), Or.inl ⟨z 1 16 (by decide) (by decide), z1 44 (by decide) (by decide)⟩⟩
  rw [r8]
  exact fun r q r0 r1 q0 q1 => absurd q1 (by rw [hsz]; omega)
theorem wN_L (L : Nat) (xs : Nat → Int) : LWI (fun j => j) (wN L xs) := by
  refine LWI_0 (fun a i h1 h2 => ?_) (fun i h1 h2 => ?_) ?_ ?_ ?_ ?_ ?_ (fun j j0 j1 => ?_)
  · rw [wN_i, if_neg h2]
    exact wi_0 i h1
  · rw [wN_i, if_neg (by decide)]
    unfold wi
    rw [if_neg (by omega)]
  · rfl
  · rfl
  · rw [wN_r]
    decide +kernel
  · rw [wN_r]
    decide +kernel
  · rw [wN_r]
    decide +kernel
  · have k := List.all_eq_true.mp (show (List.range 10).all (fun k => Nat.beq (wr 14 k) (15 + 8 * k)) = true from by decide +kernel) j.toNat (List.mem_range.mpr (by omega))
    rw [wcast j0] at k
    exact Nat.eq_of_beq_eq_true k
end WI
