/-! AT THE END of the last round a rule is done -/
section TURN
variable {P : Nat} {hB : dm_H} {oc : Int → Int → Prop} {ft : Int → Int → Prop} {RL : mU → Prop} {s L : Int}
theorem clo_F {A : Nat} (hp : rw_ P) (K : RK hB) (R : RP hB oc RL A) (hk : gi hB A 1 = 0) {h : dm_H} (I : RI P hB ft RL s L h) {n : Int} (n0 : 0 ≤ n) (hS : ∀ r, 0 ≤ r → r < 6 → ∀ x, 0 ≤ x → x < rsz h P r → 0 ≤ rst h P r x ∧ rst h P r x ≤ n)
    (C0 : ∀ w, vbq A P h (Qr 0 (-1)) (gi hB A 4).toNat 0 v0 w → cov (cK hB) (gi hB 4) (cW h P) (gi hB A 2) (hdc (cK hB) (uR hB A) w))
    (C1 : ∀ r, 0 < r → r ≤ n → ∀ na, 0 ≤ na → na < gi hB A 4 → gi hB (A + 2) na = 0 → ∀ w, vbq A P h (Qr r na) (gi hB A 4).toNat 0 v0 w → cov (cK hB) (gi hB 4) (cW h P) (gi hB A 2) (hdc (cK hB) (uR hB A) w)) :
    ∀ c, mkd (cK hB) (uR hB A) (cW h P) c → cov (cK hB) (gi hB 4) (cW h P) (gi hB A 2) c := by
  obtain ⟨e1, e2, e3, -, -, -⟩ := frR_e R.1 hp I.1
  have hN := R.2.1.2.2.1
  have hN : 0 ≤ gi hB A 4 ∧ gi hB A 4 ≤ 4 := hN
  rintro c (⟨_, v, v1, rfl⟩ | ⟨q, _⟩)
  · have v1 : v ∈ bnd (cR h A) (cW h P) (gi hB A 4).toNat 0 v0 := by rw [e3]; exact v1
    have hsub := fun k k0 k1 (q : gi h (A + 2) k = 0) => RP_sub (k := k) K R k0 k1 (Or.inl (by rw [← e1 (A + 2) (by omega)]; exact q))
    rcases round_of (R := n) (N := gi hB A 4) hN.1 (fun k k0 k1 q => by rw [e1 (A + 4) (by omega)]; exact (hsub k k0 k1 q).2.1) (fun k k0 k1 q x x0 x1 => by
      rw [e1 (A + 3) (by omega)] at x1 ⊢
      have z := (hsub k k0 k1 q).1
      exact hS _ z.1 z.2 x x0 x1) n0 v1 with z | ⟨r, na, z1, z2, z3, _, z5⟩
    · exact C0 v z
    · exact C1 r z1.1 z1.2 na z2.1 z2.2 (by rw [← e1 (A + 2) (by omega)]; exact z3) v z5
  · exact absurd hk q
end TURN
