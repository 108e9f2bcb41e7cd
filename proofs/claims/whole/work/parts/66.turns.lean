/-! TURNS END -/
section TURNS
variable {P : Nat} {hB : dm_H} {oc : Int → Int → Prop} {RL : mU → Prop} {L : Int}
theorem RI_s {s s' : Int} (h1 : s ≤ s') {ft : Int → Int → Prop} {h : dm_H} (k : RI P hB ft RL s L h) : RI P hB ft RL s' L h := by
  obtain ⟨k1, k2, k3, k4, k5, k6⟩ := k
  exact ⟨k1, k2, fun r r0 r1 => ⟨⟨(k3 r r0 r1).1.1, by have := (k3 r r0 r1).1.2; omega⟩, (k3 r r0 r1).2⟩, k4, k5, k6⟩
/-- where nothing has come, no stamp is new -/
theorem stp_old {s : Int} {h h' : dm_H} (g : gro (cK hB) (gi hB 4) P s h h') (e : smW (cW h P) (cW h' P)) {n : Int} (k : stp_ P n h) : ∀ r, 0 ≤ r → r < 6 → ∀ x, 0 ≤ x → x < rsz h' P r → 0 ≤ rst h' P r x ∧ rst h' P r x ≤ n := by
  intro r r0 r1 x x0 x1
  have e1 : rsz h' P r = rsz h P r := (e r r0 r1).1
  rw [e1] at x1
  rw [gro_old g ⟨r0, r1⟩ (e r r0 r1).2 x x0 x1]
  obtain ⟨a1, a2⟩ := k r r0 r1
  have := a2 x x0 x1
  omega
end TURNS
