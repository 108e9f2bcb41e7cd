/-! A LAYER is done -/
section LAYER
variable {P : Nat} {hB : dm_H} {oc : Int → Int → Prop} {ft : Int → Int → Prop} {RL : mU → Prop} {L s : Int}
/-- nothing stands there that need not -/
theorem lay_lst {h : dm_H} (I : RI P hB ft RL s L h) : lst (cK hB) (gi hB 4) (gi hB 7) ft RL L (cW h P) := by
  intro Dm ω' hd V low cl r r0 r1 q l c hc
  refine I.2.2.2.1 Dm ω' ⟨hd, V, fun x x0 x1 xq xl c => ?_, cl⟩ r r0 r1 q l c hc
  rw [← low x x0 x1 xq xl c]
  obtain ⟨a1, a2⟩ := I.2.2.2.2.1 x x0 x1 (by omega)
  show (∃ y, 0 ≤ y ∧ y < rsz hB P x ∧ rws hB P x y = c) ↔ (∃ y, 0 ≤ y ∧ y < rsz h P x ∧ rws h P x y = c)
  rw [a1]
  constructor
  · rintro ⟨x, x0, x1, x2⟩; exact ⟨x, x0, x1, by rw [a2]; exact x2⟩
  · rintro ⟨x, x0, x1, x2⟩; exact ⟨x, x0, x1, by rw [← a2]; exact x2⟩
/-- and all that has to -/
theorem lay_clod {h : dm_H} (hRL : ∀ u, RL u → ∃ j, 0 ≤ j ∧ j < gi hB 13 1 ∧ gi hB (gr hB 14 j) 1 ≠ 3 ∧ u = uR hB (gr hB 14 j)) (hf : ∀ r c, 0 ≤ r → r < 6 → gi hB 7 r = L → ft r c → cov (cK hB) (gi hB 4) (cW h P) r c) (C : cls P hB L h) : clod (cK hB) (gi hB 4) (gi hB 7) ft RL (fun _ => True) L (cW h P) := by
  refine ⟨fun r c r0 r1 _ l f => hf r c r0 r1 l f, fun u hu _ l c m => ?_⟩
  obtain ⟨j, j0, j1, j2, rfl⟩ := hRL u hu
  exact C j j0 j1 j2 l c m
end LAYER
