/-! FACTS: their places in both lists -/
section FPL
variable {h : dm_H}
theorem fpl_same (F : IFc h) (r c : Int) : fpl (fL 168 h) (gi h 165 5) r c = fpl (fL 9 h) (gi h 8 0) r c := by
  obtain ⟨F1, F2, F3, F4, -⟩ := F
  unfold fpl
  rw [F3]
  exact fz_same _ _ (fun j j0 j1 => by rw [F4 j j0 (by have := F1.1; omega)])
theorem fpl_r {f : Int → mT} {n r c : Int} (hn : 0 ≤ n) : (fpl f n r c = -1 ∧ ∀ p, 0 ≤ p → p < n → ¬ ((f p).1 = r ∧ (f p).2.1 = c)) ∨ ((0 ≤ fpl f n r c ∧ fpl f n r c < n) ∧ (f (fpl f n r c)).1 = r ∧ (f (fpl f n r c)).2.1 = c) := by
  unfold fpl
  rcases fz_spec (fun x => (f x).1 = r ∧ (f x).2.1 = c) n.toNat 0 with ⟨a, b⟩ | ⟨a, b, d, -⟩
  · exact Or.inl ⟨a, fun p p0 p1 => b p p0 (by omega)⟩
  · exact Or.inr ⟨⟨a, by omega⟩, d⟩
end FPL
