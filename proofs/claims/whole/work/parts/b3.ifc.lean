/-! FACTS: the invariant out of what is in the lists -/
section IFN
variable {h H : dm_H}
/-- a fact as it has to be -/
def okF (h : dm_H) (t : mT) : Prop := (0 ≤ t.1 ∧ t.1 < gi h 2 0) ∧ vcd (cK h t.1) t.2.1 ∧ (1 ≤ t.2.2.1 ∧ t.2.2.1 ≤ 99) ∧ (t.2.2.2 = -1 ∨ gi h 1 12 < t.2.2.2)
theorem IFc_ok (F : IFc h) {s : mT} (i : inF (fL 9 h) (gi h 8 0) s) : okF h s := by
  obtain ⟨p, p0, p1, rfl⟩ := i
  obtain ⟨F1, F2, F3, F4, F5, F6, F7, F8, F9⟩ := F
  obtain ⟨v1, v2⟩ := F1.2 p p0 p1
  obtain ⟨v3, v4⟩ := F5 p p0 p1
  exact ⟨v1, v2, v3, v4⟩
theorem IFc_mk {m : Int} (hm : 0 ≤ m ∧ m ≤ 24) (e8 : gi H 8 0 = m) (e5 : gi H 165 5 = m) (S : FO (fL 9 H) m) (S' : FO (fL 168 H) m) (i : ∀ s, inF (fL 9 H) m s ↔ inF (fL 168 H) m s) (ok : ∀ s, inF (fL 9 H) m s → okF H s) (e4 : gi H 165 4 = gi H 1 12) (h12 : 0 ≤ gi H 1 12) (e10 : gi H 165 10 = -1) (e11 : gi H 165 11 = -1) : IFc H := by
  have q := FO_eq hm.1 hm.1 S S' i
  have o : ∀ p, 0 ≤ p → p < m → okF H (fL 9 H p) := fun p p0 p1 => ok _ ⟨p, p0, p1, rfl⟩
  refine ⟨⟨by rw [e8]; exact hm, fun p p0 p1 => ?_⟩, by rw [e8]; exact S, by rw [e8, e5], fun p p0 p1 => ?_, fun p p0 p1 => ?_, e4, h12, e10, e11⟩
  · rw [e8] at p1
    exact ⟨(o p p0 p1).1, (o p p0 p1).2.1⟩
  · rw [e8] at p1
    exact q.2 p p0 p1
  · rw [e8] at p1
    exact ⟨(o p p0 p1).2.2.1, (o p p0 p1).2.2.2⟩
end IFN
