/-! THE CALL drop -/
section ODR
variable {h h' : dm_H} {π : Int → Int}
theorem IDr_cg (e1 : gi h' 165 16 = gi h 165 16 ∧ gi h' 1 11 = gi h 1 11 ∧ gr h' 1 10 = gr h 1 10) (eA : ∀ A, ru A → ∀ a i, A ≤ a → a ≤ A + 6 → gi h' a i = gi h a i) (e2 : gi h' 2 0 = gi h 2 0) (e3 : ∀ a i, a = 3 ∨ a = 166 ∨ a = 172 → gi h' a i = gi h a i) (I : IDr h) : IDr h' := by
  obtain ⟨d1, d2, d3, d4⟩ := I
  refine ⟨by rw [e1.1, e1.2.1]; exact d1, by rw [e1.2.1]; exact d2, by rw [e1.2.2]; exact d3, fun q => ?_⟩
  rw [e1.2.1] at q
  obtain ⟨D, S, X⟩ := d4 q
  rw [e1.2.2]
  refine ⟨DSH_cg (fun a i p q _ => eA _ d3 a i p q) e2 (fun i => e3 3 i (by omega)) D, SR_cg (fun a i p q _ => eA _ d3 a i p (by omega)) (fun i _ _ => e3 _ _ (by omega)) (fun i => e3 _ _ (by omega)) S D.2.1.2, ?_⟩
  rw [eA _ d3 _ _ (by omega) (by omega)]
  exact RX_cg (fun i _ _ => e3 _ _ (by omega)) D.2.1.2 X
theorem IFc_cg (e : ∀ a i, a = 3 ∨ (8 ≤ a ∧ a ≤ 12) ∨ (168 ≤ a ∧ a ≤ 171) → gi h' a i = gi h a i) (e2 : gi h' 2 0 = gi h 2 0) (e1 : gi h' 1 12 = gi h 1 12) (e5 : ∀ i, i = 4 ∨ i = 5 ∨ i = 10 ∨ i = 11 → gi h' 165 i = gi h 165 i) (F : IFc h) : IFc h' := by
  obtain ⟨F1, F2, F3, F4, F5, F6, F7, F8, F9⟩ := F
  have e3 : ∀ i, gi h' 3 i = gi h 3 i := fun i => e _ _ (by omega)
  have ecK : cK h' = cK h := by unfold cK; simp only [e3]
  have e8 : ∀ i, gi h' 8 i = gi h 8 i := fun i => e _ _ (by omega)
  have e9 : ∀ i, gi h' 9 i = gi h 9 i := fun i => e _ _ (by omega)
  have e10 : ∀ i, gi h' 10 i = gi h 10 i := fun i => e _ _ (by omega)
  have e11 : ∀ i, gi h' 11 i = gi h 11 i := fun i => e _ _ (by omega)
  have e12 : ∀ i, gi h' 12 i = gi h 12 i := fun i => e _ _ (by omega)
  have l9 : fL 9 h' = fL 9 h := by funext p; unfold fL; simp only [e9, e10, e11, e12]
  have l168 : fL 168 h' = fL 168 h := by funext p; unfold fL; simp only [e 168 p (by omega), e (168 + 1) p (by omega), e (168 + 2) p (by omega), e (168 + 3) p (by omega)]
  unfold IFc FV
  rw [l9, l168, ecK]
  simp only [e8, e9, e10, e11, e12, e2, e5 5 (by omega), e5 4 (by omega), e5 10 (by omega), e5 11 (by omega), e1]
  exact ⟨F1, F2, F3, F4, F5, F6, F7, F8, F9⟩
/-- what costs and repairs speak of is not another one -/
def frZ (h h' : dm_H) : Prop := gr h' 1 8 = gr h 1 8 ∧ RLc h' = RLc h ∧ (∀ a i, (gr h 1 8 + 1 ≤ a ∧ a ≤ gr h 1 8 + 16) ∨ (3 ≤ a ∧ a ≤ 5) ∨ (8 ≤ a ∧ a ≤ 12) ∨ (144 ≤ a ∧ a ≤ 164) → gi h' a i = gi h a i) ∧ (∀ i, 15 ≤ i → gi h' 1 i = gi h 1 i) ∧ ∀ i, 44 ≤ i → gi h' 165 i = gi h 165 i
/-- the flags are down: neither costs nor a repair are known -/
def dwnF (h : dm_H) : Prop := gi h 1 15 = 0 ∧ gi h 1 16 = 0 ∧ gi h 165 44 = 0 ∧ still h (gr h 1 8)
/-- places of a number, in both -/
theorem plc_same (I : IN0 π h) (x : Int) : (fz (fun j => gi h (gr h 14 j) 0 = x) (gi h 13 1).toNat 0 = -1 ∧ fz (fun p => gi h 174 p ≠ 0 ∧ gi h 173 p = x) 10 0 = -1) ∨ ∃ g, (0 ≤ g ∧ g < gi h 13 1) ∧ gi h (gr h 14 g) 0 = x ∧ fz (fun j => gi h (gr h 14 j) 0 = x) (gi h 13 1).toNat 0 = g ∧ fz (fun p => gi h 174 p ≠ 0 ∧ gi h 173 p = x) 10 0 = π g ∧ π g < 10 := by
  obtain ⟨IR, ID, B, J0, NM, -⟩ := I
  have hn := B.1
  have h10 : ∀ p, 0 ≤ p → p ≤ 10 → gi h 174 p ≠ 0 → p < 10 := by
    intro p p0 p1 q
    by_cases z : p = 10
    · rw [z] at q; exact absurd J0 q
    · omega
  rcases fz_spec (fun p => gi h 174 p ≠ 0 ∧ gi h 173 p = x) 10 0 with ⟨r1, r2⟩ | ⟨r1, r2, ⟨r3, r4⟩, r5⟩
  · refine Or.inl ⟨?_, r1⟩
    rcases fz_spec (fun j => gi h (gr h 14 j) 0 = x) (gi h 13 1).toNat 0 with ⟨s1, s2⟩ | ⟨s1, s2, s3, s4⟩
    · exact s1
    · have R := B.2.2.1 _ s1 (by omega)
      have N := NM.2.2 _ s1 (by omega)
      have := h10 _ R.2.2.2.2.2.1.1.1 R.2.2.2.2.2.1.1.2 R.2.2.2.2.1
      exact absurd ⟨R.2.2.2.2.1, by rw [N.2.1]; exact s3⟩ (r2 _ R.2.2.2.2.2.1.1.1 (by omega))
  · obtain ⟨g, g0, g1, g2⟩ := B.2.2.2.2.1 _ r1 (by omega) r3
    have N := NM.2.2 g g0 g1
    have hg : gi h (gr h 14 g) 0 = x := by rw [← N.2.1, g2]; exact r4
    refine Or.inr ⟨g, ⟨g0, g1⟩, hg, ?_, g2.symm, by rw [g2]; omega⟩
    rcases fz_spec (fun j => gi h (gr h 14 j) 0 = x) (gi h 13 1).toNat 0 with ⟨s1, s2⟩ | ⟨s1, s2, s3, s4⟩
    · exact absurd hg (s2 g g0 (by omega))
    · generalize fz (fun j => gi h (gr h 14 j) 0 = x) (gi h 13 1).toNat 0 = j at s1 s2 s3 s4 ⊢
      rcases Int.lt_trichotomy j g with q | q | q
      · have a := N.2.2 j s1 q
        have s3 : gi h (gr h 14 j) 0 = x := s3
        omega
      · exact q
      · exact absurd hg (s4 g g0 q)
end ODR
