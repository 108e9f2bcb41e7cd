/-! FACTS: what the class has when its list is another one -/
section CFR
variable {h h1 : dm_H} {π : Int → Int}
theorem cls_fr (I : IN0 π h) (f : frF4 9 8 0 h h1) : RK h1 ∧ CBS h1 ∧ GOOD (cK h1) (gi h1 4) (gi h1 2 0) (RLc h1) ∧ CL h1 ∧ (cK h1 = cK h ∧ gi h1 4 = gi h 4 ∧ gi h1 7 = gi h 7 ∧ RLc h1 = RLc h ∧ gi h1 2 0 = gi h 2 0) := by
  obtain ⟨IR, ID, B, J0, NM, G, HH, L, F, W⟩ := I
  obtain ⟨f1, f2, f3⟩ := f
  have g : ∀ a i, ¬ (8 ≤ a ∧ a ≤ 12) → gi h1 a i = gi h a i := fun a i p => f1 a i (by omega) (by omega)
  have C := BKS_c B
  have e3 : ∀ i, gi h1 3 i = gi h 3 i := fun i => g _ _ (by omega)
  have ec : cK h1 = cK h := by unfold cK; simp only [e3]
  have e4 : gi h1 4 = gi h 4 := funext (fun i => g _ _ (by omega))
  have e7 : gi h1 7 = gi h 7 := funext (fun i => g _ _ (by omega))
  have e20 : ∀ i, gi h1 2 i = gi h 2 i := fun i => g _ _ (by omega)
  have eR : RLc h1 = RLc h := RLc_cg2 (g _ _ (by omega)) (fun j _ _ => f2 14 j) (fun j j0 j1 a i p q _ => by
    have r := ru_r (C.2 j j0 j1).1
    exact g a i (by omega))
  refine ⟨?_, ⟨by rw [g _ _ (by omega)]; exact C.1, fun j j0 j1 => ?_⟩, ?_, ?_, ec, e4, e7, eR, e20 0⟩
  · have K := IR.1
    unfold RK
    simp only [e20, e3, show ∀ i, gi h1 4 i = gi h 4 i from fun i => g _ _ (by omega), show ∀ i, gi h1 5 i = gi h 5 i from fun i => g _ _ (by omega)]
    exact K
  · rw [g _ _ (by omega)] at j1
    rw [f2]
    have R := C.2 j j0 j1
    have r := ru_r R.1
    exact RIc_cg R.1 (fun a i p q _ => g a i (by omega)) (e20 0) e3 R
  · rw [ec, e4, e20, eR]; exact G
  · unfold CL
    rw [e4, eR, e7, e20]; exact L
end CFR
