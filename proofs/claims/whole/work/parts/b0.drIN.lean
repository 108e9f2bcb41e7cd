/-! THE DRAFT's calls keep the invariant -/
section DIN
variable {h h' : dm_H} {π : Int → Int}
/-- another draft alone: all the rest stays -/
theorem dr_all (I : IN0 π h) (f : frDr h h') (ID' : IDr h') : IN0 π h' ∧ frZ h h' := by
  obtain ⟨IR, ID, B, J0, NM, G, HH, L, F, W⟩ := I
  obtain ⟨f1, f2⟩ := f
  have hd := ID.2.2.1
  have rd := ru_r hd
  have hA : ∀ j, 0 ≤ j → j < 10 → ru (gr h 14 j) := B.2.1.1
  have hne : ∀ j, 0 ≤ j → j < 10 → gr h 14 j ≠ gr h 1 10 := B.2.1.2.2
  have hn := B.1
  -- cells of rules in the book
  have eA : ∀ j, 0 ≤ j → j < 10 → ∀ a i, gr h 14 j ≤ a → a ≤ gr h 14 j + 7 → gi h' a i = gi h a i := by
    intro j j0 j1 a i p q
    have r := ru_r (hA j j0 j1)
    have n := hne j j0 j1
    exact f1 a i (by omega) (by omega) (by omega) (by omega)
  have lo : ∀ a i, a ≤ 14 → ¬ (a = 1 ∧ i = 11) → gi h' a i = gi h a i := fun a i p q => f1 a i (by omega) (by omega) q (by omega)
  have hi : ∀ a i, 137 ≤ a → ¬ (a = 172 ∧ 380 ≤ i ∧ i < 418) → ¬ (a = 165 ∧ (i = 0 ∨ i = 16)) → gi h' a i = gi h a i := fun a i p q r => f1 a i (by omega) q (by omega) r
  have hP : gr h 1 8 = 95 ∨ gr h 1 8 = 112 := W.1.1
  have eP : ∀ a i, gr h 1 8 + 1 ≤ a → a ≤ gr h 1 8 + 8 → gi h' a i = gi h a i := fun a i p q => f1 a i (by omega) (by omega) (by omega) (by omega)
  have e3 : ∀ i, gi h' 3 i = gi h 3 i := fun i => lo _ _ (by omega) (by omega)
  have ecK : cK h' = cK h := by unfold cK; simp only [e3]
  have e4 : gi h' 4 = gi h 4 := funext (fun i => lo _ _ (by omega) (by omega))
  have e7 : gi h' 7 = gi h 7 := funext (fun i => lo _ _ (by omega) (by omega))
  have eR : RLc h' = RLc h := RLc_cg2 (lo _ _ (by omega) (by omega)) (fun j _ _ => f2 14 j) (fun j j0 j1 a i p q _ => eA j j0 (by omega) a i p (by omega))
  have h10 : ∀ p, 0 ≤ p → p ≤ 10 → gi h 174 p ≠ 0 → p < 10 := by
    intro p p0 p1 q
    by_cases z : p = 10
    · rw [z] at q; exact absurd J0 q
    · omega
  have e174 : ∀ p, gi h' 174 p = gi h 174 p := fun p => hi _ _ (by omega) (by omega) (by omega)
  have eW : eqW (cW h (gr h 1 8)) (cW h' (gr h 1 8)) := cW_far W.1.1 eP
  refine ⟨⟨IRel_cg (lo _ _ (by omega) (by omega)) (fun a i q => by rcases q with q | q | q | q | q <;> first | exact lo _ _ (by omega) (by omega) | exact hi _ _ (by omega) (by omega) (by omega)) (hi _ _ (by omega) (by omega) (by omega)) IR, ID', ?_, by rw [e174]; exact J0, ?_, ?_, ?_, ?_, ?_, ?_⟩, ?_⟩
  · obtain ⟨b1, ⟨b2, b3, b4⟩, b5, b6, b7, b8⟩ := B
    have e13 : gi h' 13 1 = gi h 13 1 := lo _ _ (by omega) (by omega)
    unfold BKS
    simp only [f2, e13, e174]
    refine ⟨b1, ⟨b2, b3, b4⟩, fun j j0 j1 => ?_, b6, b7, b8⟩
    obtain ⟨r1, r2, r3, r4, r5, r6, r7⟩ := b5 j j0 j1
    have p10 := h10 _ r6.1.1 r6.1.2 r5
    have e := eA j j0 (by omega)
    have c := RIc_cg (h := h) (h' := h') r1 (fun a i p q _ => e a i p (by omega)) (lo _ _ (by omega) (by omega)) e3 ⟨r1, r2, r3, r4⟩
    refine ⟨r1, c.2.1, c.2.2.1, c.2.2.2, by rw [e174]; exact r5, SR_cg (fun a i p q _ => e a i p (by omega)) (fun i _ _ => hi _ _ (by omega) (by omega) (by omega)) (fun i => hi _ _ (by omega) (by omega) (by omega)) r6 r2.2.1.2, ?_⟩
    rw [e _ _ (by omega) (by omega)]
    exact RX_cg (fun i _ _ => hi _ _ (by omega) (by omega) (by omega)) r2.2.1.2 r7
  · obtain ⟨m1, m2, m3⟩ := NM
    have e13 : ∀ i, gi h' 13 i = gi h 13 i := fun i => lo _ _ (by omega) (by omega)
    unfold INm
    simp only [f2, e13, hi 165 15 (by omega) (by omega) (by omega), show ∀ i, gi h' 173 i = gi h 173 i from fun i => hi _ _ (by omega) (by omega) (by omega)]
    refine ⟨m1, m2, fun j j0 j1 => ?_⟩
    rw [eA j j0 (by omega) _ _ (by omega) (by omega)]
    obtain ⟨t1, t2, t3⟩ := m3 j j0 j1
    exact ⟨t1, t2, fun i i0 i1 => by rw [eA i i0 (by omega) _ _ (by omega) (by omega)]; exact t3 i i0 i1⟩
  · rw [ecK, e4, lo 2 0 (by omega) (by omega), eR]; exact G
  · refine ⟨fun r r0 r1 => by rw [lo _ _ (by omega) (by omega)]; exact HH.1 r r0 r1, ?_⟩
    rw [eR]
    have : bh h' 6 = bh h 6 := by
      funext r q
      unfold bh
      rw [lo 6 r (by omega) (by omega)]
    rw [this]; exact HH.2
  · unfold CL
    rw [e4, eR, e7, lo 2 6 (by omega) (by omega)]; exact L
  · exact IFc_cg (fun a i q => by rcases q with q | q | q <;> first | exact lo _ _ (by omega) (by omega) | exact hi _ _ (by omega) (by omega) (by omega)) (lo _ _ (by omega) (by omega)) (lo _ _ (by omega) (by omega)) (fun i q => hi _ _ (by omega) (by omega) (by omega)) F
  · obtain ⟨w1, w2, w3, w4, w5, w6, w7⟩ := W
    have eoW : oW h' = oW h := by
      have a1 : (fun r => gi h' 182 r) = fun r => gi h 182 r := funext (fun r => hi _ _ (by omega) (by omega) (by omega))
      have a2 : (fun r x => gi h' 181 (40 * r + x)) = fun (r x : Int) => gi h 181 (40 * r + x) := by
        funext r x
        exact hi _ _ (by omega) (by omega) (by omega)
      unfold oW
      rw [a1, a2]
    have D := DC_of IR.1
    have hU := RU_of IR.1.1.2 G L.1.1
    have eft : ftC h' (gi h' 1 12) (-1) (-1) = ftC h (gi h 1 12) (-1) (-1) := by
      funext r c
      unfold ftC
      simp only [lo 8 0 (by omega) (by omega), lo 1 12 (by omega) (by omega), show ∀ i, gi h' 9 i = gi h 9 i from fun i => lo _ _ (by omega) (by omega), show ∀ i, gi h' 10 i = gi h 10 i from fun i => lo _ _ (by omega) (by omega), show ∀ i, gi h' 12 i = gi h 12 i from fun i => lo _ _ (by omega) (by omega)]
    unfold IRw
    rw [f2, f2, eoW, eft, eR, ecK, e4, e7, lo 2 0 (by omega) (by omega), lo 1 13 (by omega) (by omega), lo 1 14 (by omega) (by omega)]
    refine ⟨w1, eqW_SRT eW w2, eqW_trans (eqW_trans (eqW_symm eW) w3) (rW_same (fun i => hi _ _ (by omega) (by omega) (by omega)) (fun i => hi _ _ (by omega) (by omega) (by omega))), fun r r0 r1 => ?_, w5, ⟨?_, ?_⟩, eqW_gds D hU eW w7⟩
    · have e : rsz h' (gr h 1 8) r = rsz h (gr h 1 8) r := (eW r (by have := IR.1.1; omega) r1).1
      rw [e]; exact w4 r r0 r1
    · rw [w6.1]
      exact (ms_eq eW (fun r r0 r1 c => Iff.rfl) (fun r r0 r1 => (w7.1 r r0 r1).1.1)).symm
    · rw [w6.2]
      exact (ms_eq (eqW_refl _) (inW_eq eW) (fun r r0 r1 => (w5 r r0 r1).1)).symm
  · refine ⟨f2 _ _, eR, fun a i q => ?_, fun i _ => lo _ _ (by omega) (by omega), fun i _ => hi _ _ (by omega) (by omega) (by omega)⟩
    rcases q with q | q | q | q
    · exact f1 a i (by omega) (by omega) (by omega) (by omega)
    · exact lo _ _ (by omega) (by omega)
    · exact lo _ _ (by omega) (by omega)
    · exact hi _ _ (by omega) (by omega) (by omega)
end DIN
