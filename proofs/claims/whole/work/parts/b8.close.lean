/-! CALLS THAT CHANGE FACTS: the invariant again, out of frames, facts and rows -/
section CLO
variable {h H : dm_H} {π : Int → Int}
/-- what such a call may touch -/
def wdF (a : Nat) (i : Int) : Prop := (8 ≤ a ∧ a ≤ 12) ∨ (95 ≤ a ∧ a ≤ 128) ∨ (137 ≤ a ∧ a ≤ 143) ∨ (168 ≤ a ∧ a ≤ 171) ∨ (175 ≤ a ∧ a ≤ 190) ∨ (a = 1 ∧ 12 ≤ i) ∨ (a = 165 ∧ (i = 0 ∨ i = 4 ∨ i = 5 ∨ i = 10 ∨ i = 11 ∨ 27 ≤ i))
def frW (h H : dm_H) : Prop := (∀ a i, ¬ wdF a i → gi H a i = gi h a i) ∧ ∀ a i, ¬ (a = 1 ∧ (i = 8 ∨ i = 9)) → ¬ (a = 137 ∨ a = 140 ∨ a = 143) → gr H a i = gr h a i
theorem frW_f (f : frW h H) : (∀ a i, (a ≤ 7 ∧ ¬ (a = 1 ∧ 12 ≤ i)) ∨ (13 ≤ a ∧ a ≤ 94) ∨ (129 ≤ a ∧ a ≤ 136) ∨ (144 ≤ a ∧ a ≤ 164) ∨ a = 166 ∨ a = 167 ∨ (172 ≤ a ∧ a ≤ 174) ∨ (a = 165 ∧ (i = 1 ∨ i = 15 ∨ i = 16)) → gi H a i = gi h a i) := fun a i q => f.1 a i (by unfold wdF; omega)
theorem frW_c (I : IN0 π h) (f : frW h H) : cK H = cK h ∧ gi H 4 = gi h 4 ∧ gi H 7 = gi h 7 ∧ RLc H = RLc h ∧ gi H 2 0 = gi h 2 0 ∧ IRel H ∧ CH H ∧ CL H := by
  obtain ⟨IR, ID, B, J0, NM, G, HH, L, -⟩ := I
  have e := frW_f f
  have e3 : ∀ i, gi H 3 i = gi h 3 i := fun i => e _ _ (by omega)
  have ec : cK H = cK h := by unfold cK; simp only [e3]
  have e4 : gi H 4 = gi h 4 := funext (fun i => e _ _ (by omega))
  have e7 : gi H 7 = gi h 7 := funext (fun i => e _ _ (by omega))
  have e2 : ∀ i, gi H 2 i = gi h 2 i := fun i => e _ _ (by omega)
  have eR : RLc H = RLc h := RLc_cg2 (e _ _ (by omega)) (fun j _ _ => f.2 14 j (by omega) (by omega)) (fun j j0 j1 a i p q _ => by
    have r := ru_r (B.2.2.1 j j0 j1).1
    exact e a i (by omega))
  refine ⟨ec, e4, e7, eR, e2 0, IRel_cg (e2 0) (fun a i q => e a i (by omega)) (e _ _ (by omega)) IR, ⟨fun r r0 r1 => by rw [e 6 r (by omega)]; exact HH.1 r r0 r1, ?_⟩, ?_⟩
  · rw [eR]
    have : bh H 6 = bh h 6 := by
      funext r q
      unfold bh
      rw [e 6 r (by omega)]
    rw [this]; exact HH.2
  · unfold CL
    rw [e4, eR, e7, e2]; exact L
theorem IN0_mk (I : IN0 π h) (f : frW h H) (F : IFc H) (W : IRw H) : IN0 π H := by
  obtain ⟨ec, e4, e7, eR, e2, IR', H', L'⟩ := frW_c I f
  obtain ⟨IR, ID, B, J0, NM, G, HH, L, -, -⟩ := I
  have e := frW_f f
  have eA : ∀ A, ru A → ∀ a i, A ≤ a → a ≤ A + 6 → gi H a i = gi h a i := fun A r a i p q => by
    have := ru_r r
    exact e a i (by omega)
  have hA : ∀ j, 0 ≤ j → j < gi h 13 1 → ru (gr h 14 j) := fun j j0 j1 => (B.2.2.1 j j0 j1).1
  have er14 : ∀ j, gr H 14 j = gr h 14 j := fun j => f.2 14 j (by omega) (by omega)
  have e13 : gi H 13 1 = gi h 13 1 := e _ _ (by omega)
  refine ⟨IR', IDr_cg ⟨e _ _ (by omega), e _ _ (by omega), f.2 _ _ (by omega) (by omega)⟩ eA e2 (fun a i q => e a i (by omega)) ID, ?_, by rw [e _ _ (by omega)]; exact J0, ?_, by rw [ec, e4, e2, eR]; exact G, H', L', F, W⟩
  · obtain ⟨b1, ⟨b2, b3, b4⟩, b5, b6, b7, b8⟩ := B
    unfold BKS
    simp only [er14, e13, f.2 1 10 (by omega) (by omega)]
    refine ⟨b1, ⟨b2, b3, b4⟩, fun j j0 j1 => RIN_cg (hA j j0 j1) (eA _ (hA j j0 j1)) e2 (fun a i q => e a i (by omega)) (b5 j j0 j1), b6, fun p p0 p1 q => ?_, fun p p0 p1 => ?_⟩
    · rw [e _ _ (by omega)] at q; exact b7 p p0 p1 q
    · rw [e _ _ (by omega)]; exact b8 p p0 p1
  · obtain ⟨m1, m2, m3⟩ := NM
    unfold INm
    simp only [er14, e13]
    rw [e 165 15 (by omega), e 13 3 (by omega)]
    refine ⟨m1, m2, fun j j0 j1 => ?_⟩
    have a1 : gi H (gr h 14 j) 0 = gi h (gr h 14 j) 0 := eA _ (hA j j0 j1) _ _ (by omega) (by omega)
    rw [a1, e _ _ (by omega)]
    obtain ⟨q1, q2, q3⟩ := m3 j j0 j1
    refine ⟨q1, q2, fun i i0 i1 => ?_⟩
    rw [eA _ (hA i i0 (by omega)) _ _ (by omega) (by omega)]; exact q3 i i0 i1
/-- rows that are new ones, on both sides -/
theorem IRw_new {h2 h3 : dm_H} {P Q : Nat} {ft : Int → Int → Prop} (wP : rw_ P) (wQ : rw_ Q) (wPQ : P ≠ Q) (IRl : IRel H) (G : GOOD (cK H) (gi H 4) (gi H 2 0) (RLc H)) (L : CL H) (F : FV H) (e2 : gi H 2 0 = gi h 2 0)
    (VP : ∀ r, 0 ≤ r → r < 6 → 0 ≤ (cW h P).1 r ∧ (cW h P).1 r ≤ 32) (wr : eqW (cW h P) (rW h))
    (gd : gds (cK H) (gi H 4) (gi H 7) ft (RLc H) 12 (cW h2 Q)) (ef : ftC H (gi H 1 12) (-1) (-1) = ft) (hz : ∀ r, gi h 2 0 ≤ r → r < 6 → rsz h2 Q r = 0) (gP : eqW (cW h P) (cW h2 P))
    (u7 : SRT (cW h3 Q)) (u8 : ∀ r, 0 ≤ r → r < 6 → rsz h3 Q r = rsz h2 Q r) (u9 : ∀ r, 0 ≤ r → r < 6 → ∀ c, inW (cW h3 Q) r c ↔ inW (cW h2 Q) r c) (u10 : gi h3 1 13 = ms (cW h3 Q) (cW h2 P)) (u11 : gi h3 1 14 = ms (cW h2 P) (cW h3 Q))
    (er : gr H 1 8 = Q ∧ gr H 1 9 = P) (eQ : eqW (cW h3 Q) (cW H Q)) (e13 : gi H 1 13 = gi h3 1 13) (e14 : gi H 1 14 = gi h3 1 14)
    (eo : eqW (rW h) (oW H)) {W : mW} (eW : eqW W (rW H)) (S : SRT W) (V : VW (cK H) (gi H 4) W) (ei : ∀ r, 0 ≤ r → r < 6 → ∀ c, inW (cW h2 Q) r c ↔ inW W r c) : IRw H := by
  have D := DC_of IRl.1
  have hU := RU_of IRl.1.1.2 G L.1.1
  have n6 := IRl.1.1
  have eo2 : eqW (cW h2 P) (oW H) := eqW_trans (eqW_trans (eqW_symm gP) wr) eo
  have z3 : ∀ r, 0 ≤ r → r < 6 → (cW h3 Q).1 r = (cW h2 Q).1 r := u8
  have er3 : eqW (cW h3 Q) W := srt_eq u7 S (fun r r0 r1 => ⟨by rw [z3 r r0 r1]; exact (gd.1 r r0 r1).1.1, (V r r0 r1).1.1⟩) (fun r r0 r1 c => (u9 r r0 r1 c).trans (ei r r0 r1 c))
  have V3 : VW (cK H) (gi H 4) (cW H Q) := eqW_VW (eqW_trans (eqW_symm er3) eQ) V
  unfold IRw
  rw [er.1, er.2]
  refine ⟨⟨wQ, wP, fun e => wPQ e.symm⟩, eqW_SRT eQ u7, eqW_trans (eqW_trans (eqW_symm eQ) er3) eW, fun r r0 r1 => ?_, fun r r0 r1 => ?_, ⟨?_, ?_⟩, ?_⟩
  · have e : rsz H Q r = rsz h3 Q r := (eQ r (by omega) r1).1
    rw [e, u8 r (by omega) r1]; exact hz r (by omega) r1
  · rw [(eo2 r r0 r1).1, (gP r r0 r1).1]; exact VP r r0 r1
  · rw [e13, u10]
    exact (ms_eq eQ (inW_eq eo2) (fun r r0 r1 => by rw [z3 r r0 r1]; exact (gd.1 r r0 r1).1.1)).symm
  · rw [e14, u11]
    exact (ms_eq eo2 (inW_eq eQ) (fun r r0 r1 => by rw [(gP r r0 r1).1]; exact (VP r r0 r1).1)).symm
  · rw [ef]
    exact gds_cg D hU V3 (fun r r0 r1 _ c => ((u9 r r0 r1 c).symm).trans (inW_eq eQ r r0 r1 c)) gd
/-- rows that are the same ones, on both sides -/
theorem IRw_old {P Q : Nat} (I : IN0 π h) (eP : gr h 1 8 = P) (eQ : gr h 1 9 = Q) (er : gr H 1 8 = P ∧ gr H 1 9 = Q) (eW : eqW (cW h P) (cW H P)) (rr : eqW (rW h) (rW H)) (ro : oW H = oW h) (e13 : gi H 1 13 = gi h 1 13) (e14 : gi H 1 14 = gi h 1 14) (ef : ftC H (gi H 1 12) (-1) (-1) = ftC h (gi h 1 12) (-1) (-1)) (e : cK H = cK h ∧ gi H 4 = gi h 4 ∧ gi H 7 = gi h 7 ∧ RLc H = RLc h ∧ gi H 2 0 = gi h 2 0) : IRw H := by
  obtain ⟨IR, ID, B, J0, NM, G, HH, L, F, W⟩ := I
  obtain ⟨w1, w2, w3, w4, w5, w6, w7⟩ := W
  obtain ⟨ec, e4, e7, eR, e2⟩ := e
  have n6 := IR.1.1
  have D := DC_of IR.1
  have hU := RU_of IR.1.1.2 G L.1.1
  rw [eP, eQ] at w1
  rw [eP] at w2 w3 w4 w6 w7
  unfold IRw
  rw [er.1, er.2, ro, e2, ec, e4, e7, eR, ef, e13, e14]
  refine ⟨w1, eqW_SRT eW w2, eqW_trans (eqW_trans (eqW_symm eW) w3) rr, fun r r0 r1 => ?_, w5, ⟨?_, ?_⟩, eqW_gds D hU eW w7⟩
  · have e : rsz H P r = rsz h P r := (eW r (by omega) r1).1
    rw [e]; exact w4 r r0 r1
  · rw [w6.1]
    exact (ms_eq eW (fun r r0 r1 c => Iff.rfl) (fun r r0 r1 => (w7.1 r r0 r1).1.1)).symm
  · rw [w6.2]
    exact (ms_eq (eqW_refl _) (inW_eq eW) (fun r r0 r1 => (w5 r r0 r1).1)).symm
/-- facts of a list, as a set -/
def ftS (S : mT → Prop) (t : Int) : Int → Int → Prop := fun r c => ∃ s, S s ∧ ¬ edd t s ∧ s.1 = r ∧ s.2.1 = c
theorem ftC_S (h : dm_H) (t : Int) : ftC h t (-1) (-1) = ftS (inF (fL 9 h) (gi h 8 0)) t := by
  funext r c
  refine propext ⟨fun ⟨p, p0, p1, p2, p3, p4, p5, p6⟩ => ⟨fL 9 h p, ⟨p, p0, p1, rfl⟩, p4, p5, p6⟩, ?_⟩
  rintro ⟨s, ⟨p, p0, p1, rfl⟩, p4, p5, p6⟩
  exact ⟨p, p0, p1, by omega, by omega, p4, p5, p6⟩
theorem ftR_S {h : dm_H} (e10 : gi h 165 10 = -1) (e11 : gi h 165 11 = -1) (r c : Int) : ftR h r c ↔ ∃ s, inF (fL 168 h) (gi h 165 5) s ∧ s.1 = r ∧ s.2.1 = c := by
  unfold ftR
  rw [e10, e11]
  constructor
  · rintro ⟨p, p0, p1, p2, p3, p5, p6⟩
    exact ⟨fL 168 h p, ⟨p, p0, p1, rfl⟩, p5, p6⟩
  · rintro ⟨s, ⟨p, p0, p1, rfl⟩, p5, p6⟩
    exact ⟨p, p0, p1, by omega, by omega, p5, p6⟩
theorem ftS_cg {S S' : mT → Prop} {t : Int} (e : ∀ s, S s ↔ S' s) : ftS S t = ftS S' t := by
  have : S = S' := funext (fun s => propext (e s))
  rw [this]
/-- what costs speak of is not another one (facts in their places) -/
def frZ2 (h h' : dm_H) : Prop := gr h' 1 8 = gr h 1 8 ∧ RLc h' = RLc h ∧ (∀ a i, (gr h 1 8 + 1 ≤ a ∧ a ≤ gr h 1 8 + 16) ∨ (3 ≤ a ∧ a ≤ 5) ∨ (144 ≤ a ∧ a ≤ 164) → gi h' a i = gi h a i) ∧ (gi h' 8 0 = gi h 8 0 ∧ ∀ p, 0 ≤ p → p < gi h 8 0 → fL 9 h' p = fL 9 h p) ∧ (∀ i, 15 ≤ i → gi h' 1 i = gi h 1 i) ∧ ∀ i, 44 ≤ i → gi h' 165 i = gi h 165 i
theorem frZ_2 (f : frZ h H) : frZ2 h H := by
  obtain ⟨f1, f2, f3, f4, f5⟩ := f
  refine ⟨f1, f2, fun a i q => f3 a i (by omega), ⟨f3 _ _ (by omega), fun p _ _ => ?_⟩, f4, f5⟩
  unfold fL
  rw [f3 9 p (by omega), f3 (9 + 1) p (by omega), f3 (9 + 2) p (by omega), f3 (9 + 3) p (by omega)]
end CLO
