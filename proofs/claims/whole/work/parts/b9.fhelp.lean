/-! CALLS THAT CHANGE FACTS: both sides find the same for the same set of facts -/
section FHP
variable {h H : dm_H} {π : Int → Int}
theorem gi_siq {h : dm_H} {a b : Nat} {i j v : Int} (q : ¬ (b = a ∧ j = i)) : gi (si h a i v) b j = gi h b j := by rw [gi_si, if_neg q]
theorem vcd_w {n a b c : Int} (hn : 1 ≤ n ∧ n ≤ 3) (w : wit n 0 99 a b c) : vcd n (a * 10000 + b * 100 + c) := by
  have hb := wit_99 w (by omega) (by omega)
  obtain ⟨w1, w2, w3⟩ := w
  refine ⟨by omega, fun i in_ i0 i3 => ?_⟩
  unfold cv
  by_cases z : i = 1
  · rw [if_neg (by omega), if_pos z]; omega
  · rw [if_neg (by omega), if_neg z]; omega
/-- the reference's facts are the class's -/
theorem inF_r (F : IFc h) (s : mT) : inF (fL 168 h) (gi h 165 5) s ↔ inF (fL 9 h) (gi h 8 0) s := by
  obtain ⟨F1, F2, F3, F4, -⟩ := F
  unfold inF
  rw [F3]
  constructor
  · rintro ⟨x, x0, x1, x2⟩
    exact ⟨x, x0, x1, by rw [← F4 x x0 x1]; exact x2⟩
  · rintro ⟨x, x0, x1, x2⟩
    exact ⟨x, x0, x1, by rw [F4 x x0 x1]; exact x2⟩
theorem FO_r (F : IFc h) : FO (fL 168 h) (gi h 165 5) := by
  obtain ⟨F1, F2, F3, F4, -⟩ := F
  rw [F3]
  intro x y x0 xy y1
  rw [F4 x x0 (by omega), F4 y (by omega) y1]
  exact F2 x y x0 xy y1
theorem FV_mk {m : Int} (hm : 0 ≤ m ∧ m ≤ 24) (e8 : gi H 8 0 = m) (ok : ∀ s, inF (fL 9 H) m s → okF h s) (e3 : ∀ i, gi H 3 i = gi h 3 i) (e2 : gi H 2 0 = gi h 2 0) : FV H := by
  have ec : cK H = cK h := by unfold cK; simp only [e3]
  unfold FV
  rw [ec, e8, e2]
  exact ⟨hm, fun p p0 p1 => ⟨(ok _ ⟨p, p0, p1, rfl⟩).1, (ok _ ⟨p, p0, p1, rfl⟩).2.1⟩⟩
theorem FVr_mk {m : Int} (I : IRel h) (hm : 0 ≤ m ∧ m ≤ 24) (e5 : gi H 165 5 = m) (ok : ∀ s, inF (fL 168 H) m s → okF h s) (e6 : ∀ i, gi H 166 i = gi h 166 i) (e7 : ∀ i, gi H 167 i = gi h 167 i) : FVr (cK h) (gi h 4) H := by
  obtain ⟨I1, I2, I3, I4⟩ := I
  have h6 := I1.1
  refine ⟨by rw [e5]; exact hm, fun p p0 p1 => ?_⟩
  rw [e5] at p1
  obtain ⟨v1, v2, -⟩ := ok _ ⟨p, p0, p1, rfl⟩
  have v1 : 0 ≤ gi H 168 p ∧ gi H 168 p < gi h 2 0 := v1
  exact ⟨by omega, by rw [e6, (I3 _).1, (cK_c I1 v1.1 v1.2).1], by rw [e7, (I3 _).2], v2⟩
/-- joint, for the class's facts in the heap h1 and the reference's in H -/
theorem jointF {d e : Nat} (hd : 10 ≤ d) (he : 12 ≤ e) {Q : Nat} (hq : rw_ Q) (I : IN0 π h) {h1 : dm_H} (f : frF4 9 8 0 h h1) {m : Int} (hm : 0 ≤ m ∧ m ≤ 24) (e8 : gi h1 8 0 = m) (ok : ∀ s, inF (fL 9 h1) m s → okF h s) (t g1 g2 : Int) :
    ∃ b h2, dF d 58 [dR 1 1 143, dR 1 7 Q, dI t, dI g1, dI g2] h1 = rI b h2 ∧ frS Q h1 h2 ∧ (b = 0 ∨ b = 1) ∧ (b = 1 → gds (cK h) (gi h 4) (gi h 7) (ftC h1 t g1 g2) (RLc h) 12 (cW h2 Q) ∧ (∀ r, gi h 2 0 ≤ r → r < 6 → rsz h2 Q r = 0) ∧ still h2 Q) ∧
      ∀ (H : dm_H) (k : Int), (∀ a i, a = 166 ∨ a = 167 ∨ a = 172 ∨ a = 174 → gi H a i = gi h a i) → (0 ≤ k ∧ k ≤ 24) → gi H 165 5 = k → (∀ s, inF (fL 168 H) k s → okF h s) → (∀ r c, 0 ≤ r → r < 6 → (ftC h1 t g1 g2 r c ↔ ftR H r c)) →
        ∃ H', dF e 177 [dR 1 11 165] H = rI b H' ∧ frF H H' ∧ (b = 1 → SRT (rW H') ∧ VW (cK h) (gi h 4) (rW H') ∧ ∀ r, 0 ≤ r → r < 6 → ∀ c, inW (cW h2 Q) r c ↔ inW (rW H') r c) := by
  obtain ⟨K1, C1, G1', L1, ec, e4, e7, eR, e20⟩ := cls_fr I f
  obtain ⟨IR, ID, B, J0, NM, G, HH, L, F, W⟩ := I
  have F1 : FV h1 := FV_mk (h := h) hm e8 ok (fun i => f.1 3 i (by omega) (by omega)) e20
  obtain ⟨b, h2, y1, y2, y3, y4, y5⟩ := joint (d := d) (e := e) hd he hq K1 C1 G1' L1 F1 t g1 g2
  refine ⟨b, h2, y1, y2, y3, fun q => ?_, fun H k eH hk e5 okr ft => ?_⟩
  · obtain ⟨gd, stl⟩ := y4 q
    rw [ec, e4, e7, eR] at gd
    have h6 := IR.1.1
    refine ⟨gd, fun r r0 r1 => gds_none gd (by omega) r1 ⟨L.1.1.1 r (by omega) r1, by have := L.2.1 r (by omega) r1; have := L.2.2; omega⟩ (fun c ⟨p, p0, p1, _, _, _, p5, _⟩ => ?_) (fun u hu => ?_), stl⟩
    · have := (F1.2 p p0 p1).1
      omega
    · have := (G u hu).1.2.1; omega
  · have HB := HBr_cg (h := h) (h' := H) (fun i => eH _ _ (by omega)) (fun i => eH _ _ (by omega)) (fun i => eH _ _ (by omega)) (fun i => eH _ _ (by omega)) (BKS_HBr IR B)
    have FR := FVr_mk IR hk e5 okr (fun i => eH _ _ (by omega)) (fun i => eH _ _ (by omega))
    have := y5 H _ (fun r => by rw [eH _ _ (by omega), (IR.2.2.1 r).2, e4]) (by rw [ec, e4]; exact FR) (by rw [ec, e4, eR]; exact HB) ft
    rw [ec, e4] at this
    obtain ⟨H', z1, z2, z3, z4⟩ := this
    exact ⟨H', z1, z2, z4⟩
/-- the class takes the new rows over -/
theorem takeF {d : Nat} (hd : 3 ≤ d) (I : IN0 π h) {h2 : dm_H} {Q : Nat} (eQ : gr h 1 9 = Q) (e2 : gi h2 2 0 = gi h 2 0) (er : gr h2 1 8 = gr h 1 8 ∧ gr h2 1 9 = gr h 1 9) (eW : ∀ a i, gr h 1 8 + 1 ≤ a → a ≤ gr h 1 8 + 8 → gi h2 a i = gi h a i) {cl kd : Int → Int} (V : VW cl kd (cW h2 Q)) (hz : ∀ r, gi h 2 0 ≤ r → r < 6 → rsz h2 Q r = 0) :
    eqW (cW h (gr h 1 8)) (cW h2 (gr h 1 8)) ∧ ∃ h', dF d 83 [dR 1 10 1] h2 = rV h' ∧ (∀ a i, ¬ (Q + 3 ≤ a ∧ a ≤ Q + 8) → ¬ (a = 1 ∧ 13 ≤ i ∧ i ≤ 16) → gi h' a i = gi h2 a i) ∧ (gr h' 1 8 = Q ∧ gr h' 1 9 = gr h 1 8) ∧ (∀ a i, ¬ (a = 1 ∧ (i = 8 ∨ i = 9)) → gr h' a i = gr h2 a i) ∧ h'.2.2 = h2.2.2 ∧ SRT (cW h' Q) ∧ (∀ r, 0 ≤ r → r < 6 → rsz h' Q r = rsz h2 Q r) ∧ (∀ r, 0 ≤ r → r < 6 → ∀ c, inW (cW h' Q) r c ↔ inW (cW h2 Q) r c) ∧ gi h' 1 13 = ms (cW h' Q) (cW h2 (gr h 1 8)) ∧ gi h' 1 14 = ms (cW h2 (gr h 1 8)) (cW h' Q) ∧ gi h' 1 15 = 0 ∧ gi h' 1 16 = 0 := by
  have n6 := I.1.1.1
  obtain ⟨⟨wP, wQ, wPQ⟩, W2, W3, W4, W5, W6, W7⟩ := I.2.2.2.2.2.2.2.2.2
  have gP := cW_far wP eW
  refine ⟨gP, s83 hd er.1 (by rw [er.2, eQ]) wP (by rw [← eQ]; exact wQ) (by rw [← eQ]; exact wPQ) V (fun r r0 r1 => ?_) (by rw [e2]; exact n6) (fun r r0 r1 => ?_)⟩
  · have e : rsz h2 (gr h 1 8) r = rsz h (gr h 1 8) r := (gP r r0 r1).1
    rw [e]; exact (W7.1 r r0 r1).1
  · rw [e2] at r0
    refine ⟨hz r r0 r1, ?_⟩
    have e : rsz h2 (gr h 1 8) r = rsz h (gr h 1 8) r := (gP r (by omega) r1).1
    rw [e]; exact W4 r r0 r1
theorem gds_fr0 (I : IN0 π h) {ft : Int → Int → Prop} {ω ω' : mW} (e : eqW ω ω') (g : gds (cK h) (gi h 4) (gi h 7) ft (RLc h) 12 ω) : gds (cK h) (gi h 4) (gi h 7) ft (RLc h) 12 ω' :=
  eqW_gds (DC_of I.1.1) (RU_of I.1.1.1.2 I.2.2.2.2.2.1 I.2.2.2.2.2.2.2.1.1.1) e g
end FHP
