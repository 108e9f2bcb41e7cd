/-! WITHOUT SOME FACTS: what follows, in both -/
section WOF
variable {h H : dm_H} {π : Int → Int}
theorem gds_ft {cl kd ly : Int → Int} {ft ft' : Int → Int → Prop} {RL : mU → Prop} {n : Int} {ω : mW} (e : ∀ r c, 0 ≤ r → r < 6 → (ft r c ↔ ft' r c)) (g : gds cl kd ly ft RL n ω) : gds cl kd ly ft' RL n ω := by
  refine ⟨g.1, fun L L0 L1 => ?_⟩
  obtain ⟨⟨a1, a2⟩, a3⟩ := g.2 L L0 L1
  refine ⟨⟨fun r c r0 r1 q l f => a1 r c r0 r1 q l ((e r c r0 r1).mpr f), a2⟩, fun Dm ω' d v low c => a3 Dm ω' d v low ⟨fun r c' r0 r1 q l f => c.1 r c' r0 r1 q l ((e r c' r0 r1).mp f), c.2⟩⟩
theorem muc_ftx {cl kd ly : Int → Int} {ft ft' : Int → Int → Prop} {RL : mU → Prop} (e : ∀ r c, 0 ≤ r → r < 6 → (ft r c ↔ ft' r c)) (m : muc cl kd ly ft RL) : muc cl kd ly ft' RL := by
  obtain ⟨L, ω, L0, g, n⟩ := m
  exact ⟨L, ω, L0, gds_ft e g, fun ω' v low c => n ω' v low ⟨fun r c' r0 r1 q l f => c.1 r c' r0 r1 q l ((e r c' r0 r1).mp f), c.2⟩⟩
/-- what follows without the facts g1, g2 is not too much, and Q holds of it -/
def hasQ (h : dm_H) (g1 g2 : Int) (Q : mW → Prop) : Prop := ∃ ω, gds (cK h) (gi h 4) (gi h 7) (ftC h (gi h 1 12) g1 g2) (RLc h) 12 ω ∧ Q ω
/-- Q speaks of sets of rows alone -/
def setQ (h : dm_H) (Q : mW → Prop) : Prop := ∀ ω ω', VW (cK h) (gi h 4) ω → VW (cK h) (gi h 4) ω' → (∀ r, 0 ≤ r → r < 6 → ∀ c, inW ω r c ↔ inW ω' r c) → Q ω → Q ω'
/-- what a run found -/
def ranQ (h : dm_H) (g1 g2 b : Int) (ω : mW) : Prop := (b = 1 ∧ gds (cK h) (gi h 4) (gi h 7) (ftC h (gi h 1 12) g1 g2) (RLc h) 12 ω) ∨ (b = 0 ∧ muc (cK h) (gi h 4) (gi h 7) (ftC h (gi h 1 12) g1 g2) (RLc h))
theorem lay12 (I : IN0 π h) : (∀ r, 0 ≤ r → r < 6 → 0 ≤ gi h 7 r ∧ gi h 7 r < 12) ∧ (∀ u, RLc h u → 0 ≤ u.2.1 ∧ u.2.1 < 6) ∧ ∀ u, RLc h u → RU (cK h) (gi h 4) (gi h 7) (ocL (RLc h)) u := by
  obtain ⟨IR, ID, B, J0, NM, G, HH, L, F, W⟩ := I
  have hU := RU_of IR.1.1.2 G L.1.1
  exact ⟨fun r r0 r1 => ⟨L.1.1.1 r r0 r1, by have := L.2.1 r r0 r1; have := L.2.2; omega⟩, fun u hu => (hU u hu).2.1, hU⟩
theorem hasQ_run (I : IN0 π h) {g1 g2 b : Int} {ω : mW} {Q : mW → Prop} (s : setQ h Q) (x : ranQ h g1 g2 b ω) : (b = 0 ∨ b = 1) ∧ (hasQ h g1 g2 Q ↔ b = 1 ∧ Q ω) := by
  have K := I.1.1
  have D := DC_of K
  obtain ⟨hl, hUr, -⟩ := lay12 I
  rcases x with ⟨q, g⟩ | ⟨q, m⟩
  · refine ⟨Or.inr q, ⟨fun ⟨ω', g', y⟩ => ⟨q, s ω' ω g'.1 g.1 (fun r r0 r1 c => ?_) y⟩, fun y => ⟨ω, g, y.2⟩⟩⟩
    exact gds_eq D (Dm := fun _ => True) (fun _ _ _ _ _ _ _ => trivial) (fun _ _ _ _ _ => Iff.rfl) (fun r r0 r1 => (hl r r0 r1).1) g' g r r0 r1 trivial (hl r r0 r1).2 c
  · refine ⟨Or.inl q, ⟨fun ⟨ω', g', y⟩ => (muc_no D hl m g' hUr).elim, fun y => by omega⟩⟩
theorem hasQ_1 {k : Int} (hk : 0 ≤ k) {Q : mW → Prop} : hasQ h k (-1) Q ↔ hasQ h k k Q := by
  have e : ∀ r c, 0 ≤ r → r < 6 → (ftC h (gi h 1 12) k (-1) r c ↔ ftC h (gi h 1 12) k k r c) := fun r c _ _ => ⟨fun ⟨p, p0, p1, p2, p3, p4⟩ => ⟨p, p0, p1, p2, p2, p4⟩, fun ⟨p, p0, p1, p2, p3, p4⟩ => ⟨p, p0, p1, p2, by omega, p4⟩⟩
  exact ⟨fun ⟨ω, g, q⟩ => ⟨ω, gds_ft e g, q⟩, fun ⟨ω, g, q⟩ => ⟨ω, gds_ft (fun r c r0 r1 => (e r c r0 r1).symm) g, q⟩⟩
/-- facts that do not bear on Dm may go: on Dm nothing changes -/
theorem hasQ_far (I : IN0 π h) {Dm : Int → Prop} (hd : dwn (RLc h) Dm) {g1 g2 g3 g4 : Int} (h1 : 0 ≤ g1 → g1 < gi h 8 0 → g1 ≠ g3 → g1 ≠ g4 → ¬ Dm (gi h 9 g1)) (h2 : 0 ≤ g2 → g2 < gi h 8 0 → g2 ≠ g3 → g2 ≠ g4 → ¬ Dm (gi h 9 g2)) (h3 : 0 ≤ g3 → g3 < gi h 8 0 → g3 ≠ g1 → g3 ≠ g2 → ¬ Dm (gi h 9 g3)) (h4 : 0 ≤ g4 → g4 < gi h 8 0 → g4 ≠ g1 → g4 ≠ g2 → ¬ Dm (gi h 9 g4)) {ω ω' : mW} (g : gds (cK h) (gi h 4) (gi h 7) (ftC h (gi h 1 12) g1 g2) (RLc h) 12 ω) (g' : gds (cK h) (gi h 4) (gi h 7) (ftC h (gi h 1 12) g3 g4) (RLc h) 12 ω') : ∀ r, 0 ≤ r → r < 6 → Dm r → ∀ c, inW ω r c ↔ inW ω' r c := by
  have D := DC_of I.1.1
  obtain ⟨hl, hUr, -⟩ := lay12 I
  refine fun r r0 r1 q c => gds_eq D hd (fun r c r0 r1 q => ?_) (fun r r0 r1 => (hl r r0 r1).1) g g' r r0 r1 q (hl r r0 r1).2 c
  constructor
  · rintro ⟨p, p0, p1, p2, p3, p4, p5, p6⟩
    refine ⟨p, p0, p1, fun z => ?_, fun z => ?_, p4, p5, p6⟩
    · subst z; exact h3 p0 p1 p2 p3 (by rw [p5]; exact q)
    · subst z; exact h4 p0 p1 p2 p3 (by rw [p5]; exact q)
  · rintro ⟨p, p0, p1, p2, p3, p4, p5, p6⟩
    refine ⟨p, p0, p1, fun z => ?_, fun z => ?_, p4, p5, p6⟩
    · subst z; exact h1 p0 p1 p2 p3 (by rw [p5]; exact q)
    · subst z; exact h2 p0 p1 p2 p3 (by rw [p5]; exact q)
/-- what trying may touch -/
def frX (h h' : dm_H) : Prop := (∀ a i, ¬ (gr h 1 9 + 1 ≤ a ∧ a ≤ gr h 1 9 + 16) → ¬ (a = gr h 1 9 ∧ i = 5) → ¬ (137 ≤ a ∧ a ≤ 143) → ¬ (a = 165 ∧ (i = 0 ∨ i = 10 ∨ i = 11 ∨ (27 ≤ i ∧ i ≤ 34) ∨ 44 ≤ i)) → ¬ (175 ≤ a ∧ a ≤ 180) → ¬ (183 ≤ a ∧ a ≤ 190) → gi h' a i = gi h a i) ∧ (∀ a i, ¬ (137 ≤ a ∧ a ≤ 143) → gr h' a i = gr h a i) ∧ h'.2.2.2 = h.2.2.2
/-- what trying may touch in the class -/
def fpx (h h' : dm_H) : Prop := (∀ a i, ¬ (gr h 1 9 + 1 ≤ a ∧ a ≤ gr h 1 9 + 16) → ¬ (a = gr h 1 9 ∧ i = 5) → ¬ (137 ≤ a ∧ a ≤ 143) → gi h' a i = gi h a i) ∧ (∀ a i, ¬ (137 ≤ a ∧ a ≤ 143) → gr h' a i = gr h a i) ∧ h'.2.2 = h.2.2
theorem frX_refl (h : dm_H) : frX h h := ⟨fun _ _ _ _ _ _ _ _ => rfl, fun _ _ _ => rfl, rfl⟩
theorem fpx_refl (h : dm_H) : fpx h h := ⟨fun _ _ _ _ _ => rfl, fun _ _ _ => rfl, rfl⟩
theorem frX_trans {h h1 h2 : dm_H} (a : frX h h1) (b : frX h1 h2) : frX h h2 := by
  have e : gr h1 1 9 = gr h 1 9 := a.2.1 _ _ (by omega)
  exact ⟨fun c i p q r s t u => by rw [b.1 c i (by rw [e]; exact p) (by rw [e]; exact q) r s t u, a.1 c i p q r s t u], fun c i p => by rw [b.2.1 c i p, a.2.1 c i p], by rw [b.2.2, a.2.2]⟩
theorem fpx_trans {h h1 h2 : dm_H} (a : fpx h h1) (b : fpx h1 h2) : fpx h h2 := by
  have e : gr h1 1 9 = gr h 1 9 := a.2.1 _ _ (by omega)
  exact ⟨fun c i p q r => by rw [b.1 c i (by rw [e]; exact p) (by rw [e]; exact q) r, a.1 c i p q r], fun c i p => by rw [b.2.1 c i p, a.2.1 c i p], by rw [b.2.2, a.2.2]⟩
theorem frX_P (f : fpx h H) : frX h H := ⟨fun a i p q r _ _ _ => f.1 a i p q r, f.2.1, by rw [f.2.2]⟩
theorem fpx_S (f : frS (gr h 1 9) h H) : fpx h H := ⟨fun a i p q r => f.1 a i p q r, fun a i p => f.2.1 a i (by omega) (by omega) (by omega), f.2.2⟩
theorem frX_F (f : frF h H) : frX h H := ⟨fun a i _ _ _ s t u => f.1 a i t (by omega) (by omega), fun a i _ => f.2.1 a i, by rw [f.2.2]⟩
theorem fpx_J (f : frJ h H) : fpx h H := ⟨fun a i _ _ r => f.1 a i (by omega), fun a i r => f.2.1 a i (by omega), f.2.2⟩
theorem frX_l {v : Int} : frX h (sl h 0 v) := ⟨fun _ _ _ _ _ _ _ _ => rfl, fun _ _ _ => rfl, rfl⟩
theorem frX_i {i x : Int} (hi : i = 0 ∨ i = 10 ∨ i = 11 ∨ (27 ≤ i ∧ i ≤ 34) ∨ 44 ≤ i) : frX h (si h 165 i x) := ⟨fun a j _ _ _ s _ _ => by rw [gi_si, if_neg (fun w => s ⟨w.1, by rw [w.2]; exact hi⟩)], fun _ _ _ => rfl, rfl⟩
theorem frX_M (f : frM h H) : frX h H := ⟨fun a i _ _ _ s t u => f.1 a i (by omega) (by omega) (by omega) (by omega), fun a i _ => f.2.1 a i, by rw [f.2.2]⟩
theorem frX_IN (I : IN0 π h) (f : frX h H) (e10 : gi H 165 10 = -1) (e11 : gi H 165 11 = -1) (E : eqW (rW h) (rW H)) : IN0 π H ∧ gr H 1 8 = gr h 1 8 ∧ RLc H = RLc h ∧ (∀ a i, (gr h 1 8 + 1 ≤ a ∧ a ≤ gr h 1 8 + 16) ∨ (3 ≤ a ∧ a ≤ 5) ∨ (8 ≤ a ∧ a ≤ 12) ∨ (144 ≤ a ∧ a ≤ 164) → gi H a i = gi h a i) ∧ ∀ i, 15 ≤ i → gi H 1 i = gi h 1 i := by
  have hW := I.2.2.2.2.2.2.2.2.2.1
  have F := I.2.2.2.2.2.2.2.2.1
  have hP : gr h 1 8 = 95 ∨ gr h 1 8 = 112 := hW.1
  have hQ : gr h 1 9 = 95 ∨ gr h 1 9 = 112 := hW.2.1
  have hPQ := hW.2.2
  have g : ∀ a i, ¬ (gr h 1 9 + 1 ≤ a ∧ a ≤ gr h 1 9 + 16) → ¬ (a = gr h 1 9 ∧ i = 5) → ¬ (137 ≤ a ∧ a ≤ 143) → ¬ (a = 165 ∧ (i = 0 ∨ (27 ≤ i ∧ i ≤ 34) ∨ 44 ≤ i)) → ¬ ((175 ≤ a ∧ a ≤ 180) ∨ (183 ≤ a ∧ a ≤ 190)) → gi H a i = gi h a i := by
    intro a i p q r s t
    by_cases z : a = 165 ∧ (i = 10 ∨ i = 11)
    · rcases z with ⟨rfl, rfl | rfl⟩
      · rw [e10, F.2.2.2.2.2.2.2.1]
      · rw [e11, F.2.2.2.2.2.2.2.2]
    · exact f.1 a i p q r (by omega) (by omega) (by omega)
  have fr : fr0 h H := ⟨fun a i c => g a i (by unfold crd at c; omega) (by unfold crd at c; omega) (by unfold crd at c; omega) (by unfold crd at c; omega) (by unfold crd at c; omega), ⟨f.2.1 _ _ (by omega), f.2.1 _ _ (by omega), f.2.1 _ _ (by omega)⟩, fun j => f.2.1 _ _ (by omega)⟩
  have hl := CHL_cg fr (fun i => g _ _ (by omega) (by omega) (by omega) (by omega) (by omega)) (fun i => g _ _ (by omega) (by omega) (by omega) (by omega) (by omega)) (g _ _ (by omega) (by omega) (by omega) (by omega) (by omega)) I
  have hA : ∀ j, 0 ≤ j → j < gi h 13 1 → ru (gr h 14 j) := fun j j0 j1 => (I.2.2.1.2.2.1 j j0 j1).1
  refine ⟨IN0_cg fr E hl.1 hl.2 I, f.2.1 _ _ (by omega), RLc_cg2 (g _ _ (by omega) (by omega) (by omega) (by omega) (by omega)) (fun j _ _ => f.2.1 _ _ (by omega)) (fun j j0 j1 a i p q _ => by
    have := ru_r (hA j j0 j1)
    exact g a i (by omega) (by omega) (by omega) (by omega) (by omega)), fun a i q => g a i (by omega) (by omega) (by omega) (by omega) (by omega), fun i _ => g _ _ (by omega) (by omega) (by omega) (by omega) (by omega)⟩
theorem frX_all (I : IN0 π h) (f : frX h H) (e10 : gi H 165 10 = -1) (e11 : gi H 165 11 = -1) (E : eqW (rW h) (rW H)) (e44 : ∀ i, 44 ≤ i → gi H 165 i = gi h 165 i) : IN0 π H ∧ frZ h H := by
  obtain ⟨a1, a2, a3, a4, a5⟩ := frX_IN I f e10 e11 E
  exact ⟨a1, a2, a3, a4, a5, e44⟩
/-- the class tries without two facts -/
theorem run_c {d : Nat} (hd : 10 ≤ d) (I : IN0 π h) (f : fpx h H) (g1 g2 : Int) : ∃ b H', dF d 58 [dR 1 1 143, dR 1 7 (gr h 1 9), dI (gi h 1 12), dI g1, dI g2] H = rI b H' ∧ fpx h H' ∧ ranQ h g1 g2 b (cW H' (gr h 1 9)) ∧ (b = 1 → still H' (gr h 1 9)) := by
  have hW := I.2.2.2.2.2.2.2.2.2.1
  have hP : gr h 1 8 = 95 ∨ gr h 1 8 = 112 := hW.1
  have hQ : gr h 1 9 = 95 ∨ gr h 1 9 = 112 := hW.2.1
  have s := spare_all (h' := H) I (fun a i p q r _ _ => f.1 a i p q r) f.2.1
  have IH := s.1
  have e : ∀ a i, a < 95 → gi H a i = gi h a i := fun a i ha => f.1 a i (by omega) (by omega) (by omega)
  have eK : cK H = cK h := by unfold cK; simp only [show ∀ i, gi H 3 i = gi h 3 i from fun i => e _ _ (by omega)]
  have e4 : gi H 4 = gi h 4 := funext (fun i => e _ _ (by omega))
  have e7 : gi H 7 = gi h 7 := funext (fun i => e _ _ (by omega))
  have eR : RLc H = RLc h := s.2.2.1
  have eF : ftC H (gi h 1 12) g1 g2 = ftC h (gi h 1 12) g1 g2 := by
    funext r c
    unfold ftC
    simp only [show gi H 8 0 = gi h 8 0 from e _ _ (by omega), show ∀ i, gi H 9 i = gi h 9 i from fun i => e _ _ (by omega), show ∀ i, gi H 10 i = gi h 10 i from fun i => e _ _ (by omega), show ∀ i, gi H 12 i = gi h 12 i from fun i => e _ _ (by omega)]
  have er : gr H 1 9 = gr h 1 9 := f.2.1 _ _ (by omega)
  obtain ⟨IR, ID, B, J0, NM, G, HH, L, F, W⟩ := IH
  obtain ⟨b, H', x1, x2, x3⟩ := cls_found (d := d) hd (P := gr h 1 9) hQ IR.1 (BKS_c B) G L F.1 (gi h 1 12) g1 g2
  have st := cls_still (d := d) hd (P := gr h 1 9) hQ IR.1 (BKS_c B) G L F.1 (gi h 1 12) g1 g2 x1
  rw [eK, e4, e7, eF, eR] at x3
  obtain ⟨hl, hUr, -⟩ := lay12 I
  have L' := L
  refine ⟨b, H', x1, fpx_trans f (fpx_S (by rw [er]; exact x2)), ?_, st⟩
  rcases x3 with ⟨q, g⟩ | ⟨q, m⟩
  · refine Or.inl ⟨q, gds_up (fun r r0 r1 => ?_) hUr g⟩
    have := L.2.1 r r0 r1
    rw [e7] at this
    omega
  · exact Or.inr ⟨q, m⟩
theorem frX_r (I : IN0 π h) (f : frX h H) : (∀ r, gi H 167 r = gi h 4 r) ∧ FVr (cK h) (gi h 4) H ∧ HBr (cK h) (gi h 4) (RLc h) (Uπ π h) H ∧ ∀ r c, 0 ≤ r → r < 6 → (ftC h (gi h 1 12) (gi H 165 10) (gi H 165 11) r c ↔ ftR H r c) := by
  have hW := I.2.2.2.2.2.2.2.2.2.1
  have hQ : gr h 1 9 = 95 ∨ gr h 1 9 = 112 := hW.2.1
  obtain ⟨IR, ID, B, J0, NM, G, HH, L, F, W⟩ := I
  have e : ∀ a i, 166 ≤ a → a ≤ 174 → gi H a i = gi h a i := fun a i h1 h2 => f.1 a i (by omega) (by omega) (by omega) (by omega) (by omega) (by omega)
  have e5 : gi H 165 5 = gi h 165 5 := f.1 _ _ (by omega) (by omega) (by omega) (by omega) (by omega) (by omega)
  refine ⟨fun r => by rw [e _ _ (by omega) (by omega), (IR.2.2.1 r).2], ?_, HBr_cg (fun i => e _ _ (by omega) (by omega)) (fun i => e _ _ (by omega) (by omega)) (fun i => e _ _ (by omega) (by omega)) (fun i => e _ _ (by omega) (by omega)) (BKS_HBr IR B), ?_⟩
  · have := FVr_of IR F
    unfold FVr at this ⊢
    simp only [e5, show ∀ i, gi H 168 i = gi h 168 i from fun i => e _ _ (by omega) (by omega), show ∀ i, gi H 169 i = gi h 169 i from fun i => e _ _ (by omega) (by omega), show ∀ i, gi H 166 i = gi h 166 i from fun i => e _ _ (by omega) (by omega), show ∀ i, gi H 167 i = gi h 167 i from fun i => e _ _ (by omega) (by omega)]
    exact this
  · refine ft_eq IR F (by rw [e5]; exact F.2.2.1) (fun p p0 p1 => ?_) rfl rfl (Int.le_refl _)
    have q := F.2.2.2.1 p p0 p1
    exact ⟨by rw [e 168 p (by omega) (by omega)]; exact congrArg (fun t => t.1) q, by rw [e 169 p (by omega) (by omega)]; exact congrArg (fun t => t.2.1) q⟩
/-- the reference tries without the facts that it is to leave out -/
theorem run_r {d : Nat} (hd : 12 ≤ d) (I : IN0 π h) (f : frX h H) : ∃ b H', dF d 177 [dR 1 11 165] H = rI b H' ∧ frF H H' ∧ ranQ h (gi H 165 10) (gi H 165 11) b (rW H') ∧ (b = 1 → SRT (rW H')) := by
  obtain ⟨r1, r2, r3, r4⟩ := frX_r I f
  obtain ⟨IR, ID, B, J0, NM, G, HH, L, F, W⟩ := I
  obtain ⟨b, H', x1, x2, x3, x4⟩ := ref_follows (d := d) hd (DC_of IR.1) IR.1.1.2 G r1 r2 r3 L.1 (fun r r0 r1 => by have := L.2.1 r r0 r1; have := L.2.2; omega)
  refine ⟨b, H', x1, x2, ?_, fun q => ?_⟩
  · rcases x4 with ⟨q, -, g⟩ | ⟨q, m⟩
    · exact Or.inl ⟨q, gds_ft (fun r c r0 r1 => (r4 r c r0 r1).symm) g⟩
    · exact Or.inr ⟨q, muc_ftx (fun r c r0 r1 => (r4 r c r0 r1).symm) m⟩
  · rcases x4 with ⟨-, s, -⟩ | ⟨z, -⟩
    · exact s
    · omega
/-- the reference puts its rows aside, and brings them back -/
theorem aside_r {d : Nat} (hd : 2 ≤ d) (I : IN0 π h) (f : frX h H) (E : eqW (rW h) (rW H)) : ∃ H', dF d 174 [dR 1 11 165] H = rV H' ∧ (∀ a i, a ≠ 183 → a ≠ 184 → gi H' a i = gi H a i) ∧ frX H H' ∧ H'.2.2 = H.2.2 ∧ eqW (rW h) (aW H') := by
  have z := rows_z I
  obtain ⟨H', x1, x2, x3, x4, x5⟩ := s174 (d := d) hd (h := H) (fun r r0 r1 => by
    have e : gi H 178 r = gi h 178 r := (E r r0 r1).1
    rw [e]; exact (z r r0 r1).1)
  exact ⟨H', x1, x2, ⟨fun a i _ _ _ _ _ u => x2 a i (by omega) (by omega), fun a i _ => x3 a i, by rw [x4]⟩, x4, eqW_trans E x5⟩
theorem back_r {d : Nat} (hd : 5 ≤ d) (I : IN0 π h) (f : frX h H) (E : eqW (rW h) (aW H)) : ∃ H', dF d 212 [dR 1 11 165] H = rV H' ∧ frX h H' ∧ H'.2.2 = H.2.2 ∧ eqW (rW h) (rW H') ∧ gi H' 165 10 = -1 ∧ gi H' 165 11 = -1 ∧ ∀ a i, ¬ (175 ≤ a ∧ a ≤ 178) → ¬ (a = 165 ∧ (i = 10 ∨ i = 11)) → gi H' a i = gi H a i := by
  obtain ⟨r1, r2, r3, r4⟩ := frX_r I f
  have z := rows_z I
  obtain ⟨IR, ID, B, J0, NM, G, HH, L, F, W⟩ := I
  obtain ⟨H', x1, x2, x3, x4, x5, x6, x7⟩ := s212 (d := d) (h := H) hd G r1 r3 L.1 (fun r r0 r1 => by have := L.2.1 r r0 r1; have := L.2.2; omega) (fun r r0 r1 => by
    have e : gi H 184 r = gi h 178 r := (E r r0 r1).1
    rw [e]; exact (z r r0 r1).1)
  exact ⟨H', x1, frX_trans f ⟨fun a i _ _ _ s t _ => x2 a i (by omega) (by omega), fun a i _ => x3 a i, by rw [x4]⟩, x4, eqW_trans E x5, x6, x7, x2⟩
/-- the reference's rows put aside stay -/
theorem aW_same {H1 H2 : dm_H} (e : ∀ a i, a = 183 ∨ a = 184 → gi H2 a i = gi H1 a i) : eqW (aW H1) (aW H2) := fun r _ _ => ⟨e _ _ (by omega), fun x _ _ => e _ _ (by omega)⟩
end WOF
