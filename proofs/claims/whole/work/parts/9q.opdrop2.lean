/-! THE CALL drop, on -/
section ODR2
variable {h : dm_H} {π : Int → Int}
theorem rW_same {h h' : dm_H} (e1 : ∀ i, gi h' 177 i = gi h 177 i) (e2 : ∀ i, gi h' 178 i = gi h 178 i) : eqW (rW h) (rW h') := fun r _ _ => ⟨e2 r, fun x _ _ => e1 (40 * r + x)⟩
/-- a relation of which nothing is told and that no rule makes has no rows -/
theorem gds_none {cl kd ly : Int → Int} {ft : Int → Int → Prop} {RL : mU → Prop} {ω : mW} (g : gds cl kd ly ft RL 12 ω) {r : Int} (r0 : 0 ≤ r) (r1 : r < 6) (l : 0 ≤ ly r ∧ ly r < 12) (hf : ∀ c, ¬ ft r c) (hu : ∀ u, RL u → u.2.1 ≠ r) : ω.1 r = 0 := by
  have V := g.1 r r0 r1
  by_cases z : ω.1 r = 0
  · exact z
  exfalso
  have V0 : VW cl kd ((fun _ => 0, fun _ _ => 0) : mW) := fun q q0 q1 => ⟨⟨Int.le_refl _, by show (0 : Int) ≤ 32; omega⟩, fun x x0 x1 => by have x1 : x < 0 := x1; omega, fun x y x0 xy y1 => by have y1 : y < 0 := y1; omega⟩
  obtain ⟨x, ⟨y, y0, y1, y2⟩, x2⟩ := (g.2 (ly r) l.1 l.2).2 (fun q => q = r) ((fun _ => 0, fun _ _ => 0) : mW) (fun u hU q => absurd q (hu u hU)) V0 (fun q q0 q1 e lq => by rw [e] at lq; omega) ⟨fun q c q0 q1 e _ f => absurd (by rw [← e]; exact f) (hf c), fun u hU q => absurd q (hu u hU)⟩ r r0 r1 rfl rfl (ω.2 r 0) ⟨0, by omega, by omega, rfl⟩
  have y1 : y < 0 := y1
  omega
theorem thr0 {h : dm_H} {x : Int} : gi (si h 165 0 x) 165 0 = x := by rw [gi_si, if_pos ⟨rfl, rfl⟩]
theorem s123 {d : Nat} (hd : 1 ≤ d) (x : Int) (y : dm_O) (e : dF (d - 1) 124 [dR 1 10 1, dI x] h = y) : (∀ h', y = rV h' → dF d 123 [dR 1 10 1, dI x] h = rI 0 h') ∧ (∀ h', y = rX 0 h' → dF d 123 [dR 1 10 1, dI x] h = rI 1 h') ∧ ∀ h', y = rX 2 h' → dF d 123 [dR 1 10 1, dI x] h = rI 2 h' := by
  rw [f123 (by omega), b123_0, e]
  refine ⟨fun h' ex => ?_, fun h' ex => ?_, fun h' ex => ?_⟩
  · rw [ex, bk_n, b123_5]
  · rw [ex, bk_c (g := 8) (j := 2) (n := 1) (L' := [lR 1 10 1, lI x, none]) rfl (fun f => rfl)]
    exact b123_9 _ _ _ _ _
  · rw [ex, bk_c (g := 11) (j := 2) (n := 1) (L' := [lR 1 10 1, lI x, none]) rfl (fun f => rfl)]
    exact b123_12 _ _ _ _ _
theorem fr0_of {h h' : dm_H} (e : ∀ a i, crd (gr h 1 8) a i → gi h' a i = gi h a i) (er : ∀ a i, gr h' a i = gr h a i) : fr0 h h' := ⟨e, ⟨er _ _, er _ _, er _ _⟩, fun j => er _ _⟩
/-- nothing but what was thrown -/
theorem thr_all (I : IN0 π h) (x : Int) : IN0 π (si (sg h 6) 165 0 x) ∧ frZ h (si (sg h 6) 165 0 x) ∧ rm h (si (sg h 6) 165 0 x) := by
  have g : ∀ a i, ¬ (a = 165 ∧ i = 0) → gi (si (sg h 6) 165 0 x) a i = gi h a i := fun a i hi => by rw [gi_si, if_neg hi]; rfl
  have f : fr0 h (si (sg h 6) 165 0 x) := fr0_of (fun a i c => g a i (fun w => by rw [w.1, w.2] at c; have := I.2.2.2.2.2.2.2.2.2.1.1; unfold crd at c; unfold rw_ at this; omega)) (fun _ _ => rfl)
  have hl := CHL_cg f (fun i => g _ _ (by omega)) (fun i => g _ _ (by omega)) (g _ _ (by omega)) I
  have hP : rw_ (gr h 1 8) := I.2.2.2.2.2.2.2.2.2.1.1
  have hA : ∀ j, 0 ≤ j → j < gi h 13 1 → ru (gr h 14 j) := fun j j0 j1 => (I.2.2.1.2.2.1 j j0 j1).1
  refine ⟨IN0_cg f (rW_same (fun i => g _ _ (by omega)) (fun i => g _ _ (by omega))) hl.1 hl.2 I, ⟨rfl, RLc_cg2 (g _ _ (by omega)) (fun j _ _ => rfl) (fun j j0 j1 a i p q _ => g a i (by have := ru_r (hA j j0 j1); omega)), fun a i q => g a i (fun w => by unfold rw_ at hP; omega), fun i _ => g _ _ (by omega), fun i hi => g _ _ (by omega)⟩, ⟨rfl, Nat.le_refl _, Nat.le_refl _, ct_e (g _ _ (by omega)) (g _ _ (by omega))⟩⟩
theorem op_drop {d : Nat} (hd : 14 ≤ d) (I : IN0 π h) (x : Int) : ∃ k h1 h2 π', dF d 123 [dR 1 10 1, dI x] h = rI k h1 ∧ dF d 238 [dR 1 11 165, dI x] h1 = rV h2 ∧ gi h2 165 0 = k ∧ IN0 π' h2 ∧ (frZ h h2 ∨ dwnF h2) ∧ rm h h2 := by
  have I' := I
  obtain ⟨IR, ID, B, J0, NM, G, HH, L, F, W⟩ := I
  obtain ⟨⟨wP, wQ, wPQ⟩, W2, W3, W4, W5, W6, W7⟩ := W
  have hn := B.1
  have K := IR.1
  have w := s123 (h := h) (d := d) (by omega) x _ rfl
  have c0 := s125 (h := h) (d := d - 1 - 1) (by omega) x hn
  rcases plc_same I' x with ⟨p1, p2⟩ | ⟨g, hg, gx, p1, p2, pg⟩
  · -- no such rule
    rw [p1, if_pos rfl] at c0
    have c : dF (d - 1) 124 [dR 1 10 1, dI x] h = rX 0 (sg h 6) := by rw [f124 (by omega), b124_0, c0, bk_x rfl]
    have r0 := s239 (h := sg h 6) (d := d - 1) (by omega) x
    have e : fz (fun p => gi (sg h 6) 174 p ≠ 0 ∧ gi (sg h 6) 173 p = x) 10 0 = -1 := p2
    rw [e] at r0
    obtain ⟨t1, t2, t3⟩ := thr_all I' 1
    refine ⟨1, _, si (sg h 6) 165 0 1, π, w.2.1 _ c, ?_, by rw [gi_si, if_pos ⟨rfl, rfl⟩], t1, Or.inl t2, t3⟩
    rw [f238 (by omega), b238_0, r0, bk_v, b238_5, if_pos rfl, b238_17, thr0, if_pos (by decide)]
  rw [p1, if_neg (by omega)] at c0
  obtain ⟨n, en⟩ : ∃ n, gi h 13 1 = n := ⟨_, rfl⟩
  rw [en] at hn hg
  obtain ⟨P, eP⟩ : ∃ P, gr h 1 8 = P := ⟨_, rfl⟩
  obtain ⟨Q, eQ⟩ : ∃ Q, gr h 1 9 = Q := ⟨_, rfl⟩
  rw [eP] at wP wPQ W2 W3 W4 W6 W7
  rw [eQ] at wQ wPQ
  have qP : P = 95 ∨ P = 112 := wP
  have qQ : Q = 95 ∨ Q = 112 := wQ
  have hA : ∀ j, 0 ≤ j → j < n → ru (gr h 14 j) := fun j j0 j1 => (B.2.2.1 j j0 (by omega)).1
  -- the rule goes
  obtain ⟨hR, h1, x1, x2, x3, x4, x5, x6⟩ := s121 (h := h) (d := d - 1 - 1) (by omega) K (BKS_c B) en hg (fun hR k u hu => (GOOD_less (RLc_rem en hn.2 hA hg k) G u hu).2.1)
  have sub := RLc_rem en hn.2 hA hg x2
  obtain ⟨k1, k2, k3, k4, k5⟩ := x2
  have g1 : ∀ a i, a ≠ 6 → a ≠ 7 → ¬ (a = 2 ∧ i = 6) → ¬ (a = 13 ∧ i = 1) → gi h1 a i = gi h a i := fun a i p q r s => by rw [x3.1 a i p q r, k1 a i s]
  have e31 : ∀ i, gi h1 3 i = gi h 3 i := fun i => g1 _ _ (by omega) (by omega) (by omega) (by omega)
  have ecK : cK h1 = cK h := by unfold cK; simp only [e31]
  have e4 : gi h1 4 = gi h 4 := funext (fun i => g1 _ _ (by omega) (by omega) (by omega) (by omega))
  have e20 : gi h1 2 0 = gi h 2 0 := g1 _ _ (by omega) (by omega) (by omega) (by omega)
  have K1 : RK h1 := by
    unfold RK
    simp only [e20, e31, show ∀ i, gi h1 4 i = gi h 4 i from fun i => congrFun e4 i, show ∀ i, gi h1 5 i = gi h 5 i from fun i => g1 _ _ (by omega) (by omega) (by omega) (by omega)]
    exact K
  have G1' : GOOD (cK h1) (gi h1 4) (gi h1 2 0) (RLc h1) := by
    rw [ecK, e4, e20, x6]
    exact GOOD_less sub G
  have C1 : CBS h1 := by
    have CR := CBS_rem (BKS_c B) en hg ⟨k1, k2, k3, k4, k5⟩
    refine ⟨by rw [x3.1 _ _ (by omega) (by omega) (by omega)]; exact CR.1, fun j j0 j1 => ?_⟩
    rw [x3.1 _ _ (by omega) (by omega) (by omega)] at j1
    rw [x3.2.1]
    have R := CR.2 j j0 j1
    have r := ru_r R.1
    exact RIc_cg R.1 (fun a i p q _ => x3.1 a i (by omega) (by omega) (by omega)) (x3.1 _ _ (by omega) (by omega) (by omega)) (fun i => x3.1 _ _ (by omega) (by omega) (by omega)) R
  have F1 : FV h1 := by
    unfold FV
    rw [ecK]
    simp only [show gi h1 8 0 = gi h 8 0 from g1 _ _ (by omega) (by omega) (by omega) (by omega), show ∀ i, gi h1 9 i = gi h 9 i from fun i => g1 _ _ (by omega) (by omega) (by omega) (by omega), show ∀ i, gi h1 10 i = gi h 10 i from fun i => g1 _ _ (by omega) (by omega) (by omega) (by omega), e20]
    exact F.1
  have eft : ftC h1 (gi h 1 12) (-1) (-1) = ftC h (gi h 1 12) (-1) (-1) := by
    funext r c
    unfold ftC
    simp only [show gi h1 8 0 = gi h 8 0 from g1 _ _ (by omega) (by omega) (by omega) (by omega), show ∀ i, gi h1 9 i = gi h 9 i from fun i => g1 _ _ (by omega) (by omega) (by omega) (by omega), show ∀ i, gi h1 10 i = gi h 10 i from fun i => g1 _ _ (by omega) (by omega) (by omega) (by omega), show ∀ i, gi h1 12 i = gi h 12 i from fun i => g1 _ _ (by omega) (by omega) (by omega) (by omega)]
  obtain ⟨b, h2, y1, y2, y3, y4, y5⟩ := joint (d := d - 1 - 1) (e := d - 1) (by omega) (by omega) wQ K1 C1 G1' x5 F1 (gi h 1 12) (-1) (-1)
  have er1 : ∀ a i, ¬ (a = 14 ∧ 0 ≤ i ∧ i < 10) → gr h1 a i = gr h a i := fun a i q => by rw [x3.2.1, k3 a i q]
  have g2 : ∀ a i, a ≠ 6 → a ≠ 7 → ¬ (a = 2 ∧ i = 6) → ¬ (a = 13 ∧ i = 1) → ¬ (Q ≤ a ∧ a ≤ Q + 16) → ¬ (137 ≤ a ∧ a ≤ 143) → gi h2 a i = gi h a i := fun a i p q r s t u => by rw [y2.1 a i (by omega) (by omega) u, g1 a i p q r s]
  have er2 : ∀ a i, ¬ (a = 14 ∧ 0 ≤ i ∧ i < 10) → ¬ (a = 137 ∨ a = 140 ∨ a = 143) → gr h2 a i = gr h a i := fun a i q r => by rw [y2.2.1 a i (by omega) (by omega) (by omega), er1 a i q]
  have c1 : dF (d - 1) 124 [dR 1 10 1, dI x] h = dL (d - 1 - 1) 124 31 [lR 1 10 1, lI x, lI g] [dI b] h2 := by
    rw [f124 (by omega), b124_0, c0, bk_v, b124_5, x1, bk_n, b124_14, er1 1 9 (by omega), eQ, g1 1 12 (by omega) (by omega) (by omega) (by omega), y1, bk_v]
  have gP2 : eqW (cW h P) (cW h2 P) := cW_far wP (fun a i p q => g2 a i (by omega) (by omega) (by omega) (by omega) (by omega) (by omega))
  have e174f : ∀ {H : dm_H}, (∀ i, gi H 174 i = gi h 174 i) → (∀ i, gi H 173 i = gi h 173 i) → fz (fun p => gi H 174 p ≠ 0 ∧ gi H 173 p = x) 10 0 = π g := by
    intro H q1 q2
    have : (fun p => gi H 174 p ≠ 0 ∧ gi H 173 p = x) = fun p => gi h 174 p ≠ 0 ∧ gi h 173 p = x := by funext p; rw [q1, q2]
    simp only [q1, q2]
    exact p2
  have Rg := B.2.2.1 g hg.1 (by rw [en]; exact hg.2)
  have pg0 := Rg.2.2.2.2.2.1.1
  -- the class's book without the rule, and the reference's
  obtain ⟨Hv, eHv⟩ : ∃ Hv, Hv = si h1 174 (π g) 0 := ⟨_, rfl⟩
  have gv : ∀ a i, ¬ (a = 174 ∧ i = π g) → gi Hv a i = gi h1 a i := fun a i q => by rw [eHv, gi_si, if_neg q]
  have rv : ∀ a i, gr Hv a i = gr h1 a i := fun a i => by rw [eHv]; rfl
  have e131 : gi h1 13 1 = n - 1 := by rw [x3.1 _ _ (by omega) (by omega) (by omega), k2]
  have er14 : ∀ j, 0 ≤ j → j < 10 → gr h1 14 j = remA (gr h 14) g n j := fun j j0 j1 => by rw [x3.2.1, k4 j j0 j1]
  have Bv : BKS (remA π g n) Hv := BKS_rem B en hg (by rw [gv _ _ (by omega)]; exact e131) (fun j j0 j1 => by rw [rv]; exact er14 j j0 j1) (by rw [rv, er1 _ _ (by omega)]) (fun A r a i p q => by
    have := ru_r r
    rw [gv a i (by omega), g1 a i (by omega) (by omega) (by omega) (by omega)]) (by rw [gv _ _ (by omega)]; exact e20) (fun a i q => by rw [gv a i (by omega), g1 a i (by omega) (by omega) (by omega) (by omega)]) (fun p _ _ => by
    by_cases z : p = π g
    · rw [if_pos z, eHv, gi_si, if_pos ⟨rfl, z⟩]
    · rw [if_neg z, gv _ _ (fun w => z w.2), g1 _ _ (by omega) (by omega) (by omega) (by omega)])
  have Iv : IRel Hv := IRel_cg (by rw [gv _ _ (by omega)]; exact e20) (fun a i q => by rw [gv a i (by omega), g1 a i (by omega) (by omega) (by omega) (by omega)]) (by rw [gv _ _ (by omega), g1 _ _ (by omega) (by omega) (by omega) (by omega)]) IR
  have Rv : RLc Hv = RLc h1 := RLc_cg2 (gv _ _ (by omega)) (fun j _ _ => rv 14 j) (fun j j0 j1 a i p q _ => by
    have r := ru_r (C1.2 j j0 j1).1
    exact gv a i (by omega))
  have HBv := BKS_HBr Iv Bv
  have ecv : cK Hv = cK h1 := by unfold cK; simp only [show ∀ i, gi Hv 3 i = gi h1 3 i from fun i => gv _ _ (by omega)]
  have e4v : gi Hv 4 = gi h1 4 := funext (fun i => gv _ _ (by omega))
  rw [Rv, ecv, e4v] at HBv
  -- what the reference finds, whichever heap it has by then
  have ref : ∀ (H : dm_H), (∀ a i, 166 ≤ a → a ≤ 173 → gi H a i = gi h a i) → (∀ i, i = 1 ∨ i = 5 ∨ i = 10 ∨ i = 11 → gi H 165 i = gi h 165 i) → (∀ p, gi H 174 p = if p = π g then 0 else gi h 174 p) → ∃ H', dF (d - 1) 177 [dR 1 11 165] H = rI b H' ∧ frF H H' ∧ (∀ r, 0 ≤ r → r < 6 → gi H' 176 r = gi h1 7 r) ∧ (b = 1 → SRT (rW H') ∧ VW (cK h1) (gi h1 4) (rW H') ∧ ∀ r, 0 ≤ r → r < 6 → ∀ c, inW (cW h2 Q) r c ↔ inW (rW H') r c) := by
    intro H e1 e2 e3
    have HB := HBr_cg (h := Hv) (h' := H) (fun i => by rw [e1 172 i (by omega) (by omega), gv _ _ (by omega), g1 _ _ (by omega) (by omega) (by omega) (by omega)]) (fun p => by
      rw [e3 p]
      by_cases z : p = π g
      · rw [if_pos z, eHv, gi_si, if_pos ⟨rfl, z⟩]
      · rw [if_neg z, gv _ _ (fun w => z w.2), g1 _ _ (by omega) (by omega) (by omega) (by omega)]) (fun i => by rw [e1 166 i (by omega) (by omega), gv _ _ (by omega), g1 _ _ (by omega) (by omega) (by omega) (by omega)]) (fun i => by rw [e1 167 i (by omega) (by omega), gv _ _ (by omega), g1 _ _ (by omega) (by omega) (by omega) (by omega)]) HBv
    have FR : FVr (cK h1) (gi h1 4) H := by
      have := FVr_of IR F
      rw [← ecK, ← e4] at this
      unfold FVr at this ⊢
      simp only [e2 5 (by omega), show ∀ i, gi H 168 i = gi h 168 i from fun i => e1 _ _ (by omega) (by omega), show ∀ i, gi H 169 i = gi h 169 i from fun i => e1 _ _ (by omega) (by omega), show ∀ i, gi H 166 i = gi h 166 i from fun i => e1 _ _ (by omega) (by omega), show ∀ i, gi H 167 i = gi h 167 i from fun i => e1 _ _ (by omega) (by omega)]
      exact this
    refine y5 H _ (fun r => by rw [e1 167 r (by omega) (by omega), (IR.2.2.1 r).2]; exact (congrFun e4 r).symm) FR HB ?_
    rw [eft]
    refine ft_eq IR F (by rw [e2 5 (by omega)]; exact F.2.2.1) (fun p p0 p1 => ?_) (by rw [e2 10 (by omega)]; exact F.2.2.2.2.2.2.2.1) (by rw [e2 11 (by omega)]; exact F.2.2.2.2.2.2.2.2) (Int.le_refl _)
    have q := F.2.2.2.1 p p0 p1
    exact ⟨by rw [e1 168 p (by omega) (by omega)]; exact congrArg (fun t => t.1) q, by rw [e1 169 p (by omega) (by omega)]; exact congrArg (fun t => t.2.1) q⟩
  have hrz : ∀ r, 0 ≤ r → r < 6 → 0 ≤ gi h 178 r ∧ gi h 178 r ≤ 32 := fun r r0 r1 => by
    have := (W3 r r0 r1).1
    have e : gi h 178 r = (cW h P).1 r := this
    rw [e]; exact (W7.1 r r0 r1).1
  have hpp : gi h 174 (π g) = 1 := by
    have a := B.2.2.2.2.2 (π g) pg0.1 pg0.2
    have b := Rg.2.2.2.2.1
    omega
  have r22 : h2.2.2 = h.2.2 := by rw [y2.2.2, x3.2.2, k5]
  rcases y3 with rfl | rfl
  · -- there would be too much: the rule comes back
    have e132 : gi h2 13 1 = n - 1 := by rw [y2.1 _ _ (by omega) (by omega) (by omega)]; exact e131
    obtain ⟨hB, v1, v2, v3, z1, z2⟩ := s127a (d := d - 1 - 1 - 1) (h := h2) (by rw [e132]; omega) (g := g) (by rw [e132]; omega)
    rw [e132] at z2
    obtain ⟨b1, b2, b3, b4, b5⟩ := z2
    have f14 : gr h2 14 = remA (gr h 14) g n := by
      funext j
      rw [y2.2.1 14 j (by omega) (by omega) (by omega)]
      by_cases z : 0 ≤ j ∧ j < 10
      · exact er14 j z.1 z.2
      · rw [er1 14 j (fun w => z w.2)]
        unfold remA
        rw [if_pos (by omega)]
    have hBr : ∀ j, gr hB 14 j = gr h 14 j := by
      intro j
      by_cases z : 0 ≤ j ∧ j < 10
      · rw [b4 j z.1 z.2, f14, ins_rem _ hg]
      · rw [b3 14 j (fun w => z w.2), er2 14 j (fun w => z w.2) (by omega)]
    have gB : ∀ a i, a ≠ 6 → a ≠ 7 → ¬ (a = 2 ∧ i = 6) → ¬ (Q ≤ a ∧ a ≤ Q + 16) → ¬ (137 ≤ a ∧ a ≤ 143) → gi hB a i = gi h a i := by
      intro a i p q r t u
      by_cases z : a = 13 ∧ i = 1
      · rw [z.1, z.2, b2, en]; omega
      · rw [b1 a i z, g2 a i p q r z t u]
    have KB : RK hB := by
      unfold RK
      simp only [show gi hB 2 0 = gi h 2 0 from gB _ _ (by omega) (by omega) (by omega) (by omega) (by omega), show ∀ i, gi hB 3 i = gi h 3 i from fun i => gB _ _ (by omega) (by omega) (by omega) (by omega) (by omega), show ∀ i, gi hB 4 i = gi h 4 i from fun i => gB _ _ (by omega) (by omega) (by omega) (by omega) (by omega), show ∀ i, gi hB 5 i = gi h 5 i from fun i => gB _ _ (by omega) (by omega) (by omega) (by omega) (by omega)]
      exact K
    have CBB : CBS hB := by
      refine ⟨by rw [gB _ _ (by omega) (by omega) (by omega) (by omega) (by omega), en]; exact hn, fun j j0 j1 => ?_⟩
      rw [gB _ _ (by omega) (by omega) (by omega) (by omega) (by omega)] at j1
      rw [hBr]
      have R := (BKS_c B).2 j j0 j1
      have r := ru_r R.1
      exact RIc_cg R.1 (fun a i p q _ => gB a i (by omega) (by omega) (by omega) (by omega) (by omega)) (gB _ _ (by omega) (by omega) (by omega) (by omega) (by omega)) (fun i => gB _ _ (by omega) (by omega) (by omega) (by omega) (by omega)) R
    have RB : RLc hB = RLc h := RLc_cg2 (gB _ _ (by omega) (by omega) (by omega) (by omega) (by omega)) (fun j _ _ => hBr j) (fun j j0 j1 a i p q _ => by
      have r := ru_r (hA j j0 (by omega))
      exact gB a i (by omega) (by omega) (by omega) (by omega) (by omega))
    obtain ⟨h3', h3, m1, m2, m3, m4, m5, m6⟩ := con_lay (d := d - 1 - 1 - 1) (h := hB) (by omega) (CBS_CB KB CBB) (CBS_G1 KB CBB) (by rw [RB]; exact fun u hu => (G u hu).2.1)
    have c2 : dF (d - 1) 124 [dR 1 10 1, dI x] h = rX 2 (sg h3 6) := by
      rw [c1, b124_31, if_pos rfl, f127 (by omega), z1, m1, bk_n, b127_83, m2, bk_n, b127_87, bk_n, b124_42]
    have g3 : ∀ a i, a ≠ 6 → a ≠ 7 → ¬ (a = 2 ∧ i = 6) → ¬ (Q ≤ a ∧ a ≤ Q + 16) → ¬ (137 ≤ a ∧ a ≤ 143) → gi h3 a i = gi h a i := fun a i p q r t u => by rw [m3.1 a i p q r, gB a i p q r t u]
    -- the reference
    obtain ⟨H0, eH0⟩ : ∃ H0, H0 = si (sg h3 6) 165 0 0 := ⟨_, rfl⟩
    have gH0 : ∀ a i, ¬ (a = 165 ∧ i = 0) → gi H0 a i = gi h3 a i := fun a i q => by rw [eH0, gi_si, if_neg q]; rfl
    have r1 := s239 (h := sg h3 6) (d := d - 1) (by omega) x
    rw [e174f (H := sg h3 6) (fun i => g3 _ _ (by omega) (by omega) (by omega) (by omega) (by omega)) (fun i => g3 _ _ (by omega) (by omega) (by omega) (by omega) (by omega))] at r1
    obtain ⟨H1, n1, n2, n3, n4, n5⟩ := s174 (h := H0) (d := d - 1) (by omega) (fun r r0 r1 => by rw [gH0 _ _ (by omega), g3 _ _ (by omega) (by omega) (by omega) (by omega) (by omega)]; exact hrz r r0 r1)
    obtain ⟨H2, eH2⟩ : ∃ H2, H2 = si H1 174 (π g) 0 := ⟨_, rfl⟩
    have gH2 : ∀ a i, ¬ (a = 174 ∧ i = π g) → ¬ (a = 165 ∧ i = 0) → a ≠ 183 → a ≠ 184 → gi H2 a i = gi h3 a i := fun a i p q r s => by rw [eH2, gi_si, if_neg p, n2 a i r s, gH0 a i q]
    obtain ⟨H3, o1, o2, o3, -⟩ := ref H2 (fun a i p q => by rw [gH2 a i (by omega) (by omega) (by omega) (by omega), g3 a i (by omega) (by omega) (by omega) (by omega) (by omega)]) (fun i q => by rw [gH2 _ _ (by omega) (by omega) (by omega) (by omega), g3 _ _ (by omega) (by omega) (by omega) (by omega) (by omega)]) (fun p => by
      by_cases z : p = π g
      · rw [if_pos z, eH2, gi_si, if_pos ⟨rfl, z⟩]
      · rw [if_neg z, gH2 _ _ (fun w => z w.2) (by omega) (by omega) (by omega), g3 _ _ (by omega) (by omega) (by omega) (by omega) (by omega)])
    obtain ⟨H4, eH4⟩ : ∃ H4, H4 = si H3 174 (π g) 1 := ⟨_, rfl⟩
    have gH4 : ∀ a i, ¬ (a = 165 ∧ (i = 0 ∨ (27 ≤ i ∧ i ≤ 34))) → ¬ (175 ≤ a ∧ a ≤ 190) → gi H4 a i = gi h3 a i := by
      intro a i p q
      by_cases z : a = 174 ∧ i = π g
      · rw [eH4, gi_si, if_pos z, z.1, z.2, g3 _ _ (by omega) (by omega) (by omega) (by omega) (by omega), hpp]
      · rw [eH4, gi_si, if_neg z, o2.1 a i (by omega) (by omega) (by omega), gH2 a i z (by omega) (by omega) (by omega)]
    have gH4' : ∀ a i, ¬ (a = 165 ∧ (i = 0 ∨ (27 ≤ i ∧ i ≤ 34))) → ¬ (175 ≤ a ∧ a ≤ 190) → a ≠ 6 → a ≠ 7 → ¬ (a = 2 ∧ i = 6) → ¬ (Q ≤ a ∧ a ≤ Q + 16) → ¬ (137 ≤ a ∧ a ≤ 143) → gi H4 a i = gi h a i := fun a i p q r s t u v => by rw [gH4 a i p q, g3 a i r s t u v]
    have HB4 := HBr_cg (h := h) (h' := H4) (fun i => gH4' _ _ (by omega) (by omega) (by omega) (by omega) (by omega) (by omega) (by omega)) (fun i => gH4' _ _ (by omega) (by omega) (by omega) (by omega) (by omega) (by omega) (by omega)) (fun i => gH4' _ _ (by omega) (by omega) (by omega) (by omega) (by omega) (by omega) (by omega)) (fun i => gH4' _ _ (by omega) (by omega) (by omega) (by omega) (by omega) (by omega) (by omega)) (BKS_HBr IR B)
    have eaW : eqW (rW h) (aW H4) := by
      have a1 : eqW (rW h) (rW H0) := rW_same (fun i => by rw [gH0 _ _ (by omega), g3 _ _ (by omega) (by omega) (by omega) (by omega) (by omega)]) (fun i => by rw [gH0 _ _ (by omega), g3 _ _ (by omega) (by omega) (by omega) (by omega) (by omega)])
      have a2 : eqW (aW H1) (aW H4) := fun r _ _ => ⟨by show gi H4 184 r = gi H1 184 r; rw [eH4, gi_sin (by omega), o2.1 _ _ (by omega) (by omega) (by omega), eH2, gi_sin (by omega)], fun y _ _ => by show gi H4 183 _ = gi H1 183 _; rw [eH4, gi_sin (by omega), o2.1 _ _ (by omega) (by omega) (by omega), eH2, gi_sin (by omega)]⟩
      exact eqW_trans (eqW_trans a1 n5) a2
    obtain ⟨H5, q1, q2, q3, q4, q5, q6, q7⟩ := s212 (h := H4) (d := d - 1) (by omega) G (fun r => by rw [gH4' _ _ (by omega) (by omega) (by omega) (by omega) (by omega) (by omega) (by omega)]; exact (IR.2.2.1 r).2) HB4 L.1 (fun r r0 r1 => by have := L.2.1 r r0 r1; have := L.2.2; omega) (fun r r0 r1 => by
      have e : gi H4 184 r = gi h 178 r := (eaW r r0 r1).1
      rw [e]; exact hrz r r0 r1)
    obtain ⟨H6, eH6⟩ : ∃ H6, H6 = si H5 165 0 2 := ⟨_, rfl⟩
    have c3 : dF d 238 [dR 1 11 165, dI x] (sg h3 6) = rV H6 := by
      rw [f238 (by omega), b238_0, r1, bk_v, b238_5, if_neg (by omega), b238_17, thr0, if_neg (by decide), ← eH0, n1, bk_n, b238_32, ix_p pg0.1 (by omega), z1_p (Or.inl rfl), ← eH2, o1, bk_v, b238_43, if_pos rfl, ix_p pg0.1 (by omega), z1_p (Or.inr rfl), ← eH4, q1, bk_n, b238_57, ← eH6]
    have gH6 : ∀ a i, ¬ (a = 165 ∧ (i = 0 ∨ i = 10 ∨ i = 11 ∨ (27 ≤ i ∧ i ≤ 34))) → ¬ (175 ≤ a ∧ a ≤ 190 ∧ a ≠ 181 ∧ a ≠ 182) → gi H6 a i = gi h3 a i := by
      intro a i p q
      rw [eH6, gi_si, if_neg (by omega), q2 a i (by omega) (by omega)]
      by_cases z : a = 181 ∨ a = 182
      · rw [eH4, gi_sin (by omega), o2.1 a i (by omega) (by omega) (by omega), gH2 a i (by omega) (by omega) (by omega) (by omega)]
      · exact gH4 a i (by omega) (by omega)
    have gr6 : ∀ a i, gr H6 a i = gr h3 a i := fun a i => by rw [eH6, gr_si, q3, eH4, gr_si, o2.2.1, eH2, gr_si, n3, eH0]; rfl
    have gr3 : ∀ a i, ¬ (a = 137 ∨ a = 140 ∨ a = 143) → gr h3 a i = gr h a i := by
      intro a i q
      rw [m3.2.1]
      by_cases z : a = 14
      · rw [z]; exact hBr i
      · rw [b3 a i (fun w => z w.1), er2 a i (fun w => z w.1) q]
    have f6 : fr0 h H6 := by
      refine ⟨fun a i c => ?_, ⟨by rw [gr6, gr3 _ _ (by omega)], by rw [gr6, gr3 _ _ (by omega)], by rw [gr6, gr3 _ _ (by omega)]⟩, fun j => by rw [gr6, gr3 _ _ (by omega)]⟩
      rw [eP] at c
      unfold crd at c
      by_cases z : a = 165 ∧ (i = 10 ∨ i = 11)
      · rcases z with ⟨za, zi⟩
        rcases zi with zi | zi
        · rw [za, zi, eH6, gi_si, if_neg (by omega), q6]; exact F.2.2.2.2.2.2.2.1.symm
        · rw [za, zi, eH6, gi_si, if_neg (by omega), q7]; exact F.2.2.2.2.2.2.2.2.symm
      · rw [gH6 a i (by omega) (by omega), g3 a i (by omega) (by omega) (by omega) (by omega) (by omega)]
    have R6 : RLc H6 = RLc h3 := RLc_cg2 (gH6 _ _ (by omega) (by omega)) (fun j _ _ => gr6 14 j) (fun j j0 j1 a i p q _ => by
      have r := ru_r (hA j j0 (by rw [g3 _ _ (by omega) (by omega) (by omega) (by omega) (by omega)] at j1; omega))
      rw [gr3 _ _ (by omega)] at p q
      exact gH6 a i (by omega) (by omega))
    have CH6 : CH H6 := by
      refine ⟨fun r r0 r1 => by rw [gH6 _ _ (by omega) (by omega)]; exact m4.1 r r0 r1, ?_⟩
      rw [R6]
      have : bh H6 6 = bh h3 6 := by
        funext r q
        unfold bh
        rw [gH6 _ _ (by omega) (by omega)]
      rw [this]; exact m4.2
    have CL6 : CL H6 := by
      unfold CL
      rw [R6, show gi H6 4 = gi h3 4 from funext (fun i => gH6 _ _ (by omega) (by omega)), show gi H6 7 = gi h3 7 from funext (fun i => gH6 _ _ (by omega) (by omega)), gH6 2 6 (by omega) (by omega)]
      exact m5
    have ew6 : eqW (rW h) (rW H6) := eqW_trans (eqW_trans eaW q5) (rW_same (fun i => by rw [eH6, gi_sin (by omega)]) (fun i => by rw [eH6, gi_sin (by omega)]))
    have s6 : H6.2.2 = (sg h3 6).2.2 := by rw [eH6]; show H5.2.2 = _; rw [q4, eH4]; show H3.2.2 = _; rw [o2.2.2, eH2]; show H1.2.2 = _; rw [n4, eH0]; rfl
    have s3 : h3.2.2 = h.2.2 := by rw [m3.2.2, b5, r22]
    refine ⟨2, _, H6, π, w.2.2 _ c2, c3, by rw [eH6, thr0], IN0_cg f6 ew6 CH6 CL6 I', Or.inl ⟨by rw [gr6, gr3 _ _ (by omega)], by rw [R6, m6, RB], fun a i q => ?_, fun i hi => ?_, fun i hi => ?_⟩, ⟨?_, ?_, ?_, ct_e (by rw [gH6 _ _ (by omega) (by omega), g3 _ _ (by omega) (by omega) (by omega) (by omega) (by omega)]) (by rw [gH6 _ _ (by omega) (by omega), g3 _ _ (by omega) (by omega) (by omega) (by omega) (by omega)])⟩⟩
    · rw [eP] at q
      rw [gH6 a i (by omega) (by omega), g3 a i (by omega) (by omega) (by omega) (by omega) (by omega)]
    · rw [gH6 _ _ (by omega) (by omega), g3 _ _ (by omega) (by omega) (by omega) (by omega) (by omega)]
    · rw [gH6 _ _ (by omega) (by omega), g3 _ _ (by omega) (by omega) (by omega) (by omega) (by omega)]
    · unfold gz; rw [s6]; show h3.2.2.2.1 = _; rw [s3]
    · unfold gc; rw [s6]; show h3.2.2.2.2.1 + 1 ≤ _; rw [s3]; omega
    · unfold gs; rw [s6]; show h3.2.2.2.2.2 + 6 ≤ _; rw [s3]; omega
  · -- it goes
    obtain ⟨gd, stl⟩ := y4 rfl
    have hUr : ∀ u, RLc h1 u → RU (cK h1) (gi h1 4) (gi h1 7) (ocL (RLc h1)) u := RU_of K1.1.2 G1' x5.1.1
    have D1 := DC_of K1
    have h6 := K.1
    have hz2 : ∀ r, gi h 2 0 ≤ r → r < 6 → rsz h2 Q r = 0 := fun r r0 r1 => gds_none gd (by omega) r1 ⟨x5.1.1.1 r (by omega) r1, by have := x5.2.1 r (by omega) r1; have := x5.2.2; omega⟩ (fun c ⟨p, p0, p1, _, _, _, p5, _⟩ => by
      have := (F1.2 p p0 p1).1
      omega) (fun u hu => by have := (G1' u hu).1.2.1; omega)
    have e202 : gi h2 2 0 = gi h 2 0 := g2 _ _ (by omega) (by omega) (by omega) (by omega) (by omega) (by omega)
    have ezP : ∀ r, 0 ≤ r → r < 6 → rsz h2 P r = rsz h P r := fun r r0 r1 => (gP2 r r0 r1).1
    obtain ⟨h3, u1, u2, ⟨u3, u4⟩, u5, u6, u7, u8, u9, u10, u11, u12, u13⟩ := s83 (h := h2) (d := d - 1 - 1) (by omega) (P := P) (Q := Q) (by rw [er2 _ _ (by omega) (by omega)]; exact eP) (by rw [er2 _ _ (by omega) (by omega)]; exact eQ) wP wQ wPQ gd.1 (fun r r0 r1 => by rw [ezP r r0 r1]; exact (W7.1 r r0 r1).1) (by rw [e202]; exact h6) (fun r r0 r1 => by
      rw [e202] at r0
      exact ⟨hz2 r r0 r1, by rw [ezP r (by omega) r1]; exact W4 r r0 r1⟩)
    have c2 : dF (d - 1) 124 [dR 1 10 1, dI x] h = rV h3 := by rw [c1, b124_31, if_neg (by decide), u1, bk_n, b124_56]
    have g31 : ∀ a i, ¬ (Q ≤ a ∧ a ≤ Q + 16) → ¬ (137 ≤ a ∧ a ≤ 143) → ¬ (a = 1 ∧ 13 ≤ i ∧ i ≤ 16) → gi h3 a i = gi h1 a i := fun a i p q r => by rw [u2 a i (by omega) r, y2.1 a i (by omega) (by omega) q]
    have g3 : ∀ a i, a ≠ 6 → a ≠ 7 → ¬ (a = 2 ∧ i = 6) → ¬ (a = 13 ∧ i = 1) → ¬ (Q ≤ a ∧ a ≤ Q + 16) → ¬ (137 ≤ a ∧ a ≤ 143) → ¬ (a = 1 ∧ 13 ≤ i ∧ i ≤ 16) → gi h3 a i = gi h a i := fun a i p q r s t u v => by rw [g31 a i t u v, g1 a i p q r s]
    obtain ⟨H0, eH0⟩ : ∃ H0, H0 = si h3 165 0 0 := ⟨_, rfl⟩
    have gH0 : ∀ a i, ¬ (a = 165 ∧ i = 0) → gi H0 a i = gi h3 a i := fun a i q => by rw [eH0, gi_si, if_neg q]
    have r1 := s239 (h := h3) (d := d - 1) (by omega) x
    rw [e174f (fun i => g3 _ _ (by omega) (by omega) (by omega) (by omega) (by omega) (by omega) (by omega)) (fun i => g3 _ _ (by omega) (by omega) (by omega) (by omega) (by omega) (by omega) (by omega))] at r1
    obtain ⟨H1, n1, n2, n3, n4, n5⟩ := s174 (h := H0) (d := d - 1) (by omega) (fun r r0 r1 => by rw [gH0 _ _ (by omega), g3 _ _ (by omega) (by omega) (by omega) (by omega) (by omega) (by omega) (by omega)]; exact hrz r r0 r1)
    obtain ⟨H2, eH2⟩ : ∃ H2, H2 = si H1 174 (π g) 0 := ⟨_, rfl⟩
    have gH2 : ∀ a i, ¬ (a = 174 ∧ i = π g) → ¬ (a = 165 ∧ i = 0) → a ≠ 183 → a ≠ 184 → gi H2 a i = gi h3 a i := fun a i p q r s => by rw [eH2, gi_si, if_neg p, n2 a i r s, gH0 a i q]
    have e174H2 : ∀ p, gi H2 174 p = if p = π g then 0 else gi h 174 p := fun p => by
      by_cases z : p = π g
      · rw [if_pos z, eH2, gi_si, if_pos ⟨rfl, z⟩]
      · rw [if_neg z, gH2 _ _ (fun w => z w.2) (by omega) (by omega) (by omega), g3 _ _ (by omega) (by omega) (by omega) (by omega) (by omega) (by omega) (by omega)]
    obtain ⟨H3, o1, o2, o3, o4⟩ := ref H2 (fun a i p q => by rw [gH2 a i (by omega) (by omega) (by omega) (by omega), g3 a i (by omega) (by omega) (by omega) (by omega) (by omega) (by omega) (by omega)]) (fun i q => by rw [gH2 _ _ (by omega) (by omega) (by omega) (by omega), g3 _ _ (by omega) (by omega) (by omega) (by omega) (by omega) (by omega) (by omega)]) e174H2
    obtain ⟨o5, o6, o7⟩ := o4 rfl
    have eaW : eqW (rW h) (aW H3) := by
      have a1 : eqW (rW h) (rW H0) := rW_same (fun i => by rw [gH0 _ _ (by omega), g3 _ _ (by omega) (by omega) (by omega) (by omega) (by omega) (by omega) (by omega)]) (fun i => by rw [gH0 _ _ (by omega), g3 _ _ (by omega) (by omega) (by omega) (by omega) (by omega) (by omega) (by omega)])
      have a2 : eqW (aW H1) (aW H3) := fun r _ _ => ⟨by show gi H3 184 r = gi H1 184 r; rw [o2.1 _ _ (by omega) (by omega) (by omega), eH2, gi_sin (by omega)], fun y _ _ => by show gi H3 183 _ = gi H1 183 _; rw [o2.1 _ _ (by omega) (by omega) (by omega), eH2, gi_sin (by omega)]⟩
      exact eqW_trans (eqW_trans a1 n5) a2
    have haz : ∀ r, 0 ≤ r → r < 6 → 0 ≤ gi H3 184 r ∧ gi H3 184 r ≤ 32 := fun r r0 r1 => by
      have e : gi H3 184 r = gi h 178 r := (eaW r r0 r1).1
      rw [e]; exact hrz r r0 r1
    obtain ⟨H4, q1, q2, q3, q4, q5, q6⟩ := s213 (h := H3) (d := d - 1) (by omega) haz
    have c3 : dF d 238 [dR 1 11 165, dI x] h3 = rV H4 := by
      rw [f238 (by omega), b238_0, r1, bk_v, b238_5, if_neg (by omega), b238_17, thr0, if_neg (by decide), ← eH0, n1, bk_n, b238_32, ix_p pg0.1 (by omega), z1_p (Or.inl rfl), ← eH2, o1, bk_v, b238_43, if_neg (by decide), q1, bk_n, b238_67]
    have g43 : ∀ a i, ¬ (a = 165 ∧ (i = 0 ∨ (27 ≤ i ∧ i ≤ 34) ∨ i = 44)) → a ≠ 174 → ¬ (175 ≤ a ∧ a ≤ 190) → gi H4 a i = gi h3 a i := fun a i p q r => by rw [q2 a i (by omega) (by omega) (by omega), o2.1 a i (by omega) (by omega) (by omega), gH2 a i (by omega) (by omega) (by omega) (by omega)]
    have g41 : ∀ a i, ¬ (a = 165 ∧ (i = 0 ∨ (27 ≤ i ∧ i ≤ 34) ∨ i = 44)) → a ≠ 174 → ¬ (175 ≤ a ∧ a ≤ 190) → ¬ (Q ≤ a ∧ a ≤ Q + 16) → ¬ (137 ≤ a ∧ a ≤ 143) → ¬ (a = 1 ∧ 13 ≤ i ∧ i ≤ 16) → gi H4 a i = gi h1 a i := fun a i p q r s t u => by rw [g43 a i p q r, g31 a i s t u]
    have g4 : ∀ a i, ¬ (a = 165 ∧ (i = 0 ∨ (27 ≤ i ∧ i ≤ 34) ∨ i = 44)) → a ≠ 174 → ¬ (175 ≤ a ∧ a ≤ 190) → ¬ (Q ≤ a ∧ a ≤ Q + 16) → ¬ (137 ≤ a ∧ a ≤ 143) → ¬ (a = 1 ∧ 13 ≤ i ∧ i ≤ 16) → ¬ (a = 6 ∨ a = 7 ∨ (a = 2 ∧ i = 6) ∨ (a = 13 ∧ i = 1)) → gi H4 a i = gi h a i := fun a i p q r s t u v => by rw [g41 a i p q r s t u, g1 a i (by omega) (by omega) (by omega) (by omega)]
    have gr43 : ∀ a i, gr H4 a i = gr h3 a i := fun a i => by rw [q3, o2.2.1, eH2, gr_si, n3, eH0, gr_si]
    have gr41 : ∀ a i, ¬ (a = 1 ∧ (i = 8 ∨ i = 9)) → ¬ (a = 137 ∨ a = 140 ∨ a = 143) → gr H4 a i = gr h1 a i := fun a i p q => by rw [gr43, u5 a i p, y2.2.1 a i (by omega) (by omega) (by omega)]
    have g4r : ∀ A, ru A → ∀ a i, A ≤ a → a ≤ A + 6 → gi H4 a i = gi h a i := fun A r a i p q => by
      have := ru_r r
      exact g4 a i (by omega) (by omega) (by omega) (by omega) (by omega) (by omega) (by omega)
    have g4l : ∀ a i, a ≤ 12 ∨ (166 ≤ a ∧ a ≤ 173) ∨ (a = 13 ∧ i = 3) → ¬ (a = 6 ∨ a = 7 ∨ (a = 2 ∧ i = 6)) → ¬ (a = 1 ∧ 13 ≤ i ∧ i ≤ 16) → gi H4 a i = gi h a i := fun a i p q r => g4 a i (by omega) (by omega) (by omega) (by omega) (by omega) r (by omega)
    have R4 : RLc H4 = RLc h1 := RLc_cg2 (g41 _ _ (by omega) (by omega) (by omega) (by omega) (by omega) (by omega)) (fun j _ _ => gr41 14 j (by omega) (by omega)) (fun j j0 j1 a i p q _ => by
      have r := ru_r (C1.2 j j0 j1).1
      exact g41 a i (by omega) (by omega) (by omega) (by omega) (by omega) (by omega))
    have ec4 : cK H4 = cK h1 := by unfold cK; simp only [show ∀ i, gi H4 3 i = gi h1 3 i from fun i => g41 _ _ (by omega) (by omega) (by omega) (by omega) (by omega) (by omega)]
    have e44 : gi H4 4 = gi h1 4 := funext (fun i => g41 _ _ (by omega) (by omega) (by omega) (by omega) (by omega) (by omega))
    have e47 : gi H4 7 = gi h1 7 := funext (fun i => g41 _ _ (by omega) (by omega) (by omega) (by omega) (by omega) (by omega))
    have ewQ : eqW (cW h3 Q) (cW H4 Q) := cW_far wQ (fun a i p q => g43 a i (by omega) (by omega) (by omega))
    have eo : eqW (cW h2 P) (oW H4) := eqW_trans (eqW_trans (eqW_trans (eqW_symm gP2) W3) eaW) q5
    have er3 : eqW (cW h3 Q) (rW H3) := srt_eq u7 o5 (fun r r0 r1 => ⟨by have e : (cW h3 Q).1 r = rsz h2 Q r := u8 r r0 r1; rw [e]; exact (gd.1 r r0 r1).1.1, (o6 r r0 r1).1.1⟩) (fun r r0 r1 c => (u9 r r0 r1 c).trans (o7 r r0 r1 c))
    have er4 : eqW (rW H3) (rW H4) := rW_same (fun i => q2 _ _ (by omega) (by omega) (by omega)) (fun i => q2 _ _ (by omega) (by omega) (by omega))
    have V4 : VW (cK h1) (gi h1 4) (cW H4 Q) := eqW_VW (eqW_trans (eqW_symm er3) ewQ) o6
    have IR4 : IRel H4 := IRel_cg (g4l _ _ (by omega) (by omega) (by omega)) (fun a i q => g4l a i (by omega) (by omega) (by omega)) (g4 _ _ (by omega) (by omega) (by omega) (by omega) (by omega) (by omega) (by omega)) IR
    have e12 : gi H4 1 12 = gi h 1 12 := g4l _ _ (by omega) (by omega) (by omega)
    have s4 : H4.2.2 = h.2.2 := by rw [q4, o2.2.2, eH2]; show H1.2.2 = _; rw [n4, eH0]; show h3.2.2 = _; rw [u6, r22]
    refine ⟨0, h3, H4, remA π g n, w.1 _ c2, c3, ?_, ⟨IR4, ?_, ?_, ?_, ?_, ?_, ?_, ?_, ?_, ⟨?_, ?_, ?_, ?_, ?_, ⟨?_, ?_⟩, ?_⟩⟩, Or.inr ⟨?_, ?_, q6, ?_⟩, ⟨?_, ?_, ?_, ct_e e12 (g4l _ _ (by omega) (by omega) (by omega))⟩⟩
    · rw [q2 _ _ (by omega) (by omega) (by omega), o2.1 _ _ (by omega) (by omega) (by omega), eH2, gi_sin (by omega), n2 _ _ (by omega) (by omega), eH0, thr0]
    · exact IDr_cg ⟨g4 _ _ (by omega) (by omega) (by omega) (by omega) (by omega) (by omega) (by omega), g4l _ _ (by omega) (by omega) (by omega), by rw [gr41 _ _ (by omega) (by omega), er1 _ _ (by omega)]⟩ g4r (g4l _ _ (by omega) (by omega) (by omega)) (fun a i q => g4l a i (by omega) (by omega) (by omega)) ID
    · exact BKS_rem B en hg (by rw [g41 _ _ (by omega) (by omega) (by omega) (by omega) (by omega) (by omega)]; exact e131) (fun j j0 j1 => by rw [gr41 _ _ (by omega) (by omega)]; exact er14 j j0 j1) (by rw [gr41 _ _ (by omega) (by omega), er1 _ _ (by omega)]) g4r (g4l _ _ (by omega) (by omega) (by omega)) (fun a i q => g4l a i (by omega) (by omega) (by omega)) (fun p _ _ => by rw [q2 _ _ (by omega) (by omega) (by omega), o2.1 _ _ (by omega) (by omega) (by omega)]; exact e174H2 p)
    · rw [q2 _ _ (by omega) (by omega) (by omega), o2.1 _ _ (by omega) (by omega) (by omega), e174H2, if_neg (by omega)]; exact J0
    · exact INm_rem B NM en hg (by rw [g41 _ _ (by omega) (by omega) (by omega) (by omega) (by omega) (by omega)]; exact e131) (fun j j0 j1 => by rw [gr41 _ _ (by omega) (by omega)]; exact er14 j j0 j1) (fun A r => g4r A r A 0 (by omega) (by omega)) (g4l _ _ (by omega) (by omega) (by omega)) (g4 _ _ (by omega) (by omega) (by omega) (by omega) (by omega) (by omega) (by omega)) (fun i => g4l _ _ (by omega) (by omega) (by omega))
    · rw [R4, ec4, e44, g41 2 0 (by omega) (by omega) (by omega) (by omega) (by omega) (by omega)]; exact G1'
    · refine ⟨fun r r0 r1 => by rw [g41 _ _ (by omega) (by omega) (by omega) (by omega) (by omega) (by omega)]; exact x4.1 r r0 r1, ?_⟩
      rw [R4]
      have : bh H4 6 = bh h1 6 := by
        funext r q
        unfold bh
        rw [g41 _ _ (by omega) (by omega) (by omega) (by omega) (by omega) (by omega)]
      rw [this]; exact x4.2
    · unfold CL
      rw [R4, e44, e47, g41 2 6 (by omega) (by omega) (by omega) (by omega) (by omega) (by omega)]; exact x5
    · exact IFc_cg (fun a i q => g4l a i (by omega) (by omega) (by omega)) (g4l _ _ (by omega) (by omega) (by omega)) e12 (fun i q => g4 _ _ (by omega) (by omega) (by omega) (by omega) (by omega) (by omega) (by omega)) F
    · rw [gr43, gr43, u3, u4]; exact ⟨wQ, wP, fun e => wPQ e.symm⟩
    · rw [gr43, u3]; exact eqW_SRT ewQ u7
    · rw [gr43, u3]; exact eqW_trans (eqW_trans (eqW_symm ewQ) er3) er4
    · rw [gr43, u3, g4l 2 0 (by omega) (by omega) (by omega)]
      intro r r0 r1
      have e : rsz H4 Q r = rsz h3 Q r := (ewQ r (by omega) r1).1
      rw [e, u8 r (by omega) r1]; exact hz2 r r0 r1
    · intro r r0 r1
      rw [(q5 r r0 r1).1]; exact haz r r0 r1
    · rw [gr43, u3, g43 1 13 (by omega) (by omega) (by omega), u10]
      exact (ms_eq ewQ (inW_eq eo) (fun r r0 r1 => by have e : (cW h3 Q).1 r = rsz h2 Q r := u8 r r0 r1; rw [e]; exact (gd.1 r r0 r1).1.1)).symm
    · rw [gr43, u3, g43 1 14 (by omega) (by omega) (by omega), u11]
      exact (ms_eq eo (inW_eq ewQ) (fun r r0 r1 => by have e : (cW h2 P).1 r = rsz h P r := ezP r r0 r1; rw [e]; exact (W7.1 r r0 r1).1.1)).symm
    · rw [gr43, u3, ec4, e44, e47, R4, e12]
      have ef : ftC H4 (gi h 1 12) (-1) (-1) = ftC h1 (gi h 1 12) (-1) (-1) := by
        rw [eft]
        funext r c
        unfold ftC
        simp only [show gi H4 8 0 = gi h 8 0 from g4l _ _ (by omega) (by omega) (by omega), show ∀ i, gi H4 9 i = gi h 9 i from fun i => g4l _ _ (by omega) (by omega) (by omega), show ∀ i, gi H4 10 i = gi h 10 i from fun i => g4l _ _ (by omega) (by omega) (by omega), show ∀ i, gi H4 12 i = gi h 12 i from fun i => g4l _ _ (by omega) (by omega) (by omega)]
      rw [ef]
      exact gds_cg D1 hUr V4 (fun r r0 r1 _ c => ((u9 r r0 r1 c).symm).trans (inW_eq ewQ r r0 r1 c)) gd
    · rw [g43 _ _ (by omega) (by omega) (by omega)]; exact u12
    · rw [g43 _ _ (by omega) (by omega) (by omega)]; exact u13
    · rw [gr43, u3]
      exact still_to (fun a i p q => by rw [g43 a i (by omega) (by omega) (by omega), u2 a i (by omega) (by omega)]) (fun r r0 r1 => by
        have e : rsz H4 Q r = rsz h3 Q r := (ewQ r r0 r1).1
        rw [e, u8 r r0 r1]) stl
    · unfold gz; rw [s4]
    · unfold gc; rw [s4]; omega
    · unfold gs; rw [s4]; omega
end ODR2
