/-! THE CALLS height and price -/
section OCO
variable {h H : dm_H} {π : Int → Int}
/-- the costs kept are the greatest stable ones -/
def knC (h : dm_H) (h' : dm_H) : Prop := ∃ f0 f1, GH_ h f0 ∧ GP_ h f1 ∧ ∀ r x, 0 ≤ r → r < 6 → 0 ≤ x → x < rsz h (gr h 1 8) r → c2v (gi h' (145 + 1 + Int.toNat r) x) (gi h' (152 + 1 + Int.toNat r) x) ∧ kc (gi h' (145 + 1 + Int.toNat r) x) = f0 r x ∧ kc (gi h' (152 + 1 + Int.toNat r) x) = f1 r x
def ICo (h : dm_H) : Prop := gi h 1 15 = 0 ∨ (gi h 1 15 = 1 ∧ knC h h)
theorem GSB_cl {cl cl' : Int → Int} {RL : mU → Prop} {fc fc' : Int → Int → Int → Prop} {ω : mW} {pr : Int} {f : Int → Int → Int} (e : cl' = cl) (e2 : fc' = fc) (g : GSB pr cl RL fc ω f) : GSB pr cl' RL fc' ω f := by rw [e, e2]; exact g
/-- what the costs kept depend on -/
theorem knC_to (I : IN0 π h) {h' : dm_H} (e8 : gr h' 1 8 = gr h 1 8) (eR : RLc h' = RLc h) (e : ∀ a i, (gr h 1 8 + 1 ≤ a ∧ a ≤ gr h 1 8 + 8) ∨ a = 3 → gi h' a i = gi h a i) (eF : gi h' 8 0 = gi h 8 0 ∧ ∀ p, 0 ≤ p → p < gi h 8 0 → fL 9 h' p = fL 9 h p) {x x' : dm_H} (ec : ∀ a i, (146 ≤ a ∧ a ≤ 151) ∨ (153 ≤ a ∧ a ≤ 158) → gi x' a i = gi x a i) (k : knC h x) : knC h' x' := by
  obtain ⟨f0, f1, g0, g1, g2⟩ := k
  have hP : rw_ (gr h 1 8) := I.2.2.2.2.2.2.2.2.2.1.1
  have E : eqW (cW h (gr h 1 8)) (cW h' (gr h 1 8)) := cW_far hP (fun a i p q => e a i (Or.inl ⟨p, q⟩))
  have V : VW (cK h) (gi h 4) (cW h (gr h 1 8)) := I.2.2.2.2.2.2.2.2.2.2.2.2.2.2.2.1
  have eK : cK h' = cK h := by unfold cK; simp only [show ∀ i, gi h' 3 i = gi h 3 i from fun i => e _ _ (Or.inr rfl)]
  have hb : ∀ u, RLc h u → bnds u (cW h' (gr h 1 8)) = bnds u (cW h (gr h 1 8)) := fun u hu => by
    have G := RU_GW (DC_of I.1.1) ((lay12 I).2.2 u hu) V
    exact bnd_eqW (N := u.2.2.2.2) E (fun k k0 k1 q => by
      rcases G.2 k k0 k1 with z | z | z
      · exact z.2.1
      · exact z.2.1
      · rcases z.1 with w | w <;> omega) _ 0 v0 (by omega) (by have := G.1; omega)
  have eH : fcH h' = fcH h := by
    funext r c a
    unfold fcH
    refine propext ⟨fun ⟨i, i1, i2, i3, i4⟩ => ?_, fun ⟨i, i1, i2, i3, i4⟩ => ?_⟩
    · rw [eF.1] at i1
      have el := eF.2 i i1.1 i1.2
      exact ⟨i, i1, by rw [← i2]; exact (congrArg (fun t => t.1) el).symm, by rw [← i3]; exact (congrArg (fun t => t.2.1) el).symm, i4⟩
    · have el := eF.2 i i1.1 i1.2
      exact ⟨i, by rw [eF.1]; exact i1, by rw [← i2]; exact congrArg (fun t => t.1) el, by rw [← i3]; exact congrArg (fun t => t.2.1) el, i4⟩
  have eP : fcP h' = fcP h := by
    funext r c a
    unfold fcP
    refine propext ⟨fun ⟨i, i1, i2, i3, i4⟩ => ?_, fun ⟨i, i1, i2, i3, i4⟩ => ?_⟩
    · rw [eF.1] at i1
      have el := eF.2 i i1.1 i1.2
      exact ⟨i, i1, by rw [← i2]; exact (congrArg (fun t => t.1) el).symm, by rw [← i3]; exact (congrArg (fun t => t.2.1) el).symm, by rw [i4]; exact congrArg (fun t => t.2.2.1) el⟩
    · have el := eF.2 i i1.1 i1.2
      exact ⟨i, by rw [eF.1]; exact i1, by rw [← i2]; exact congrArg (fun t => t.1) el, by rw [← i3]; exact congrArg (fun t => t.2.1) el, by rw [i4]; exact (congrArg (fun t => t.2.2.1) el).symm⟩
  refine ⟨f0, f1, ?_, ?_, fun r y r0 r1 y0 y1 => ?_⟩
  · unfold GH_
    rw [e8, eR, eK, eH]
    exact GSB_E E (IN0_psR I) hb g0
  · unfold GP_
    rw [e8, eR, eK, eP]
    exact GSB_E E (IN0_psR I) hb g1
  · have hz : rsz h' (gr h' 1 8) r = rsz h (gr h 1 8) r := by rw [e8]; exact (E r r0 r1).1
    rw [hz] at y1
    rw [ec _ _ (Or.inl (by omega)), ec _ _ (Or.inr (by omega))]
    exact g2 r y r0 r1 y0 y1
theorem ICo_fr (I : IN0 π h) {h' : dm_H} (f : frCo h h') (c : ICo h) : ICo h' := by
  obtain ⟨f1, f2, f3, f4, f5⟩ := f
  rcases c with z | ⟨z, k⟩
  · exact Or.inl (f5.trans z)
  · exact Or.inr ⟨f5.trans z, knC_to I f1 f2 (fun a i q => f3 a i (by omega)) f4 (fun a i q => f3 a i (by omega)) k⟩
/-- there is a greatest stable cost: the reference finds one -/
theorem GSB_ex (I : IN0 π h) : (∃ f, GH_ h f) ∧ ∃ f, GP_ h f := by
  have c : cqR h h := ⟨fun _ _ _ _ => rfl, rfl⟩
  obtain ⟨H0, -, -, g0, -⟩ := s262 (d := 13) (Nat.le_refl _) I (Or.inl rfl) c
  obtain ⟨H1, -, -, g1, -⟩ := s262 (d := 13) (Nat.le_refl _) I (Or.inr rfl) c
  exact ⟨⟨_, GSX_c I g0⟩, ⟨_, GSX_c I g1⟩⟩
/-- a place, with costs -/
theorem s152 {d : Nat} (hd : 12 ≤ d) (I : IN0 π h) (S : still h (gr h 1 8)) (C : ICo h) {r c : Int} (hr : 0 ≤ r ∧ r < 6) : ∃ h', dF d 152 [dR 1 10 1, dI r, dI c] h = rI (plc h (gr h 1 8) r c) h' ∧ (∀ a i, (a < 137 ∨ 161 ≤ a) → ¬ (a = 1 ∧ i = 15) → gi h' a i = gi h a i) ∧ (∀ a i, a < 137 ∨ 145 ≤ a → gr h' a i = gr h a i) ∧ h'.2.2 = h.2.2 ∧ IN0 π h' ∧ RLc h' = RLc h ∧ ICo h' ∧ (plc h (gr h 1 8) r c ≠ -1 → knC h h') := by
  have V : VW (cK h) (gi h 4) (cW h (gr h 1 8)) := I.2.2.2.2.2.2.2.2.2.2.2.2.2.2.2.1
  have e0 : dF d 152 [dR 1 10 1, dI r, dI c] h = dL (d - 1) 152 9 [lR 1 10 1, lI r, lI c, none] [dI (plc h (gr h 1 8) r c)] h := by
    rw [f152 (by omega), b152_0, s28 (by omega) hr (V r hr.1 hr.2).1, bk_v]
  rw [e0, b152_9]
  by_cases q : plc h (gr h 1 8) r c = -1
  · refine ⟨h, by rw [if_pos q, b152_38], fun _ _ _ _ => rfl, fun _ _ _ => rfl, rfl, I, rfl, C, fun z => absurd q z⟩
  · rw [if_neg q]
    rcases C with z | ⟨z, k⟩
    · obtain ⟨⟨c0, g0⟩, c1, g1⟩ := GSB_ex I
      obtain ⟨H', x1, x2, x3, x4⟩ := s153 (d := d - 1) (by omega) I S g0 g1
      have e : ∀ a i, ¬ (a = 1 ∧ i = 15) → gi (si H' 1 15 1) a i = gi H' a i := fun a i p => by rw [gi_si, if_neg p]
      have lo : ∀ a i, (a < 137 ∨ 161 ≤ a) → ¬ (a = 1 ∧ i = 15) → gi (si H' 1 15 1) a i = gi h a i := fun a i p p2 => by rw [e a i p2]; exact x2.1.1 a i p
      have s := low_all2 (H := si H' 1 15 1) I (fun a i p p2 => lo a i (by omega) (by omega)) (fun a i p => x2.1.2.1 a i (Or.inl p))
      have K : knC h (si H' 1 15 1) := ⟨hF H', pF H', x3, x4, fun r x r0 r1 p0 p1 => by
        rw [e _ _ (by omega), e _ _ (by omega)]
        exact ⟨x2.2.2.1.1 r x r0 r1 p0 (by have := (V r r0 r1).1.2; have e : (cW h (gr h 1 8)).1 r = rsz h (gr h 1 8) r := rfl; omega) (by rw [x2.1.1 2 0 (by omega)]; exact IN0_hn I r x r0 r1 p0 p1), rfl, rfl⟩⟩
      have hP8 : gr h 1 8 = 95 ∨ gr h 1 8 = 112 := I.2.2.2.2.2.2.2.2.2.1.1
      refine ⟨si H' 1 15 1, ?_, lo, fun a i p => x2.1.2.1 a i p, x2.1.2.2, s.1, s.2, Or.inr ⟨gi_sis, knC_to (h' := si H' 1 15 1) I (x2.1.2.1 _ _ (by omega)) s.2 (fun a i p => lo a i (by omega) (by omega)) ⟨lo _ _ (by omega) (by omega), fun p p0 p1 => ?_⟩ (fun _ _ _ => rfl) K⟩, fun _ => K⟩
      · rw [if_pos z, x1, bk_n, b152_33, b152_38]
      · unfold fL
        rw [lo _ _ (by omega) (by omega), lo _ _ (by omega) (by omega), lo _ _ (by omega) (by omega), lo _ _ (by omega) (by omega)]
    · refine ⟨h, by rw [if_neg (by omega), b152_38], fun _ _ _ _ => rfl, fun _ _ _ => rfl, rfl, I, rfl, Or.inr ⟨z, k⟩, fun _ => k⟩
/-- the reference's cost of a row -/
theorem s261 {d : Nat} (hd : 14 ≤ d) (I : IN0 π h) (S : still h (gr h 1 8)) {pr : Int} (hpr : pr = 0 ∨ pr = 1) (r a b c : Int) (v : Int) :
    (∀ H, (∀ a i, ¬ (a = 165 ∧ i = 0) → gi H a i = gi h a i) → (¬ (0 ≤ r ∧ r < gi h 2 0) → dF d 261 [dR 1 11 165, dI r, dI a, dI b, dI c, dI pr] H = rI 0 (si H 165 0 1)) ∧ ((0 ≤ r ∧ r < gi h 2 0) → ¬ wit (gi h 3 r) 0 99 a b c → dF d 261 [dR 1 11 165, dI r, dI a, dI b, dI c, dI pr] H = rI 0 (si H 165 0 2)) ∧ ((0 ≤ r ∧ r < gi h 2 0) → wit (gi h 3 r) 0 99 a b c → plc h (gr h 1 8) r (a * 10000 + b * 100 + c) = -1 → dF d 261 [dR 1 11 165, dI r, dI a, dI b, dI c, dI pr] H = rI (-1) (si H 165 0 0)) ∧ ((0 ≤ r ∧ r < gi h 2 0) → wit (gi h 3 r) 0 99 a b c → plc h (gr h 1 8) r (a * 10000 + b * 100 + c) ≠ -1 → ∃ H' f, GSB pr (cK h) (RLc h) (fcX pr h) (cW h (gr h 1 8)) f ∧ frQ (si H 165 0 0) H' ∧ dF d 261 [dR 1 11 165, dI r, dI a, dI b, dI c, dI pr] H = rI (if f r (plc h (gr h 1 8) r (a * 10000 + b * 100 + c)) = 1000000 then -1 else f r (plc h (gr h 1 8) r (a * 10000 + b * 100 + c))) H')) := by
  intro H e
  have n6 := I.1.1.1
  obtain ⟨r1, r2, r3⟩ := s245 (d := d - 1) (H := H) (by omega) I e r a b c
  have e0 : ∀ p H2, dF (d - 1) 245 [dR 1 11 165, dI r, dI a, dI b, dI c] H = rI p H2 → dF d 261 [dR 1 11 165, dI r, dI a, dI b, dI c, dI pr] H = dL (d - 1) 261 9 [lR 1 11 165, lI r, lI a, lI b, lI c, lI pr, none, none] [dI p] H2 := fun p H2 q => by rw [f261 (by omega), b261_0, q, bk_v]
  refine ⟨fun y => ?_, fun y w => ?_, fun y w q => ?_, fun y w q => ?_⟩
  · rw [e0 _ _ (r1 y), b261_9, thr0, if_pos (by decide)]
  · rw [e0 _ _ (r2 y w), b261_9, thr0, if_pos (by decide)]
  · rw [e0 _ _ (r3 y w), b261_9, thr0, if_neg (by decide), if_pos q]
  · have hr : 0 ≤ r ∧ r < 6 := by omega
    have cq : cqR h (si H 165 0 0) := ⟨fun x i p1 p2 => by rw [gi_sin (by omega)]; exact e x i (by omega), by rw [gi_sij (by decide)]; exact e _ _ (by omega)⟩
    obtain ⟨H', x1, x2, x3, x4⟩ := s262 (d := d - 1) (H := si H 165 0 0) (by omega) I hpr cq
    have V : VW (cK h) (gi h 4) (cW h (gr h 1 8)) := I.2.2.2.2.2.2.2.2.2.2.2.2.2.2.2.1
    have z := (V r hr.1 hr.2).1
    have e1 : (cW h (gr h 1 8)).1 r = rsz h (gr h 1 8) r := rfl
    obtain ⟨p, ep⟩ : ∃ p, p = plc h (gr h 1 8) r (a * 10000 + b * 100 + c) := ⟨_, rfl⟩
    have hp : 0 ≤ p ∧ p < 32 := by
      rcases fz_spec (fun x => rws h (gr h 1 8) r x = a * 10000 + b * 100 + c) (rsz h (gr h 1 8) r).toNat 0 with ⟨a1, -⟩ | ⟨a1, a2, -, -⟩
      · exact absurd a1 q
      · have a1 : 0 ≤ plc h (gr h 1 8) r (a * 10000 + b * 100 + c) := a1
        have a2 : plc h (gr h 1 8) r (a * 10000 + b * 100 + c) < 0 + ((rsz h (gr h 1 8) r).toNat : Int) := a2
        omega
    rw [← ep] at q ⊢
    refine ⟨H', rC H', GSX_c I x3, x2, ?_⟩
    have r3' := r3 y w
    rw [← ep] at r3'
    rw [e0 _ _ r3', b261_9, thr0, if_neg (by decide), if_neg q, x1, bk_n, b261_34, ck_p (by omega) (by omega), ck_p (by omega) (by omega), ix_p (by omega) (by omega)]
    have eC : rC H' r p = gi H' 191 (40 * r + p) := rfl
    rw [eC]
    by_cases w2 : gi H' 191 (40 * r + p) = 1000000
    · rw [if_pos w2, if_pos w2, b261_62]
    · rw [if_neg w2, if_neg w2, b261_62]
/-- the heap behind a call of costs -/
theorem cost_fr (I : IN0 π h) (R : IRp h) {h' H' : dm_H} {v : Int} (lo : ∀ a i, (a < 137 ∨ 161 ≤ a) → ¬ (a = 1 ∧ i = 15) → gi h' a i = gi h a i) (lr : ∀ a i, a < 137 ∨ 145 ≤ a → gr h' a i = gr h a i) (l2 : h'.2.2 = h.2.2) (C : ICo h') (I' : IN0 π h') (hR : RLc h' = RLc h) (f : frQ (si (sl h' 0 v) 165 0 0) H') : IN0 π H' ∧ ICo H' ∧ frRp h H' ∧ rm h H' ∧ gi H' 165 0 = 0 ∧ gl H' 0 = v := by
  have hP8 : gr h' 1 8 = 95 ∨ gr h' 1 8 = 112 := I'.2.2.2.2.2.2.2.2.2.1.1
  have g0 : ∀ a i, ¬ (a = 165 ∧ i = 0) → gi (si (sl h' 0 v) 165 0 0) a i = gi h' a i := fun a i p => by rw [gi_si, if_neg p]; rfl
  have lo2 : ∀ a i, a ≠ 179 → a ≠ 180 → ¬ (185 ≤ a ∧ a ≤ 191) → ¬ (a = 165 ∧ (i = 0 ∨ (27 ≤ i ∧ i ≤ 34))) → gi H' a i = gi h' a i := fun a i p q r s => by rw [f.1 a i p q r (by omega), g0 a i (by omega)]
  have s := low_all2 (H := H') I' (fun a i p p2 => lo2 a i (by omega) (by omega) (by omega) (by omega)) (fun a i p => f.2.1 a i)
  have er : ∀ a i, gr H' a i = gr h' a i := fun a i => f.2.1 a i
  have fL' : ∀ p, fL 9 H' p = fL 9 h' p := fun p => by
    unfold fL
    rw [lo2 _ _ (by omega) (by omega) (by omega) (by omega), lo2 _ _ (by omega) (by omega) (by omega) (by omega), lo2 _ _ (by omega) (by omega) (by omega) (by omega), lo2 _ _ (by omega) (by omega) (by omega) (by omega)]
  have fc : frCo h' H' := ⟨er _ _, s.2, fun a i p => lo2 a i (by omega) (by omega) (by omega) (by omega), ⟨lo2 _ _ (by omega) (by omega) (by omega) (by omega), fun p _ _ => fL' p⟩, lo2 _ _ (by omega) (by omega) (by omega) (by omega)⟩
  have e8 : gr h' 1 8 = gr h 1 8 := lr _ _ (by omega)
  refine ⟨s.1, ICo_fr I' fc C, ⟨by rw [er]; exact e8, fun a i p => by rw [lo2 a i (by omega) (by omega) (by omega) (by omega)]; exact lo a i (by omega) (by omega), by rw [lo2 _ _ (by omega) (by omega) (by omega) (by omega)]; exact lo _ _ (by omega) (by omega), by rw [lo2 _ _ (by omega) (by omega) (by omega) (by omega)]; exact lo _ _ (by omega) (by omega), fun i hi => by rw [lo2 _ _ (by omega) (by omega) (by omega) (by omega)]; exact lo _ _ (by omega) (by omega)⟩, rm_3 ?_ (ct_e (by rw [lo2 _ _ (by omega) (by omega) (by omega) (by omega) ]; exact lo _ _ (by omega) (by omega)) (by rw [lo2 _ _ (by omega) (by omega) (by omega) (by omega) ]; exact lo _ _ (by omega) (by omega))), ?_, ?_⟩
  · have : H'.2.2 = (sl h' 0 v).2.2 := f.2.2
    rw [this]
    show h'.2.2.2 = _
    rw [l2]
  · rw [f.1 _ _ (by omega) (by omega) (by omega) (by omega), thr0]
  · show H'.2.2.1 0 = _
    have : H'.2.2 = (sl h' 0 v).2.2 := f.2.2
    rw [this]
    show gl (sl h' 0 v) 0 = _
    rw [gl_sl, if_pos rfl]
end OCO
