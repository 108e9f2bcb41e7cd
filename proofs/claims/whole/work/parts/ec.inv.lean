/-! THE LAW: what holds between two calls -/
section LAWI
variable {h h' : dm_H} {π π' : Int → Int}
/-- the invariant, numbers of room and time apart -/
def LWI (π : Int → Int) (h : dm_H) : Prop := IN0 π h ∧ still h (gr h 1 8) ∧ ICo h ∧ IRp h
theorem IRp_fr (f : frRp h h') (R : IRp h) : IRp h' := by
  obtain ⟨f1, f2, f3, f4, f5⟩ := f
  have e : ∀ i, gi h' 164 i = gi h 164 i := fun i => f2 _ _ (Or.inr rfl)
  unfold IRp
  rw [f3, f4, f5 44 (by omega), f5 45 (by omega), f5 46 (by omega), f5 47 (by omega), e 0, e 1]
  exact R
theorem LWI_2 (L : LWI π h) (f : frZ2 h h') (I : IN0 π' h') : LWI π' h' := ⟨I, still_rp ⟨f.1, fun a i q => f.2.2.1 a i (Or.inl q)⟩ L.2.1, ICo_fr L.1 (frCo_2 f) L.2.2.1, IRp_fr (frRp_2 f) L.2.2.2⟩
theorem LWI_Z (L : LWI π h) (f : frZ h h') (I : IN0 π' h') : LWI π' h' := LWI_2 L (frZ_2 f) I
theorem LWI_d (f : dwnF h') (I : IN0 π' h') : LWI π' h' := ⟨I, f.2.2.2, Or.inl f.1, Or.inl ⟨f.2.1, f.2.2.1⟩⟩
theorem LWI_r (L : LWI π h) (f : frCo h h') (I : IN0 π' h') (R : IRp h') : LWI π' h' := ⟨I, still_rp ⟨f.1, fun a i q => f.2.2.1 a i (Or.inl q)⟩ L.2.1, ICo_fr L.1 f L.2.2.1, R⟩
theorem LWI_c (L : LWI π h) (f : frRp h h') (I : IN0 π' h') (C : ICo h') : LWI π' h' := ⟨I, still_rp ⟨f.1, fun a i q => f.2.1 a i (Or.inl q)⟩ L.2.1, C, IRp_fr f L.2.2.2⟩
theorem LWI_D (L : LWI π h) (f : frDr h h') (ID : IDr h') : LWI π h' := by
  obtain ⟨a, b⟩ := dr_all L.1 f ID
  exact LWI_Z L b a
/-- costs of rules over more relations -/
theorem GSB_ext {cl cl' : Int → Int} {RL : mU → Prop} {fc : Int → Int → Int → Prop} {ω : mW} {pr : Int} {f : Int → Int → Int} (e : ∀ u, RL u → cl' u.2.1 = cl u.2.1) (g : GSB pr cl RL fc ω f) : GSB pr cl' RL fc ω f := by
  have key : ∀ (cl cl' : Int → Int), (∀ u, RL u → cl' u.2.1 = cl u.2.1) → ∀ s, STB pr cl RL fc ω s → STB pr cl' RL fc ω s := by
    intro cl cl' e s ⟨a1, a2, a3⟩
    refine ⟨a1, a2, fun u hu v hv x hx => ?_⟩
    have e1 := e u hu
    have b1 : ∀ v, hdc cl' u v = hdc cl u v := fun v => by unfold hdc; rw [e1]
    have b2 : gkv cl' u = gkv cl u := by funext v; unfold gkv; rw [e1]
    have b3 : gam cl' u = gam cl u := by funext v; unfold gam; rw [e1]
    have b4 : ∀ k, grow cl' u ω k = grow cl u ω k := fun k => by unfold grow; rw [b2, b3, e1]
    have er : wrow cl' u ω v = wrow cl u ω v := by unfold wrow; rw [b1, b2, b4]
    have ec : wcost pr cl' u ω s v = wcost pr cl u ω s v := by unfold wcost; rw [b2]
    rw [er] at hx
    rw [ec]
    exact a3 u hu v hv x hx
  exact ⟨key cl cl' e f g.1, fun s hs => g.2 s (key cl' cl (fun u hu => (e u hu).symm) s hs)⟩
theorem LWI_rel (L : LWI π h) {n : Int} (en : gi h 2 0 = n) (m : rlM n h h') (I : IN0 π' h') : LWI π' h' := by
  obtain ⟨m1, m2, m3, m4⟩ := m
  have h6 := L.1.1.1.1
  have hP8 : gr h 1 8 = 95 ∨ gr h 1 8 = 112 := L.1.2.2.2.2.2.2.2.2.2.1.1
  have e8 : gr h' 1 8 = gr h 1 8 := m2 _ _
  have lo : ∀ a i, a ≠ 3 → a ≠ 4 → a ≠ 5 → a ≠ 166 → a ≠ 167 → a ≠ 2 → a ≠ 165 → gi h' a i = gi h a i := fun a i p1 p2 p3 p4 p5 p6 p7 => m1 a i (by omega) (by omega) (by omega)
  have hA : ∀ j, 0 ≤ j → j < gi h 13 1 → ru (gr h 14 j) := fun j j0 j1 => (L.1.2.2.1.2.2.1 j j0 j1).1
  have eR : RLc h' = RLc h := RLc_cg2 (lo _ _ (by omega) (by omega) (by omega) (by omega) (by omega) (by omega) (by omega)) (fun j _ _ => m2 _ _) (fun j j0 j1 a i p q _ => by
    have := ru_r (hA j j0 j1)
    exact lo a i (by omega) (by omega) (by omega) (by omega) (by omega) (by omega) (by omega))
  have eK : ∀ u, RLc h u → cK h' u.2.1 = cK h u.2.1 := fun u hu => by
    obtain ⟨j, j0, j1, j3, rfl⟩ := hu
    have d := ((RIN_c (L.1.2.2.1.2.2.1 j j0 j1)).2.1.2.2.2.1 j3).1
    have d : 0 ≤ (uR h (gr h 14 j)).2.1 ∧ (uR h (gr h 14 j)).2.1 < gi h 2 0 := d
    unfold cK
    rw [m1 3 _ (by omega) (by omega) (by omega)]
  have eH : fcH h' = fcH h := by
    funext r c a
    unfold fcH
    simp only [lo 8 0 (by omega) (by omega) (by omega) (by omega) (by omega) (by omega) (by omega), fun i => lo 9 i (by omega) (by omega) (by omega) (by omega) (by omega) (by omega) (by omega), fun i => lo 10 i (by omega) (by omega) (by omega) (by omega) (by omega) (by omega) (by omega)]
  have eP : fcP h' = fcP h := by
    funext r c a
    unfold fcP
    simp only [lo 8 0 (by omega) (by omega) (by omega) (by omega) (by omega) (by omega) (by omega), fun i => lo 9 i (by omega) (by omega) (by omega) (by omega) (by omega) (by omega) (by omega), fun i => lo 10 i (by omega) (by omega) (by omega) (by omega) (by omega) (by omega) (by omega), fun i => lo 11 i (by omega) (by omega) (by omega) (by omega) (by omega) (by omega) (by omega)]
  have hP : rw_ (gr h 1 8) := hP8
  have E : eqW (cW h (gr h 1 8)) (cW h' (gr h 1 8)) := cW_far hP (fun a i p q => lo a i (by omega) (by omega) (by omega) (by omega) (by omega) (by omega) (by omega))
  have V : VW (cK h) (gi h 4) (cW h (gr h 1 8)) := L.1.2.2.2.2.2.2.2.2.2.2.2.2.2.2.2.1
  have hb : ∀ u, RLc h u → bnds u (cW h' (gr h 1 8)) = bnds u (cW h (gr h 1 8)) := fun u hu => by
    have G := RU_GW (DC_of L.1.1.1) ((lay12 L.1).2.2 u hu) V
    exact bnd_eqW (N := u.2.2.2.2) E (fun k k0 k1 q => by
      rcases G.2 k k0 k1 with z | z | z
      · exact z.2.1
      · exact z.2.1
      · rcases z.1 with w | w <;> omega) _ 0 v0 (by omega) (by have := G.1; omega)
  refine ⟨I, still_rp ⟨e8, fun a i q => lo a i (by omega) (by omega) (by omega) (by omega) (by omega) (by omega) (by omega)⟩ L.2.1, ?_, ?_⟩
  · rcases L.2.2.1 with z | ⟨z, f0, f1, g0, g1, g2⟩
    · exact Or.inl ((lo _ _ (by omega) (by omega) (by omega) (by omega) (by omega) (by omega) (by omega)).trans z)
    · refine Or.inr ⟨(lo _ _ (by omega) (by omega) (by omega) (by omega) (by omega) (by omega) (by omega)).trans z, f0, f1, ?_, ?_, fun r y r0 r1 y0 y1 => ?_⟩
      · unfold GH_
        rw [e8, eR, eH]
        exact GSB_ext eK (GSB_E E (IN0_psR L.1) hb g0)
      · unfold GP_
        rw [e8, eR, eP]
        exact GSB_ext eK (GSB_E E (IN0_psR L.1) hb g1)
      · have hz : rsz h' (gr h' 1 8) r = rsz h (gr h 1 8) r := by rw [e8]; exact (E r r0 r1).1
        rw [hz] at y1
        rw [lo _ _ (by omega) (by omega) (by omega) (by omega) (by omega) (by omega) (by omega), lo _ _ (by omega) (by omega) (by omega) (by omega) (by omega) (by omega) (by omega)]
        exact g2 r y r0 r1 y0 y1
  · have R := L.2.2.2
    have q : ∀ i, 44 ≤ i → gi h' 165 i = gi h 165 i := fun i hi => m1 _ _ (by omega) (by omega) (by omega)
    unfold IRp at R ⊢
    rw [lo 1 16 (by omega) (by omega) (by omega) (by omega) (by omega) (by omega) (by omega), lo 1 17 (by omega) (by omega) (by omega) (by omega) (by omega) (by omega) (by omega), q 44 (by omega), q 45 (by omega), q 46 (by omega), q 47 (by omega), lo 164 0 (by omega) (by omega) (by omega) (by omega) (by omega) (by omega) (by omega), lo 164 1 (by omega) (by omega) (by omega) (by omega) (by omega) (by omega) (by omega)]
    exact R
end LAWI
