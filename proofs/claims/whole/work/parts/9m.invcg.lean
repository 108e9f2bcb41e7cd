/-! THE INVARIANT's congruence -/
/-- cells that the invariant speaks of -/
def crd (P : Nat) (a : Nat) (i : Int) : Prop := (a ≤ 94 ∧ ¬ (15 ≤ a ∧ a % 8 = 6) ∧ ¬ (a = 1 ∧ 15 ≤ i) ∧ a ≠ 6 ∧ a ≠ 7 ∧ ¬ (a = 2 ∧ i = 6)) ∨ (129 ≤ a ∧ a ≤ 135) ∨ (P + 1 ≤ a ∧ a ≤ P + 8) ∨ (a = 165 ∧ (i = 1 ∨ i = 4 ∨ i = 5 ∨ i = 10 ∨ i = 11 ∨ i = 15 ∨ i = 16)) ∨ (166 ≤ a ∧ a ≤ 174) ∨ (181 ≤ a ∧ a ≤ 182)
/-- nothing that the invariant speaks of is another one -/
def fr0 (h h' : dm_H) : Prop := (∀ a i, crd (gr h 1 8) a i → gi h' a i = gi h a i) ∧ (gr h' 1 8 = gr h 1 8 ∧ gr h' 1 9 = gr h 1 9 ∧ gr h' 1 10 = gr h 1 10) ∧ ∀ j, gr h' 14 j = gr h 14 j
section ICG
variable {h h' : dm_H} {π : Int → Int}
theorem RLc_cg2 (e13 : gi h' 13 1 = gi h 13 1) (er : ∀ j, 0 ≤ j → j < gi h 13 1 → gr h' 14 j = gr h 14 j) (e : ∀ j, 0 ≤ j → j < gi h 13 1 → ∀ a i, gr h 14 j ≤ a → a ≤ gr h 14 j + 5 → ¬ (a = gr h 14 j ∧ (i = 0 ∨ i = 7)) → gi h' a i = gi h a i) : RLc h' = RLc h := by
  have key : ∀ j, 0 ≤ j → j < gi h 13 1 → gi h' (gr h 14 j) 1 = gi h (gr h 14 j) 1 ∧ uR h' (gr h 14 j) = uR h (gr h 14 j) := fun j j0 j1 =>
    ⟨e j j0 j1 _ _ (by omega) (by omega) (by omega), (uR_cg (fun a i p q r => e j j0 j1 a i p q r)).1⟩
  funext u
  refine propext ⟨fun ⟨j, j0, j1, j2, j3⟩ => ?_, fun ⟨j, j0, j1, j2, j3⟩ => ?_⟩
  · rw [e13] at j1
    rw [er j j0 j1] at j2 j3
    obtain ⟨k1, k2⟩ := key j j0 j1
    exact ⟨j, j0, j1, by rw [← k1]; exact j2, by rw [← k2]; exact j3⟩
  · obtain ⟨k1, k2⟩ := key j j0 j1
    exact ⟨j, j0, by rw [e13]; exact j1, by rw [er j j0 j1, k1]; exact j2, by rw [er j j0 j1, k2]; exact j3⟩
theorem IRel_cg (e2 : gi h' 2 0 = gi h 2 0) (e : ∀ a i, a = 3 ∨ a = 4 ∨ a = 5 ∨ a = 166 ∨ a = 167 → gi h' a i = gi h a i) (e1 : gi h' 165 1 = gi h 165 1) (I : IRel h) : IRel h' := by
  obtain ⟨I1, I2, I3, I4⟩ := I
  have e3 : ∀ i, gi h' 3 i = gi h 3 i := fun i => e 3 i (by omega)
  have e4 : ∀ i, gi h' 4 i = gi h 4 i := fun i => e 4 i (by omega)
  have e5 : ∀ i, gi h' 5 i = gi h 5 i := fun i => e 5 i (by omega)
  have e6 : ∀ i, gi h' 166 i = gi h 166 i := fun i => e 166 i (by omega)
  have e7 : ∀ i, gi h' 167 i = gi h 167 i := fun i => e 167 i (by omega)
  unfold IRel RK
  simp only [e2, e3, e4, e5, e6, e7, e1]
  exact ⟨I1, I2, I3, I4⟩
theorem gds_fr {cl kd ly : Int → Int} {oc : Int → Int → Prop} {ft : Int → Int → Prop} {RL : mU → Prop} {n : Int} {ω ω' : mW} (D : DC cl kd) (hR : ∀ u, RL u → RU cl kd ly oc u) (e : eqW ω ω') (g : gds cl kd ly ft RL n ω) : gds cl kd ly ft RL n ω' := eqW_gds D hR e g
theorem ru_r {A : Nat} (r : ru A) : 15 ≤ A ∧ A + 7 < 137 ∧ (A ≤ 87 ∨ A = 129) ∧ (A ≤ 87 → A % 8 = 7) := by unfold ru at r; omega
theorem crd_ru {A P : Nat} (r : ru A) {a : Nat} {i : Int} (p : A ≤ a) (q : a ≤ A + 6) : crd P a i := by
  have := ru_r r
  unfold crd
  omega
theorem RIN_cg {A : Nat} {p : Int} (r : ru A) (e : ∀ a i, A ≤ a → a ≤ A + 6 → gi h' a i = gi h a i) (e2 : gi h' 2 0 = gi h 2 0) (e3 : ∀ a i, a = 3 ∨ a = 166 ∨ a = 172 ∨ a = 174 → gi h' a i = gi h a i) (R : RIN A p h) : RIN A p h' := by
  obtain ⟨r1, r2, r3, r4, r5, r6, r7⟩ := R
  have c := RIc_cg (h := h) (h' := h') r (fun a i p q _ => e a i p q) e2 (fun i => e3 3 i (by omega)) ⟨r1, r2, r3, r4⟩
  refine ⟨r1, c.2.1, c.2.2.1, c.2.2.2, by rw [e3 174 p (by omega)]; exact r5, SR_cg (fun a i p q _ => e a i p (by omega)) (fun i _ _ => e3 _ _ (by omega)) (fun i => e3 _ _ (by omega)) r6 r2.2.1.2, ?_⟩
  rw [e A 4 (by omega) (by omega)]
  exact RX_cg (fun i _ _ => e3 _ _ (by omega)) r2.2.1.2 r7
theorem IN0_cg (f : fr0 h h') (E : eqW (rW h) (rW h')) (H' : CH h') (L' : CL h') (I : IN0 π h) : IN0 π h' := by
  obtain ⟨IR, ID, B, J0, NM, G, H, L, F, W⟩ := I
  obtain ⟨f1, ⟨f2, f3, f4⟩, f5⟩ := f
  obtain ⟨P, eP⟩ : ∃ P, gr h 1 8 = P := ⟨_, rfl⟩
  obtain ⟨w1, w2, w3, w4, w5, w6, w7⟩ := W
  rw [eP] at f1 f2 w1 w2 w3 w4 w6 w7
  have hP : P = 95 ∨ P = 112 := w1.1
  have hn := B.1
  have lo : ∀ a i, a ≤ 14 → ¬ ((a = 1 ∧ 15 ≤ i) ∨ a = 6 ∨ a = 7 ∨ (a = 2 ∧ i = 6)) → gi h' a i = gi h a i := fun a i p q => f1 a i (Or.inl ⟨by omega, by omega, by omega, by omega, by omega, by omega⟩)
  have hi : ∀ a i, 166 ≤ a → a ≤ 174 → gi h' a i = gi h a i := fun a i p q => f1 a i (by unfold crd; omega)
  have hA : ∀ j, 0 ≤ j → j < gi h 13 1 → ru (gr h 14 j) := fun j j0 j1 => (B.2.2.1 j j0 j1).1
  have eA : ∀ A, ru A → ∀ a i, A ≤ a → a ≤ A + 6 → gi h' a i = gi h a i := fun A r a i p q => f1 a i (crd_ru r p q)
  have e13 : gi h' 13 1 = gi h 13 1 := lo _ _ (by omega) (by omega)
  have eR : RLc h' = RLc h := RLc_cg2 e13 (fun j _ _ => f5 j) (fun j j0 j1 a i p q _ => eA _ (hA j j0 j1) a i p (by omega))
  have e3 : ∀ i, gi h' 3 i = gi h 3 i := fun i => lo _ _ (by omega) (by omega)
  have ecK : cK h' = cK h := by unfold cK; simp only [e3]
  have e4 : gi h' 4 = gi h 4 := funext (fun i => lo _ _ (by omega) (by omega))
  have e2 : gi h' 2 0 = gi h 2 0 := lo _ _ (by omega) (by omega)
  have e7 : ∀ r, 0 ≤ r → r < 6 → gi h' 7 r = gi h 7 r := by
    have a := L'.1
    rw [e4, eR] at a
    exact lyL_eq a L.1
  have e165 : ∀ i, (i = 1 ∨ i = 4 ∨ i = 5 ∨ i = 10 ∨ i = 11 ∨ i = 15 ∨ i = 16) → gi h' 165 i = gi h 165 i := fun i q => f1 _ _ (by unfold crd; omega)
  have eW : eqW (cW h P) (cW h' P) := cW_far w1.1 (fun a i p q => f1 a i (by unfold crd; omega))
  have eoW : oW h' = oW h := by
    have a1 : (fun r => gi h' 182 r) = fun r => gi h 182 r := funext (fun r => f1 _ _ (by unfold crd; omega))
    have a2 : (fun r x => gi h' 181 (40 * r + x)) = fun (r x : Int) => gi h 181 (40 * r + x) := by
      funext r x
      exact f1 _ _ (by unfold crd; omega)
    unfold oW
    rw [a1, a2]
  refine ⟨IRel_cg e2 (fun a i q => by rcases q with q | q | q | q | q <;> first | exact lo _ _ (by omega) (by omega) | exact hi _ _ (by omega) (by omega)) (e165 1 (by omega)) IR, ?_, ?_, by rw [hi _ _ (by omega) (by omega)]; exact J0, ?_, ?_, ?_, ?_, ?_, ?_⟩
  · obtain ⟨d1, d2, d3, d4⟩ := ID
    refine ⟨by rw [e165 16 (by omega), lo _ _ (by omega) (by omega)]; exact d1, by rw [lo _ _ (by omega) (by omega)]; exact d2, by rw [f4]; exact d3, fun q => ?_⟩
    rw [lo _ _ (by omega) (by omega)] at q
    obtain ⟨D, S, X⟩ := d4 q
    rw [f4]
    refine ⟨DSH_cg (fun a i p q _ => eA _ d3 a i p q) e2 e3 D, SR_cg (fun a i p q _ => eA _ d3 a i p (by omega)) (fun i _ _ => hi _ _ (by omega) (by omega)) (fun i => hi _ _ (by omega) (by omega)) S D.2.1.2, ?_⟩
    rw [eA _ d3 _ _ (by omega) (by omega)]
    exact RX_cg (fun i _ _ => hi _ _ (by omega) (by omega)) D.2.1.2 X
  · obtain ⟨b1, ⟨b2, b3, b4⟩, b5, b6, b7, b8⟩ := B
    unfold BKS
    simp only [f4, f5, e13]
    refine ⟨b1, ⟨b2, b3, b4⟩, fun j j0 j1 => RIN_cg (hA j j0 j1) (eA _ (hA j j0 j1)) e2 (fun a i q => by rcases q with q | q | q | q <;> first | exact lo _ _ (by omega) (by omega) | exact hi _ _ (by omega) (by omega)) (b5 j j0 j1), b6, fun p p0 p1 q => ?_, fun p p0 p1 => ?_⟩
    · rw [hi _ _ (by omega) (by omega)] at q; exact b7 p p0 p1 q
    · rw [hi _ _ (by omega) (by omega)]; exact b8 p p0 p1
  · obtain ⟨m1, m2, m3⟩ := NM
    unfold INm
    simp only [f5, e13]
    rw [e165 15 (by omega), lo 13 3 (by omega) (by omega)]
    refine ⟨m1, m2, fun j j0 j1 => ?_⟩
    have a1 : gi h' (gr h 14 j) 0 = gi h (gr h 14 j) 0 := eA _ (hA j j0 j1) _ _ (by omega) (by omega)
    rw [a1, hi _ _ (by omega) (by omega)]
    obtain ⟨q1, q2, q3⟩ := m3 j j0 j1
    refine ⟨q1, q2, fun i i0 i1 => ?_⟩
    rw [eA _ (hA i i0 (by omega)) _ _ (by omega) (by omega)]; exact q3 i i0 i1
  · rw [ecK, e4, e2, eR]; exact G
  · exact H'
  · exact L'
  · obtain ⟨F1, F2, F3, F4, F5, F6, F7, F8, F9⟩ := F
    have e8 : ∀ i, gi h' 8 i = gi h 8 i := fun i => lo _ _ (by omega) (by omega)
    have e9 : ∀ i, gi h' 9 i = gi h 9 i := fun i => lo _ _ (by omega) (by omega)
    have e10 : ∀ i, gi h' 10 i = gi h 10 i := fun i => lo _ _ (by omega) (by omega)
    have e11 : ∀ i, gi h' 11 i = gi h 11 i := fun i => lo _ _ (by omega) (by omega)
    have e12 : ∀ i, gi h' 12 i = gi h 12 i := fun i => lo _ _ (by omega) (by omega)
    have l9 : fL 9 h' = fL 9 h := by funext p; unfold fL; simp only [e9, e10, e11, e12]
    have l168 : fL 168 h' = fL 168 h := by funext p; unfold fL; simp only [hi 168 p (by omega) (by omega), hi (168 + 1) p (by omega) (by omega), hi (168 + 2) p (by omega) (by omega), hi (168 + 3) p (by omega) (by omega)]
    unfold IFc FV
    rw [l9, l168, ecK]
    simp only [e8, e9, e10, e11, e12, e2, e165 5 (by omega), e165 4 (by omega), e165 10 (by omega), e165 11 (by omega), lo 1 12 (by omega) (by omega)]
    exact ⟨F1, F2, F3, F4, F5, F6, F7, F8, F9⟩
  · have K := IR.1
    have hU := RU_of K.1.2 G L.1.1
    have D := DC_of K
    have eft : ftC h' (gi h' 1 12) (-1) (-1) = ftC h (gi h 1 12) (-1) (-1) := by
      funext r c
      unfold ftC
      have e9 : ∀ i, gi h' 9 i = gi h 9 i := fun i => lo _ _ (by omega) (by omega)
      have e10 : ∀ i, gi h' 10 i = gi h 10 i := fun i => lo _ _ (by omega) (by omega)
      have e12 : ∀ i, gi h' 12 i = gi h 12 i := fun i => lo _ _ (by omega) (by omega)
      simp only [lo 8 0 (by omega) (by omega), lo 1 12 (by omega) (by omega), e9, e10, e12]
    have hz : ∀ r, 0 ≤ r → r < 6 → 0 ≤ (cW h P).1 r := fun r r0 r1 => (w7.1 r r0 r1).1.1
    unfold IRw
    rw [f2, f3, eoW, e2, ecK, e4, eR, eft, lo 1 13 (by omega) (by omega), lo 1 14 (by omega) (by omega)]
    refine ⟨w1, eqW_SRT eW w2, eqW_trans (eqW_trans (eqW_symm eW) w3) E, fun r r0 r1 => ?_, w5, ⟨?_, ?_⟩, ?_⟩
    · have e : rsz h' P r = rsz h P r := f1 _ _ (by unfold crd; omega)
      rw [e]; exact w4 r r0 r1
    · rw [w6.1]
      exact (ms_eq eW (fun r r0 r1 c => Iff.rfl) hz).symm
    · rw [w6.2]
      exact (ms_eq (eqW_refl _) (inW_eq eW) (fun r r0 r1 => (w5 r r0 r1).1)).symm
    · exact gds_ly e7 (fun u hu => (hU u hu).2.1) (eqW_gds D hU eW w7)
/-- what hangs and layers, if their cells stay -/
theorem CHL_cg (f : fr0 h h') (e6 : ∀ i, gi h' 6 i = gi h 6 i) (e7 : ∀ i, gi h' 7 i = gi h 7 i) (e26 : gi h' 2 6 = gi h 2 6) (I : IN0 π h) : CH h' ∧ CL h' := by
  obtain ⟨IR, ID, B, J0, NM, G, H, L, F, W⟩ := I
  have hA : ∀ j, 0 ≤ j → j < gi h 13 1 → ru (gr h 14 j) := fun j j0 j1 => (B.2.2.1 j j0 j1).1
  have eR : RLc h' = RLc h := RLc_cg2 (f.1 _ _ (by unfold crd; omega)) (fun j _ _ => f.2.2 j) (fun j j0 j1 a i p q _ => f.1 _ _ (crd_ru (hA j j0 j1) p (by omega)))
  have e4 : gi h' 4 = gi h 4 := funext (fun i => f.1 _ _ (by unfold crd; omega))
  refine ⟨⟨fun r r0 r1 => by rw [e6]; exact H.1 r r0 r1, ?_⟩, ?_⟩
  · rw [eR]
    have : bh h' 6 = bh h 6 := by
      funext r q
      unfold bh
      rw [e6]
    rw [this]; exact H.2
  · unfold CL
    rw [e4, eR, funext e7, e26]; exact L
end ICG
