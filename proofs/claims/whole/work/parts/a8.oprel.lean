/-! THE CALL relation -/
section ORL
variable {h : dm_H} {π : Int → Int}
theorem unit_r {z : Int} : 1 ≤ dm_unit z ∧ dm_unit z ≤ 10000 := by unfold dm_unit; repeat' split; all_goals omega
theorem s69 {d : Nat} (hd : 1 ≤ d) {n c k : Int} (en : gi h 2 0 = n) (hn : 0 ≤ n ∧ n < 6) (hc : 1 ≤ c ∧ c ≤ 3) : dF d 69 [dR 1 6 2, dI c, dI k] h = rI n (si (si (si (si h 3 n c) 4 n k) 5 n (if k = 0 then 1 else dm_unit (c - 1) * 100)) 2 0 (n + 1)) := by
  have u := unit_r (z := c - 1)
  have t : ∀ u, dL (d - 1) 69 67 [lR 1 6 2, lI c, lI k] [dI u, dI n, dR 2 6 5] (si (si h 3 n c) 4 n k) = rI n (si (si (si (si h 3 n c) 4 n k) 5 n u) 2 0 (n + 1)) := by
    intro u
    rw [b69_67, ix_p hn.1 hn.2, gi_sin (by omega), gi_sin (by omega), gi_sin (by omega), en, ck_p (by omega) (by omega), gi_si, if_pos ⟨rfl, rfl⟩, ck_p (by omega) (by omega), show n + 1 - 1 = n by omega]
  rw [f69 (by omega), b69_0, if_pos (by omega), if_neg (by omega), if_neg (by omega), en, ix_p hn.1 hn.2, gi_sin (by omega), en, ix_p hn.1 hn.2, gi_sin (by omega), gi_sin (by omega), en]
  by_cases z : k = 0
  · rw [if_pos z, if_pos z, t]
  · rw [if_neg z, if_neg z, ck_p (by omega) (by omega), ix_p (by omega) (by omega), ck_p (by omega) (by omega), t]
theorem rel_IN0 {n : Int} (en : gi h 2 0 = n) (hn : 0 ≤ n ∧ n < 6) {H : dm_H} (m : rlM n h H) (h3 : 1 ≤ gi H 3 n ∧ gi H 3 n ≤ 3) (h4 : 0 ≤ gi H 4 n ∧ gi H 4 n ≤ 2) (h5 : gi H 5 n = if gi H 4 n = 0 then 1 else dm_unit (gi H 3 n - 1) * 100) (h6 : gi H 166 n = gi H 3 n ∧ gi H 167 n = gi H 4 n) (I : IN0 π h) : IN0 π H := by
  obtain ⟨IR, ID, B, J0, NM, G, HH, L, F, W⟩ := I
  have K := IR.1
  have ex := rlM_c K en m
  obtain ⟨m1, m2, m3, m4⟩ := m
  have m : rlM n h H := ⟨m1, m2, m3, m4⟩
  have g := m1
  have eA : ∀ A, ru A → ∀ a i, A ≤ a → a ≤ A + 7 → gi H a i = gi h a i := fun A r a i p q => by
    have := ru_r r
    exact g a i (by omega) (by omega) (by omega)
  have hA : ∀ j, 0 ≤ j → j < gi h 13 1 → ru (gr h 14 j) := fun j j0 j1 => (B.2.2.1 j j0 j1).1
  have eR : RLc H = RLc h := RLc_cg2 (g _ _ (by omega) (by omega) (by omega)) (fun j _ _ => m2 14 j) (fun j j0 j1 a i p q _ => eA _ (hA j j0 j1) a i p (by omega))
  have g1 := BKS_G1 K B
  rw [en] at g1
  have KH : RK H := by
    refine ⟨by rw [m3]; omega, fun r r0 r1 => ?_⟩
    by_cases z : r = n
    · rw [z]
      exact ⟨⟨h3.2, h4⟩, fun _ => ⟨h3.1, h5⟩⟩
    · rw [m3, g 3 r (by omega) (by omega) (by omega), g 4 r (by omega) (by omega) (by omega), g 5 r (by omega) (by omega) (by omega)]
      have := K.2 r r0 r1
      rw [en] at this
      exact ⟨this.1, fun w => this.2 (by omega)⟩
  have IRH : IRel H := by
    refine ⟨KH, by rw [m3, m4], fun r => ?_, fun r r0 r1 => ?_⟩
    · by_cases z : r = n
      · rw [z]; exact h6
      · rw [g 166 r (by omega) (by omega) (by omega), g 167 r (by omega) (by omega) (by omega), g 3 r (by omega) (by omega) (by omega), g 4 r (by omega) (by omega) (by omega)]
        exact IR.2.2.1 r
    · rw [m3] at r0
      rw [g 3 r (by omega) (by omega) (by omega), g 4 r (by omega) (by omega) (by omega)]
      exact IR.2.2.2 r (by omega) r1
  refine ⟨IRH, ?_, ?_, by rw [g _ _ (by omega) (by omega) (by omega)]; exact J0, ?_, ?_, ?_, ?_, ?_, ?_⟩
  · obtain ⟨d1, d2, d3, d4⟩ := ID
    refine ⟨by rw [g _ _ (by omega) (by omega) (by omega), g _ _ (by omega) (by omega) (by omega)]; exact d1, by rw [g _ _ (by omega) (by omega) (by omega)]; exact d2, by rw [m2]; exact d3, fun q => ?_⟩
    rw [g _ _ (by omega) (by omega) (by omega)] at q
    obtain ⟨D, S, X⟩ := d4 q
    rw [m2, eA _ d3 _ _ (by omega) (by omega)]
    exact ⟨DSH_ext K d3 en m D, SR_ext K d3 en m D S, RX_cg (fun i _ _ => g _ _ (by omega) (by omega) (by omega)) D.2.1.2 X⟩
  · obtain ⟨b1, ⟨b2, b3, b4⟩, b5, b6, b7, b8⟩ := B
    have e13 : gi H 13 1 = gi h 13 1 := g _ _ (by omega) (by omega) (by omega)
    have e174 : ∀ p, gi H 174 p = gi h 174 p := fun p => g _ _ (by omega) (by omega) (by omega)
    unfold BKS
    simp only [m2, e13, e174]
    refine ⟨b1, ⟨b2, b3, b4⟩, fun j j0 j1 => ?_, b6, b7, b8⟩
    obtain ⟨r1, r2, r3, r4, r5, r6, r7⟩ := b5 j j0 j1
    have e := eA _ r1
    have c := (uR_cg (A := gr h 14 j) (h := h) (h' := H) (fun a i p q _ => e a i p (by omega))).2
    have ea : ∀ i, gi H (gr h 14 j) i = gi h (gr h 14 j) i := fun i => e _ i (by omega) (by omega)
    have e1 : gi H (gr h 14 j + 1) = gi h (gr h 14 j + 1) := funext (fun i => e _ i (by omega) (by omega))
    unfold RIN
    simp only [ea, e174]
    rw [c, e1]
    exact ⟨r1, DSH_ext K r1 en m r2, r3, r4, r5, SR_ext K r1 en m r2 r6, RX_cg (fun i _ _ => g _ _ (by omega) (by omega) (by omega)) r2.2.1.2 r7⟩
  · obtain ⟨q1, q2, q3⟩ := NM
    have e13 : ∀ i, gi H 13 i = gi h 13 i := fun i => g _ _ (by omega) (by omega) (by omega)
    unfold INm
    simp only [m2, e13, g 165 15 (by omega) (by omega) (by omega), show ∀ i, gi H 173 i = gi h 173 i from fun i => g _ _ (by omega) (by omega) (by omega)]
    refine ⟨q1, q2, fun j j0 j1 => ?_⟩
    rw [eA _ (hA j j0 j1) _ _ (by omega) (by omega)]
    obtain ⟨t1, t2, t3⟩ := q3 j j0 j1
    exact ⟨t1, t2, fun i i0 i1 => by rw [eA _ (hA i i0 (by omega)) _ _ (by omega) (by omega)]; exact t3 i i0 i1⟩
  · rw [eR, m3]
    rw [en] at G
    exact GOOD_ext (by omega) (fun r r0 r1 => (ex r r0 r1).1) G
  · refine ⟨fun r r0 r1 => by rw [g _ _ (by omega) (by omega) (by omega)]; exact HH.1 r r0 r1, ?_⟩
    rw [eR]
    have : bh H 6 = bh h 6 := by
      funext r q
      unfold bh
      rw [g 6 r (by omega) (by omega) (by omega)]
    rw [this]; exact HH.2
  · refine ⟨?_, ?_, ?_⟩
    · rw [eR, show gi H 7 = gi h 7 from funext (fun i => g _ _ (by omega) (by omega) (by omega))]
      exact lyL_ext g1 (fun r r0 r1 => (ex r r0 r1).1.2) L.1
    · rw [g 2 6 (by omega) (by omega) (by omega)]
      exact fun r r0 r1 => by rw [g 7 r (by omega) (by omega) (by omega)]; exact L.2.1 r r0 r1
    · rw [g 2 6 (by omega) (by omega) (by omega)]; exact L.2.2
  · obtain ⟨F1, F2, F3, F4, F5, F6, F7, F8, F9⟩ := F
    have e8 : ∀ i, gi H 8 i = gi h 8 i := fun i => g _ _ (by omega) (by omega) (by omega)
    have e9 : ∀ i, gi H 9 i = gi h 9 i := fun i => g _ _ (by omega) (by omega) (by omega)
    have e10 : ∀ i, gi H 10 i = gi h 10 i := fun i => g _ _ (by omega) (by omega) (by omega)
    have e11 : ∀ i, gi H 11 i = gi h 11 i := fun i => g _ _ (by omega) (by omega) (by omega)
    have e12 : ∀ i, gi H 12 i = gi h 12 i := fun i => g _ _ (by omega) (by omega) (by omega)
    have l9 : fL 9 H = fL 9 h := by funext p; unfold fL; simp only [e9, e10, e11, e12]
    have l168 : fL 168 H = fL 168 h := by funext p; unfold fL; simp only [g 168 p (by omega) (by omega) (by omega), g (168 + 1) p (by omega) (by omega) (by omega), g (168 + 2) p (by omega) (by omega) (by omega), g (168 + 3) p (by omega) (by omega) (by omega)]
    unfold IFc
    rw [l9, l168]
    simp only [e8, e11, e12, g 165 5 (by omega) (by omega) (by omega), g 165 4 (by omega) (by omega) (by omega), g 165 10 (by omega) (by omega) (by omega), g 165 11 (by omega) (by omega) (by omega), g 1 12 (by omega) (by omega) (by omega)]
    refine ⟨⟨by rw [e8]; exact F1.1, fun p p0 p1 => ?_⟩, F2, F3, F4, F5, F6, F7, F8, F9⟩
    rw [e8] at p1
    obtain ⟨v1, v2⟩ := F1.2 p p0 p1
    rw [en] at v1
    rw [e9, e10, m3, (ex _ v1.1 v1.2).1.1]
    exact ⟨by omega, v2⟩
  · obtain ⟨w1, w2, w3, w4, w5, w6, w7⟩ := W
    have hP : gr h 1 8 = 95 ∨ gr h 1 8 = 112 := w1.1
    have eW : eqW (cW h (gr h 1 8)) (cW H (gr h 1 8)) := cW_far w1.1 (fun a i p q => g a i (by omega) (by omega) (by omega))
    have ez : ∀ r, 0 ≤ r → r < 6 → rsz H (gr h 1 8) r = rsz h (gr h 1 8) r := fun r r0 r1 => (eW r r0 r1).1
    have eoW : oW H = oW h := by
      have a1 : (fun r => gi H 182 r) = fun r => gi h 182 r := funext (fun r => g _ _ (by omega) (by omega) (by omega))
      have a2 : (fun r x => gi H 181 (40 * r + x)) = fun (r x : Int) => gi h 181 (40 * r + x) := by
        funext r x
        exact g _ _ (by omega) (by omega) (by omega)
      unfold oW
      rw [a1, a2]
    have D := DC_of K
    have hU := RU_of K.1.2 G L.1.1
    have eft : ftC H (gi H 1 12) (-1) (-1) = ftC h (gi h 1 12) (-1) (-1) := by
      funext r c
      unfold ftC
      simp only [g 8 0 (by omega) (by omega) (by omega), g 1 12 (by omega) (by omega) (by omega), show ∀ i, gi H 9 i = gi h 9 i from fun i => g _ _ (by omega) (by omega) (by omega), show ∀ i, gi H 10 i = gi h 10 i from fun i => g _ _ (by omega) (by omega) (by omega), show ∀ i, gi H 12 i = gi h 12 i from fun i => g _ _ (by omega) (by omega) (by omega)]
    unfold IRw
    rw [m2, m2, eoW, eft, eR, m3, g 1 13 (by omega) (by omega) (by omega), g 1 14 (by omega) (by omega) (by omega), show gi H 7 = gi h 7 from funext (fun i => g _ _ (by omega) (by omega) (by omega))]
    refine ⟨w1, eqW_SRT eW w2, eqW_trans (eqW_trans (eqW_symm eW) w3) (rW_same (fun i => g _ _ (by omega) (by omega) (by omega)) (fun i => g _ _ (by omega) (by omega) (by omega))), fun r r0 r1 => ?_, w5, ⟨?_, ?_⟩, ?_⟩
    · rw [ez r (by omega) r1]; exact w4 r (by omega) r1
    · rw [w6.1]
      exact (ms_eq eW (fun r r0 r1 c => Iff.rfl) (fun r r0 r1 => (w7.1 r r0 r1).1.1)).symm
    · rw [w6.2]
      exact (ms_eq (eqW_refl _) (inW_eq eW) (fun r r0 r1 => (w5 r r0 r1).1)).symm
    · refine gds_ext (n := n) D hU (fun r r0 r1 => (ex r r0 r1).1) (fun r c ⟨p, p0, p1, _, _, _, p5, _⟩ => ?_) (fun u hu => (g1 u hu).2.1.2) (fun u hu k k0 k1 q => (LSH_rel ((g1 u hu).2.2.1.2.2.1 k k0 k1) q).2) (fun r r0 rn r1 => ?_) (eqW_gds D hU eW w7)
      · have := (F.1.2 p p0 p1).1
        omega
      · have e : (cW H (gr h 1 8)).1 r = rsz h (gr h 1 8) r := ez r r0 r1
        rw [e]; exact w4 r (by omega) r1
end ORL
