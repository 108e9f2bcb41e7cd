/-! THE CALL holdsAnew -/
section ANW
variable {h : dm_H} {π : Int → Int}
/-- the spare rows, the joiner and what goes with it may be other ones -/
theorem spare_all {h' : dm_H} (I : IN0 π h) (g : ∀ a i, ¬ (gr h 1 9 + 1 ≤ a ∧ a ≤ gr h 1 9 + 16) → ¬ (a = gr h 1 9 ∧ i = 5) → ¬ (137 ≤ a ∧ a ≤ 143) → ¬ (a = 165 ∧ (i = 0 ∨ (27 ≤ i ∧ i ≤ 34))) → ¬ ((175 ≤ a ∧ a ≤ 176) ∨ (179 ≤ a ∧ a ≤ 180) ∨ (183 ≤ a ∧ a ≤ 190)) → gi h' a i = gi h a i) (er : ∀ a i, ¬ (137 ≤ a ∧ a ≤ 143) → gr h' a i = gr h a i) : IN0 π h' ∧ frZ h h' := by
  have hW := I.2.2.2.2.2.2.2.2.2.1
  have hP : gr h 1 8 = 95 ∨ gr h 1 8 = 112 := hW.1
  have hQ : gr h 1 9 = 95 ∨ gr h 1 9 = 112 := hW.2.1
  have hPQ := hW.2.2
  have f : fr0 h h' := ⟨fun a i c => g a i (by unfold crd at c; omega) (by unfold crd at c; omega) (by unfold crd at c; omega) (by unfold crd at c; omega) (by unfold crd at c; omega), ⟨er _ _ (by omega), er _ _ (by omega), er _ _ (by omega)⟩, fun j => er _ _ (by omega)⟩
  have hl := CHL_cg f (fun i => g _ _ (by omega) (by omega) (by omega) (by omega) (by omega)) (fun i => g _ _ (by omega) (by omega) (by omega) (by omega) (by omega)) (g _ _ (by omega) (by omega) (by omega) (by omega) (by omega)) I
  have hA : ∀ j, 0 ≤ j → j < gi h 13 1 → ru (gr h 14 j) := fun j j0 j1 => (I.2.2.1.2.2.1 j j0 j1).1
  refine ⟨IN0_cg f (rW_same (fun i => g _ _ (by omega) (by omega) (by omega) (by omega) (by omega)) (fun i => g _ _ (by omega) (by omega) (by omega) (by omega) (by omega))) hl.1 hl.2 I, ⟨er _ _ (by omega), RLc_cg2 (g _ _ (by omega) (by omega) (by omega) (by omega) (by omega)) (fun j _ _ => er _ _ (by omega)) (fun j j0 j1 a i p q _ => by
    have := ru_r (hA j j0 j1)
    exact g a i (by omega) (by omega) (by omega) (by omega) (by omega)), fun a i q => g a i (by omega) (by omega) (by omega) (by omega) (by omega), fun i _ => g _ _ (by omega) (by omega) (by omega) (by omega) (by omega), fun i hi => g _ _ (by omega) (by omega) (by omega) (by omega) (by omega)⟩⟩
theorem plc_in {P : Nat} {r c : Int} (hz : 0 ≤ rsz h P r) : plc h P r c = -1 ↔ ¬ inW (cW h P) r c := by
  unfold plc
  rcases fz_spec (fun x => rws h P r x = c) (rsz h P r).toNat 0 with ⟨a1, a2⟩ | ⟨a1, a2, a3, a4⟩
  · exact ⟨fun _ ⟨x, x0, x1, x2⟩ => a2 x x0 (by have e : (cW h P).1 r = rsz h P r := rfl; omega) x2, fun _ => a1⟩
  · constructor
    · intro q; omega
    · exact fun q => absurd ⟨_, a1, by have e : (cW h P).1 r = rsz h P r := rfl; omega, a3⟩ q
/-- anew the same rows follow -/
theorem anew {d : Nat} (hd : 10 ≤ d) (I : IN0 π h) : ∃ h', dF d 58 [dR 1 1 143, dR 1 7 (gr h 1 9), dI (gi h 1 12), dI (-1), dI (-1)] h = rI 1 h' ∧ frS (gr h 1 9) h h' ∧ (∀ r, 0 ≤ r → r < 6 → (0 ≤ rsz h' (gr h 1 9) r ∧ rsz h' (gr h 1 9) r ≤ 32) ∧ ∀ c, inW (cW h' (gr h 1 9)) r c ↔ inW (cW h (gr h 1 8)) r c) := by
  obtain ⟨IR, ID, B, J0, NM, G, HH, L, F, W⟩ := I
  have K := IR.1
  have D := DC_of K
  have hU := RU_of K.1.2 G L.1.1
  have hUr : ∀ u, RLc h u → 0 ≤ u.2.1 ∧ u.2.1 < 6 := fun u hu => (hU u hu).2.1
  have hl : ∀ r, 0 ≤ r → r < 6 → 0 ≤ gi h 7 r ∧ gi h 7 r < 12 := fun r r0 r1 => ⟨L.1.1.1 r r0 r1, by have := L.2.1 r r0 r1; have := L.2.2; omega⟩
  obtain ⟨b, h', x1, x2, x3⟩ := cls_found (d := d) hd W.1.2.1 K (BKS_c B) G L F.1 (gi h 1 12) (-1) (-1)
  rcases x3 with ⟨q, g⟩ | ⟨q, m⟩
  · rw [q] at x1
    have g12 := gds_up (m := 12) (fun r r0 r1 => by have := L.2.1 r r0 r1; omega) hUr g
    refine ⟨h', x1, x2, fun r r0 r1 => ⟨(g.1 r r0 r1).1, fun c => ?_⟩⟩
    exact gds_eq D (Dm := fun _ => True) (fun _ _ _ _ _ _ _ => trivial) (fun _ _ _ _ _ => Iff.rfl) (fun r r0 r1 => (hl r r0 r1).1) g12 W.2.2.2.2.2.2 r r0 r1 trivial (hl r r0 r1).2 c
  · exact (muc_no D hl m W.2.2.2.2.2.2 hUr).elim
theorem op_anew {d : Nat} (hd : 13 ≤ d) (I : IN0 π h) (r a b c : Int) : ∃ k h1 v h2, dF d 136 [dR 1 10 1, dI r, dI a, dI b, dI c, dR 4 1 196] h = rI k h1 ∧ dF d 247 [dR 1 11 165, dI r, dI a, dI b, dI c] h1 = rI v h2 ∧ (v = 0 ∨ v = 1) ∧ gi h2 165 0 = k ∧ (k = 0 → gl h2 0 = v) ∧ IN0 π h2 ∧ frZ h h2 ∧ rm h h2 := by
  have n6 := I.1.1.1
  obtain ⟨a1, a2, a3⟩ := thr_all I 1
  obtain ⟨b1, b2, b3⟩ := thr_all I 2
  obtain ⟨r1, r2, r3⟩ := s245 (d := d - 1 - 1) (H := sg h 6) (by omega) I (fun _ _ _ => rfl) r a b c
  have wr : ∀ (x : dm_O), dF (d - 1) 137 [dR 1 10 1, dI r, dI a, dI b, dI c] h = x → (∀ v h', (v = 0 ∨ v = 1) → x = rI v h' → dF d 136 [dR 1 10 1, dI r, dI a, dI b, dI c, dR 4 1 196] h = rI 0 (sl h' 0 v)) ∧ (∀ h', x = rX 0 h' → dF d 136 [dR 1 10 1, dI r, dI a, dI b, dI c, dR 4 1 196] h = rI 1 h') ∧ ∀ h', x = rX 1 h' → dF d 136 [dR 1 10 1, dI r, dI a, dI b, dI c, dR 4 1 196] h = rI 2 h' := by
    intro x e
    rw [f136 (by omega), b136_0, e]
    refine ⟨fun v h' v01 ex => ?_, fun h' ex => ?_, fun h' ex => ?_⟩
    · rw [ex, bk_v, b136_12]
      rcases v01 with rfl | rfl
      · rw [if_pos rfl, b136_20, ix_p (by omega) (by omega)]
      · rw [if_neg (by decide), b136_20, ix_p (by omega) (by omega)]
    · rw [ex, bk_c (g := 24) (j := 6) (n := 2) (L' := [lR 1 10 1, lI r, lI a, lI b, lI c, lR 4 1 196, none]) rfl (fun f => rfl)]
      exact b136_26 _ _ _ _ _ _ _ _ _
    · rw [ex, bk_c (g := 28) (j := 6) (n := 2) (L' := [lR 1 10 1, lI r, lI a, lI b, lI c, lR 4 1 196, none]) rfl (fun f => rfl)]
      exact b136_30 _ _ _ _ _ _ _ _ _
  obtain ⟨w1, w2, w3⟩ := wr _ rfl
  rcases s72 (h := h) (d := d - 1 - 1) (by omega) r a b c n6 with ⟨y, e⟩ | ⟨y, y2, e⟩ | ⟨y, y2, e⟩
  · have c0 : dF (d - 1) 137 [dR 1 10 1, dI r, dI a, dI b, dI c] h = rX 0 (sg h 6) := by rw [f137 (by omega), b137_0, e, bk_x rfl]
    refine ⟨1, _, 0, _, w2 _ c0, ?_, Or.inl rfl, thr0, fun q => by omega, a1, a2, a3⟩
    rw [f247 (by omega), b247_0, f244 (by omega), b244_0, r1 y, bk_v, b244_9, if_pos rfl, b244_18, z1_p (Or.inl rfl), bk_v, b247_9, z1_p (Or.inl rfl)]
  · have c0 : dF (d - 1) 137 [dR 1 10 1, dI r, dI a, dI b, dI c] h = rX 1 (sg h 6) := by rw [f137 (by omega), b137_0, e, bk_x rfl]
    refine ⟨2, _, 0, _, w3 _ c0, ?_, Or.inl rfl, thr0, fun q => by omega, b1, b2, b3⟩
    rw [f247 (by omega), b247_0, f244 (by omega), b244_0, r2 y y2, bk_v, b244_9, if_pos rfl, b244_18, z1_p (Or.inl rfl), bk_v, b247_9, z1_p (Or.inl rfl)]
  · have hPz := (rows_z I r y.1 (by omega)).1
    have hPe := (rows_z I r y.1 (by omega)).2.1
    obtain ⟨h', x1, x2, x3⟩ := anew (d := d - 1 - 1) (by omega) I
    obtain ⟨xz, xi⟩ := x3 r y.1 (by omega)
    have ep : (plc h' (gr h 1 9) r (a * 10000 + b * 100 + c) = -1) ↔ (plc h (gr h 1 8) r (a * 10000 + b * 100 + c) = -1) := by
      rw [plc_in xz.1, plc_in (by omega), xi]
    have er19 : gr h' 1 9 = gr h 1 9 := x2.2.1 _ _ (by omega) (by omega) (by omega)
    have c0 : dF (d - 1) 137 [dR 1 10 1, dI r, dI a, dI b, dI c] h = rI (if plc h (gr h 1 8) r (a * 10000 + b * 100 + c) = -1 then 0 else 1) h' := by
      rw [f137 (by omega), b137_0, e, bk_v, b137_9, x1, bk_v, b137_28, if_neg (by decide), er19, s28 (by omega) (by omega) xz, bk_v, b137_41]
      by_cases q : plc h (gr h 1 8) r (a * 10000 + b * 100 + c) = -1
      · rw [if_pos (ep.mpr q), if_pos q, b137_49, b137_50, z1_p (Or.inl rfl)]
      · rw [if_neg (fun z => q (ep.mp z)), if_neg q, b137_50, z1_p (Or.inr rfl)]
    have hv : (if plc h (gr h 1 8) r (a * 10000 + b * 100 + c) = -1 then (0 : Int) else 1) = 0 ∨ (if plc h (gr h 1 8) r (a * 10000 + b * 100 + c) = -1 then (0 : Int) else 1) = 1 := by
      split
      · exact Or.inl rfl
      · exact Or.inr rfl
    have gS : ∀ a i, ¬ (gr h 1 9 + 1 ≤ a ∧ a ≤ gr h 1 9 + 16) → ¬ (a = gr h 1 9 ∧ i = 5) → ¬ (137 ≤ a ∧ a ≤ 143) → gi h' a i = gi h a i := x2.1
    have s0 := spare_all (h' := h') I (fun a i p q t _ _ => gS a i p q t) (fun a i q => x2.2.1 a i (by omega) (by omega) (by omega))
    have pe : plc h' (gr h' 1 8) r (a * 10000 + b * 100 + c) = plc h (gr h 1 8) r (a * 10000 + b * 100 + c) := by
      have := plc_eq (π := π) s0.1 (H := h') (fun _ => rfl) (fun _ => rfl) (r := r) (c := a * 10000 + b * 100 + c) (by omega)
      rw [← this]
      exact plc_eq I (fun i => gS _ _ (by have := I.2.2.2.2.2.2.2.2.2.1.2.1; unfold rw_ at this; omega) (by have := I.2.2.2.2.2.2.2.2.2.1.2.1; unfold rw_ at this; omega) (by omega)) (fun i => gS _ _ (by have := I.2.2.2.2.2.2.2.2.2.1.2.1; unfold rw_ at this; omega) (by have := I.2.2.2.2.2.2.2.2.2.1.2.1; unfold rw_ at this; omega) (by omega)) (by omega)
    have e20 : gi h' 2 0 = gi h 2 0 := gS _ _ (by have := I.2.2.2.2.2.2.2.2.2.1.2.1; unfold rw_ at this; omega) (by have := I.2.2.2.2.2.2.2.2.2.1.2.1; unfold rw_ at this; omega) (by omega)
    have e3 : gi h' 3 r = gi h 3 r := gS _ _ (by have := I.2.2.2.2.2.2.2.2.2.1.2.1; unfold rw_ at this; omega) (by have := I.2.2.2.2.2.2.2.2.2.1.2.1; unfold rw_ at this; omega) (by omega)
    generalize eV : (if plc h (gr h 1 8) r (a * 10000 + b * 100 + c) = -1 then (0 : Int) else 1) = V at c0 hv
    have s := spare_all (h' := si (sl h' 0 V) 165 0 0) I (fun a i p q t u _ => by rw [gi_t a i (by omega), gS a i p q t]) (fun a i q => x2.2.1 a i (by omega) (by omega) (by omega))
    obtain ⟨-, -, q3⟩ := s245 (d := d - 1 - 1) (h := h') (H := sl h' 0 V) (by omega) s0.1 (fun _ _ _ => rfl) r a b c
    rw [pe, e20, e3] at q3
    have e22 : h'.2.2 = h.2.2 := x2.2.2
    refine ⟨0, _, V, _, w1 V _ hv c0, ?_, hv, thr0, fun _ => by rw [gl_si, gl_sl, if_pos rfl], s.1, s.2, ⟨?_, ?_, ?_, ct_e ((gi_sin (by decide)).trans (gS _ _ (by have := I.2.2.2.2.2.2.2.2.2.1.2.1; unfold rw_ at this; omega) (by have := I.2.2.2.2.2.2.2.2.2.1.2.1; unfold rw_ at this; omega) (by omega))) ((gi_sin (by decide)).trans (gS _ _ (by have := I.2.2.2.2.2.2.2.2.2.1.2.1; unfold rw_ at this; omega) (by have := I.2.2.2.2.2.2.2.2.2.1.2.1; unfold rw_ at this; omega) (by omega)))⟩⟩
    · rw [f247 (by omega), b247_0, f244 (by omega), b244_0, q3 y y2, bk_v, b244_9, ← eV]
      split
      · rw [b244_18, z1_p (Or.inl rfl), bk_v, b247_9, z1_p (Or.inl rfl)]
      · rw [b244_18, z1_p (Or.inr rfl), bk_v, b247_9, z1_p (Or.inr rfl)]
    · show h'.2.2.2.1 = _; rw [e22]; rfl
    · show h'.2.2.2.2.1 ≤ _; rw [e22]; exact Nat.le_succ _
    · show h'.2.2.2.2.2 ≤ _; rw [e22]; exact Nat.le_add_right _ _
end ANW
