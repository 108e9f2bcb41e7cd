/-! CALLS THAT READ: count, rowAt, layer, holds -/
section RD2
variable {h : dm_H} {π : Int → Int}
theorem has_ref (I : IN0 π h) {H : dm_H} (e : gi H 165 1 = gi h 165 1) : gi H 165 1 = gi h 2 0 ∧ (0 ≤ gi h 2 0 ∧ gi h 2 0 ≤ 6) := ⟨by rw [e]; exact I.1.2.1, I.1.1.1⟩
theorem op_count {d : Nat} (hd : 5 ≤ d) (I : IN0 π h) (r : Int) : ∃ k h1 v h2, dF d 130 [dR 1 10 1, dI r, dR 4 1 196] h = rI k h1 ∧ dF d 242 [dR 1 11 165, dI r] h1 = rI v h2 ∧ gi h2 165 0 = k ∧ (k = 0 → gl h2 0 = v) ∧ IN0 π h2 ∧ frZ h h2 ∧ rm h h2 := by
  have n6 := I.1.1.1
  have nr := I.1.2.1
  have z := rows_z I
  by_cases y : 0 ≤ r ∧ r < gi h 2 0
  · have c : dF d 130 [dR 1 10 1, dI r, dR 4 1 196] h = rI 0 (sl h 0 (rsz h (gr h 1 8) r)) := by
      rw [f130 (by omega), b130_0, f131 (by omega), b131_0, s73 (by omega), if_pos y, bk_n, b131_5, ix_p (by omega) (by omega), bk_v, b130_7, ix_p (by omega) (by omega)]
      rfl
    have s := same_all (h' := si (sl h 0 (rsz h (gr h 1 8) r)) 165 0 0) I (fun a i p _ => gi_t a i p) (fun _ _ => rfl)
    refine ⟨0, _, gi h 178 r, _, c, ?_, thr0, fun _ => ?_, s.1, s.2, rm_0 _ 0⟩
    · rw [f242 (by omega), b242_0, s170 (by omega) r _ (by rw [gi_sl]; omega), bk_v, b242_6, bi_1 (by rw [gi_sl, nr]; exact y), if_neg (by decide), b242_14, thr0, if_neg (by decide), ix_p (by omega) (by omega), gi_t _ _ (by omega), b242_34]
    · rw [gl_si, gl_sl, if_pos rfl]; exact (z r (by omega) (by omega)).2.1.symm
  · have c : dF d 130 [dR 1 10 1, dI r, dR 4 1 196] h = rI 1 (sg h 6) := by
      rw [f130 (by omega), b130_0, f131 (by omega), b131_0, s73 (by omega), if_neg y, bk_x rfl, bk_c (g := 12) (j := 3) (n := 1) (L' := [lR 1 10 1, lI r, lR 4 1 196, none]) rfl (fun f => rfl)]
      exact b130_13 _ _ _ _ _ _
    obtain ⟨t1, t2, t3⟩ := thr_all I 1
    refine ⟨1, _, 0, _, c, ?_, thr0, fun q => by omega, t1, t2, t3⟩
    rw [f242 (by omega), b242_0, s170 (by omega) r _ (by rw [gi_sg]; omega), bk_v, b242_6, bi_0 (by rw [gi_sg, nr]; exact y), if_pos rfl, b242_14, thr0, if_pos (by decide), b242_34]
theorem op_rowAt {d : Nat} (hd : 5 ≤ d) (I : IN0 π h) (r x : Int) : ∃ k h1 v h2, dF d 132 [dR 1 10 1, dI r, dI x, dR 4 1 196] h = rI k h1 ∧ dF d 243 [dR 1 11 165, dI r, dI x] h1 = rI v h2 ∧ gi h2 165 0 = k ∧ (k = 0 → gl h2 0 = v) ∧ IN0 π h2 ∧ frZ h h2 ∧ rm h h2 := by
  have n6 := I.1.1.1
  have nr := I.1.2.1
  have z := rows_z I
  obtain ⟨t1, t2, t3⟩ := thr_all I 1
  have bad : dF (d - 1) 133 [dR 1 10 1, dI r, dI x] h = rX 0 (sg h 6) → dF d 132 [dR 1 10 1, dI r, dI x, dR 4 1 196] h = rI 1 (sg h 6) := by
    intro e
    rw [f132 (by omega), b132_0, e, bk_c (g := 13) (j := 4) (n := 2) (L' := [lR 1 10 1, lI r, lI x, lR 4 1 196, none]) rfl (fun f => rfl)]
    exact b132_15 _ _ _ _ _ _ _
  by_cases y : 0 ≤ r ∧ r < gi h 2 0
  case neg =>
    have e : dF (d - 1) 133 [dR 1 10 1, dI r, dI x] h = rX 0 (sg h 6) := by rw [f133 (by omega), b133_0, s73 (by omega), if_neg y, bk_x rfl]
    refine ⟨1, _, 0, _, bad e, ?_, thr0, fun q => by omega, t1, t2, t3⟩
    rw [f243 (by omega), b243_0, s170 (by omega) r _ (by rw [gi_sg]; omega), bk_v, b243_6, bi_0 (by rw [gi_sg, nr]; exact y), if_pos rfl, b243_29, b243_30, thr0, if_pos (by decide), b243_55]
  obtain ⟨z1, z2, z3⟩ := z r (by omega) (by omega)
  have st : ∀ (H : dm_H), (∀ a i, gi H a i = gi h a i) → dF d 243 [dR 1 11 165, dI r, dI x] H = dL (d - 1) 243 30 [lR 1 11 165, lI r, lI x] [dI (bi (¬ (0 ≤ x ∧ x < gi h 178 r))), dR 1 11 165] H := by
    intro H e
    rw [f243 (by omega), b243_0, s170 (by omega) r _ (by rw [e]; omega), bk_v, b243_6, bi_1 (by rw [e, nr]; exact y), if_neg (by decide), ix_p (by omega) (by omega), e, ck_p (by omega) (by omega), s168 (by omega), bk_v, b243_22]
    by_cases w : 0 ≤ x ∧ x ≤ gi h 178 r - 1
    · rw [bi_1 w, if_neg (by decide), bi_0 (by omega)]
    · rw [bi_0 w, if_pos rfl, b243_29, bi_1 (by omega)]
  by_cases w : 0 ≤ x ∧ x < gi h 178 r
  case neg =>
    have e : dF (d - 1) 133 [dR 1 10 1, dI r, dI x] h = rX 0 (sg h 6) := by
      rw [f133 (by omega), b133_0, s73 (by omega), if_pos y, bk_n, b133_5]
      by_cases v : x < 0
      · rw [if_pos v, b133_22]
      · rw [if_neg v, ix_p (by omega) (by omega), if_neg (by show ¬ x < rsz h (gr h 1 8) r; omega), b133_22]
    refine ⟨1, _, 0, _, bad e, ?_, thr0, fun q => by omega, t1, t2, t3⟩
    rw [st (sg h 6) (fun _ _ => rfl), bi_1 w, b243_30, thr0, if_pos (by decide), b243_55]
  have c : dF d 132 [dR 1 10 1, dI r, dI x, dR 4 1 196] h = rI 0 (sl h 0 (rws h (gr h 1 8) r x)) := by
    rw [f132 (by omega), b132_0, f133 (by omega), b133_0, s73 (by omega), if_pos y, bk_n, b133_5, if_neg (by omega), ix_p (by omega) (by omega), if_pos (by show x < rsz h (gr h 1 8) r; omega), ix_p (by omega) (by omega), ix_p (by omega) (by omega), bk_v, b132_8, ix_p (by omega) (by omega)]
    rfl
  have s := same_all (h' := si (sl h 0 (rws h (gr h 1 8) r x)) 165 0 0) I (fun a i p _ => gi_t a i p) (fun _ _ => rfl)
  refine ⟨0, _, gi h 177 (40 * r + x), _, c, ?_, thr0, fun _ => ?_, s.1, s.2, rm_0 _ 0⟩
  · rw [st (sl h 0 (rws h (gr h 1 8) r x)) (fun _ _ => rfl), bi_0 (fun q => q w), b243_30, thr0, if_neg (by decide), ck_p (by omega) (by omega), ck_p (by omega) (by omega), ix_p (by omega) (by omega), gi_t _ _ (by omega), b243_55]
  · rw [gl_si, gl_sl, if_pos rfl]; exact (z3 x w.1 w.2).symm
theorem op_layer {d : Nat} (hd : 6 ≤ d) (I : IN0 π h) (r : Int) : ∃ k h1 v h2, dF d 128 [dR 1 10 1, dI r, dR 4 1 196] h = rI k h1 ∧ dF d 241 [dR 1 11 165, dI r] h1 = rI v h2 ∧ gi h2 165 0 = k ∧ (k = 0 → gl h2 0 = v) ∧ IN0 π h2 ∧ frZ h h2 ∧ rm h h2 := by
  have I' := I
  obtain ⟨IR, ID, B, J0, NM, G, HH, L, F, W⟩ := I
  have n6 := IR.1.1
  have nr := IR.2.1
  by_cases y : 0 ≤ r ∧ r < gi h 2 0
  · have c : dF d 128 [dR 1 10 1, dI r, dR 4 1 196] h = rI 0 (sl h 0 (gi h 7 r)) := by
      rw [f128 (by omega), b128_0, f129 (by omega), b129_0, s73 (by omega), if_pos y, bk_n, b129_5, ix_p (by omega) (by omega), bk_v, b128_7, ix_p (by omega) (by omega)]
    obtain ⟨H, eH⟩ : ∃ H, H = si (sl h 0 (gi h 7 r)) 165 0 0 := ⟨_, rfl⟩
    have gH : ∀ a i, ¬ (a = 165 ∧ i = 0) → gi H a i = gi h a i := fun a i p => by rw [eH]; exact gi_t a i p
    have HB := HBr_cg (h := h) (h' := H) (fun i => gH _ _ (by omega)) (fun i => gH _ _ (by omega)) (fun i => gH _ _ (by omega)) (fun i => gH _ _ (by omega)) (BKS_HBr IR B)
    have hS : ∀ u, RLc h u → HSu u := fun u hu => (G u hu).1.2.2.1.1
    obtain ⟨h1, x1, x2, x3, x4, x5, x6⟩ := s178 (d := d - 1) (h := H) (by omega) HB hS
    have HB1 := HBr_cg (h := H) (h' := h1) (fun i => x2 _ _ (by omega)) (fun i => x2 _ _ (by omega)) (fun i => x2 _ _ (by omega)) (fun i => x2 _ _ (by omega)) HB
    have oc1 : ocH h1 175 = ocL (RLc h) := ocH_L x6
    obtain ⟨h2, y1, y2, y3, y4, y5⟩ := s182 (d := d - 1) (h := h1) (by omega) HB1 hS (fun q => by rw [x2 _ _ (by omega), gH _ _ (by omega)]; exact (IR.2.2.1 q).2) x5 (f := gi h 7) (by rw [oc1]; exact L.1) (fun q q0 q1 => by have := L.2.1 q q0 q1; have := L.2.2; omega)
    have g2 : ∀ a i, ¬ (a = 165 ∧ i = 0) → ¬ (175 ≤ a ∧ a ≤ 176) → gi h2 a i = gi h a i := fun a i p q => by rw [y2 a i (by omega), x2 a i (by omega), gH a i p]
    have s := same_all (h' := h2) I' g2 (fun a i => by rw [y3, x3, eH]; rfl)
    have e22 : h2.2.2 = (sl h 0 (gi h 7 r)).2.2 := by rw [y4, x4, eH]; rfl
    refine ⟨0, _, gi h 7 r, h2, c, ?_, ?_, fun _ => ?_, s.1, s.2, ⟨?_, ?_, ?_, ct_e (g2 _ _ (by omega) (by omega)) (g2 _ _ (by omega) (by omega))⟩⟩
    · rw [f241 (by omega), b241_0, s170 (by omega) r _ (by rw [gi_sl]; omega), bk_v, b241_6, bi_1 (by rw [gi_sl, nr]; exact y), if_neg (by decide), b241_14, thr0, if_neg (by decide), ← eH, x1, bk_n, b241_30, y1, bk_n, b241_34, ix_p (by omega) (by omega), y5 r (by omega) (by omega)]
    · rw [y2 _ _ (by omega), x2 _ _ (by omega), eH, thr0]
    · show h2.2.2.1 0 = _
      rw [e22]
      show gl (sl h 0 (gi h 7 r)) 0 = _
      rw [gl_sl, if_pos rfl]
    · unfold gz; rw [e22]; rfl
    · unfold gc; rw [e22]; exact Nat.le_succ _
    · unfold gs; rw [e22]; exact Nat.le_add_right _ _
  · have c : dF d 128 [dR 1 10 1, dI r, dR 4 1 196] h = rI 1 (sg h 6) := by
      rw [f128 (by omega), b128_0, f129 (by omega), b129_0, s73 (by omega), if_neg y, bk_x rfl, bk_c (g := 12) (j := 3) (n := 1) (L' := [lR 1 10 1, lI r, lR 4 1 196, none]) rfl (fun f => rfl)]
      exact b128_13 _ _ _ _ _ _
    obtain ⟨t1, t2, t3⟩ := thr_all I' 1
    refine ⟨1, _, 0, _, c, ?_, thr0, fun q => by omega, t1, t2, t3⟩
    rw [f241 (by omega), b241_0, s170 (by omega) r _ (by rw [gi_sg]; omega), bk_v, b241_6, bi_0 (by rw [gi_sg, nr]; exact y), if_pos rfl, b241_14, thr0, if_pos (by decide)]
end RD2
