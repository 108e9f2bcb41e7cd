/-! THE CALL goals -/
section OGO
variable {h H : dm_H} {π : Int → Int}
def cls4 (π : Int → Int) (h H : dm_H) (x p : Int) : Prop := (∀ y, 0 ≤ y → y < x → ∀ b, nxt h (rgl H y) b → fndr H b) ∧ ∀ i, 0 ≤ i → i < gi h 13 1 → π i < p → ∀ b, nxj h i (rgl H x) b → fndr H b
theorem s250i {d : Nat} (hd : 9 ≤ d) (I : IN0 π h) {R : Int → Prop} (hR : ∀ g, R g → okG g) (hN : ∀ a b, R a → nxt h a b → R b) {x : Int} (w1 w2 w3 w4 : Option dm_V) : ∀ (m : Nat) (p : Int) (H : dm_H), 0 ≤ p → p + m = 10 → celR h H → RGs R H → (0 ≤ x ∧ x < gi H 165 43) → (fulR H ∨ cls4 π h H x p) → ∃ H' w6, dL (d - 1) 250 71 [lR 1 11 165, w1, w2, w3, w4, lI x, lI p] [] H = dL (d - 1) 250 59 [lR 1 11 165, w1, w2, w3, w4, lI (x + 1), w6] [] H' ∧ fgR H H' ∧ RGs R H' ∧ rmo H H' ∧ (fulR H' ∨ cls4 π h H' (x + 1) 0) := by
  have B := I.2.2.1
  have J0 := I.2.2.2.1
  have pr : ∀ j, 0 ≤ j → j < gi h 13 1 → 0 ≤ π j ∧ π j < 10 := by
    intro j j0 j1
    have R := B.2.2.1 j j0 j1
    have q1 := R.2.2.2.2.2.1.1
    have q2 := R.2.2.2.2.1
    by_cases z : π j = 10
    · rw [z] at q2; exact absurd J0 q2
    · omega
  intro m
  induction m with
  | zero =>
    intro p H p0 pm c GI hx cl
    have hz := GI.1
    refine ⟨H, lI p, ?_, fgR_refl H, GI, rmo_refl H, cl.imp id (fun c => ⟨fun y y0 y1 b n => ?_, fun i i0 i1 q => by have := pr i i0 i1; omega⟩)⟩
    · rw [b250_71, if_neg (by omega), ck_p (by omega) (by omega)]
    · by_cases z : y = x
      · rw [z] at n
        obtain ⟨i, hi, q⟩ := n
        exact c.2 i hi.1 hi.2 (by have := pr i hi.1 hi.2; omega) b q
      · exact c.1 y y0 (by omega) b n
  | succ m ih =>
    intro p H p0 pm c GI hx cl
    have hz := GI.1
    have on : ∀ (H2 : dm_H), fgR H H2 → RGs R H2 → rmo H H2 → (fulR H2 ∨ ∀ i, 0 ≤ i → i < gi h 13 1 → π i = p → ∀ b, nxj h i (rgl H x) b → fndr H2 b) → ∃ H' w6, dL (d - 1) 250 124 [lR 1 11 165, w1, w2, w3, w4, lI x, lI p] [] H2 = dL (d - 1) 250 59 [lR 1 11 165, w1, w2, w3, w4, lI (x + 1), w6] [] H' ∧ fgR H H' ∧ RGs R H' ∧ rmo H H' ∧ (fulR H' ∨ cls4 π h H' (x + 1) 0) := by
      intro H2 f2 S2 m2 c2
      obtain ⟨H', w6, y1, y2, y3, y4, y5⟩ := ih (p + 1) H2 (by omega) (by omega) (celR_f c f2) S2 ⟨hx.1, by have := m2.1; omega⟩ (by
        by_cases y : fulR H2
        · exact Or.inl y
        have c2 := c2.resolve_left y
        rcases cl with z | z
        · exact absurd (fulR_rmo m2 S2 z) y
        refine Or.inr ⟨fun u u0 u1 b n => ?_, fun i i0 i1 ip b n => ?_⟩
        · rw [m2.2 u u0 (by omega)] at n
          exact fndr_rmo m2 (z.1 u u0 u1 b n)
        · rw [m2.2 x hx.1 hx.2] at n
          by_cases e : π i = p
          · exact c2 i i0 i1 e b n
          · exact fndr_rmo m2 (z.2 i i0 i1 (by omega) b n))
      exact ⟨H', w6, by rw [b250_124, ck_p (by omega) (by omega), y1], fgR_trans f2 y2, y3, rmo_trans m2 y4, y5⟩
    rw [b250_71, if_pos (by omega), ix_p p0 (by omega), c 174 p (by omega) (by omega)]
    by_cases z : gi h 174 p = 0
    · rw [if_pos z]
      refine on H (fgR_refl H) GI (rmo_refl H) (Or.inr (fun i i0 i1 ip => ?_))
      have := (B.2.2.1 i i0 i1).2.2.2.2.1
      rw [ip] at this
      exact absurd z this
    rw [if_neg z]
    obtain ⟨j, j0, j1, jp⟩ := B.2.2.2.2.1 p p0 (by omega) z
    have RR := B.2.2.1 j j0 j1
    have S := RR.2.2.2.2.2.1
    have uniq : ∀ i, 0 ≤ i → i < gi h 13 1 → π i = p → i = j := by
      intro i i0 i1 ip
      rcases Int.lt_trichotomy i j with w | w | w
      · exact absurd (ip.trans jp.symm) (B.2.2.2.1 i j i0 w j1)
      · exact w
      · exact absurd (jp.trans ip.symm) (B.2.2.2.1 j i j0 w i1)
    rw [jp] at S
    have s1 := S.1
    have e172 : ∀ i, gi H 172 i = gi h 172 i := fun i => c _ _ (by omega) (by omega)
    have ox := (GI.2.1 x hx.1 hx.2).1
    have eg : grl (rgl H x) = gi H 192 x := by
      unfold rgl
      exact (gcode_r ox.1 ox.2.1 ox.2.2.1 ox.2.2.2).2.1
    rw [s179 (by omega) p 0 H s1 (by omega), bk_v, Int.add_zero, e172, S.2.1, b250_95]
    by_cases k3 : gi h (gr h 14 j) 1 = 3
    · rw [if_pos k3]
      exact on H (fgR_refl H) GI (rmo_refl H) (Or.inr (fun i i0 i1 ip b n => by
        rw [uniq i i0 i1 ip] at n
        exact absurd k3 n.1))
    rw [if_neg k3, s179 (by omega) p 1 H s1 (by omega), bk_v, e172, S.2.2.1, b250_106, ix_p hx.1 (by omega)]
    by_cases kr : gi h (gr h 14 j) 2 = gi H 192 x
    case neg =>
      rw [if_neg kr]
      exact on H (fgR_refl H) GI (rmo_refl H) (Or.inr (fun i i0 i1 ip b n => by
        rw [uniq i i0 i1 ip] at n
        exact absurd (n.2.1.trans eg) kr))
    rw [if_pos kr]
    obtain ⟨H2, y1, y2, y3, y4, y5⟩ := s252 (d := d - 1) (by omega) I hR hN c GI hx (j := j) ⟨j0, j1⟩ k3 (kr.trans eg.symm)
    rw [jp] at y1
    rw [y1, bk_n]
    exact on H2 y2 y3 y4 (y5.imp id (fun q i i0 i1 ip => by rw [uniq i i0 i1 ip]; exact q))
theorem s250o {d : Nat} (hd : 9 ≤ d) (I : IN0 π h) {R : Int → Prop} (hR : ∀ g, R g → okG g) (hN : ∀ a b, R a → nxt h a b → R b) (w1 w2 w3 w4 : Option dm_V) : ∀ (m : Nat) (x : Int) (H : dm_H) (w6 : Option dm_V), 0 ≤ x → x + m = 501 → x ≤ gi H 165 43 → celR h H → RGs R H → (fulR H ∨ cls4 π h H x 0) → ∃ H', dL (d - 1) 250 59 [lR 1 11 165, w1, w2, w3, w4, lI x, w6] [] H = rI (gi H' 165 43) H' ∧ fgR H H' ∧ RGs R H' ∧ rmo H H' ∧ (fulR H' ∨ ∀ a, fndr H' a → ∀ b, nxt h a b → fndr H' b) := by
  intro m
  induction m with
  | zero =>
    intro x H w6 x0 xm xz c GI cl
    have := GI.1
    omega
  | succ m ih =>
    intro x H w6 x0 xm xz c GI cl
    rw [b250_59]
    by_cases z : x < gi H 165 43
    · rw [if_pos z]
      obtain ⟨H1, w6', x1, x2, x3, x4, x5⟩ := s250i (d := d) hd I hR hN (x := x) w1 w2 w3 w4 10 0 H (by omega) (by omega) c GI ⟨x0, z⟩ cl
      obtain ⟨H2, y1, y2, y3, y4, y5⟩ := ih (x + 1) H1 w6' (by omega) (by omega) (by have := x4.1; omega) (celR_f c x2) x3 x5
      exact ⟨H2, by rw [x1, y1], fgR_trans x2 y2, y3, rmo_trans x4 y4, y5⟩
    · rw [if_neg z]
      refine ⟨H, rfl, fgR_refl H, GI, rmo_refl H, cl.imp id (fun c => ?_)⟩
      rintro a ⟨y, hy, rfl⟩ b n
      exact c.1 y hy.1 (by omega) b n
theorem low_all2 (I : IN0 π h) (lo : ∀ a i, a < 137 ∨ (166 ≤ a ∧ a ≤ 174) ∨ (177 ≤ a ∧ a ≤ 178) ∨ (181 ≤ a ∧ a ≤ 182) ∨ (a = 165 ∧ (i = 1 ∨ i = 4 ∨ i = 5 ∨ i = 10 ∨ i = 11 ∨ i = 15 ∨ i = 16)) → ¬ (a = 1 ∧ 15 ≤ i) → gi H a i = gi h a i) (lr : ∀ a i, a < 137 → gr H a i = gr h a i) : IN0 π H ∧ RLc H = RLc h := by
  have hW := I.2.2.2.2.2.2.2.2.2.1
  have hP : gr h 1 8 = 95 ∨ gr h 1 8 = 112 := hW.1
  have fr : fr0 h H := ⟨fun a i c => lo a i (by unfold crd at c; omega) (by unfold crd at c; omega), ⟨lr _ _ (by omega), lr _ _ (by omega), lr _ _ (by omega)⟩, fun j => lr _ _ (by omega)⟩
  have hl := CHL_cg fr (fun i => lo _ _ (by omega) (by omega)) (fun i => lo _ _ (by omega) (by omega)) (lo _ _ (by omega) (by omega)) I
  have hA : ∀ j, 0 ≤ j → j < gi h 13 1 → ru (gr h 14 j) := fun j j0 j1 => (I.2.2.1.2.2.1 j j0 j1).1
  exact ⟨IN0_cg fr (rW_same (fun i => lo _ _ (by omega) (by omega)) (fun i => lo _ _ (by omega) (by omega))) hl.1 hl.2 I, RLc_cg2 (lo _ _ (by omega) (by omega)) (fun j _ _ => lr _ _ (by omega)) (fun j j0 j1 a i p q _ => by
    have := ru_r (hA j j0 j1)
    exact lo a i (by omega) (by omega))⟩
theorem op_goals {d : Nat} (hd : 13 ≤ d) (I : IN0 π h) (S : still h (gr h 1 8)) (r a b c : Int) : ∃ k h1 v h2, dF d 142 [dR 1 10 1, dI r, dI a, dI b, dI c, dR 4 1 196] h = rI k h1 ∧ dF d 250 [dR 1 11 165, dI r, dI a, dI b, dI c] h1 = rI v h2 ∧ gi h2 165 0 = k ∧ (k = 0 → gl h2 0 = v) ∧ IN0 π h2 ∧ frCo h h2 ∧ frRp h h2 ∧ rm h h2 := by
  have n6 := I.1.1.1
  have nr := I.1.2.1
  obtain ⟨a1, a2, a3⟩ := thr_all I 1
  obtain ⟨b1, b2, b3⟩ := thr_all I 2
  have hP8 : gr h 1 8 = 95 ∨ gr h 1 8 = 112 := I.2.2.2.2.2.2.2.2.2.1.1
  have wr : ∀ (x : dm_O), dF (d - 1) 143 [dR 1 10 1, dI r, dI a, dI b, dI c] h = x → (∀ v h', x = rI v h' → dF d 142 [dR 1 10 1, dI r, dI a, dI b, dI c, dR 4 1 196] h = rI 0 (sl h' 0 v)) ∧ (∀ h', x = rX 0 h' → dF d 142 [dR 1 10 1, dI r, dI a, dI b, dI c, dR 4 1 196] h = rI 1 h') ∧ ∀ h', x = rX 1 h' → dF d 142 [dR 1 10 1, dI r, dI a, dI b, dI c, dR 4 1 196] h = rI 2 h' := by
    intro x e
    rw [f142 (by omega), b142_0, e]
    refine ⟨fun v h' ex => ?_, fun h' ex => ?_, fun h' ex => ?_⟩
    · rw [ex, bk_v, b142_12, ix_p (by omega) (by omega)]
    · rw [ex, bk_c (g := 17) (j := 6) (n := 2) (L' := [lR 1 10 1, lI r, lI a, lI b, lI c, lR 4 1 196, none]) rfl (fun f => rfl)]
      exact b142_19 _ _ _ _ _ _ _ _ _
    · rw [ex, bk_c (g := 21) (j := 6) (n := 2) (L' := [lR 1 10 1, lI r, lI a, lI b, lI c, lR 4 1 196, none]) rfl (fun f => rfl)]
      exact b142_23 _ _ _ _ _ _ _ _ _
  obtain ⟨w1, w2, w3⟩ := wr _ rfl
  -- the reference, up to what is thrown
  have st : ∀ (H : dm_H), (∀ a i, a < 137 ∨ (166 ≤ a ∧ a ≤ 178) ∨ (a = 165 ∧ i = 1) → gi H a i = gi h a i) → dF d 250 [dR 1 11 165, dI r, dI a, dI b, dI c] H = if 0 ≤ r ∧ r < gi h 2 0 then (if wit (gi h 3 r) (-1) 99 a b c then dL (d - 1) 250 30 [lR 1 11 165, lI r, lI a, lI b, lI c, none, none] [dI 0, dR 1 11 165] H else dL (d - 1) 250 30 [lR 1 11 165, lI r, lI a, lI b, lI c, none, none] [dI 2, dR 1 11 165] H) else dL (d - 1) 250 30 [lR 1 11 165, lI r, lI a, lI b, lI c, none, none] [dI 1, dR 1 11 165] H := by
    intro H e
    rw [f250 (by omega), b250_0, s170 (by omega) r H (by rw [e _ _ (by omega), nr]; exact n6), e 165 1 (by omega), nr, bk_v, b250_6]
    by_cases y : 0 ≤ r ∧ r < gi h 2 0
    · have hc := (cK_c I.1.1 y.1 y.2).2.1
      have e3 : gi H 166 r = gi h 3 r := by rw [e _ _ (by omega)]; exact (I.1.2.2.1 r).1
      rw [bi_1 y, if_neg (by decide), if_pos y, s249 (by omega) r a b c H (by omega) (by rw [e3]; exact hc), e3, bk_v, b250_22]
      by_cases w : wit (gi h 3 r) (-1) 99 a b c
      · rw [bi_1 w, if_neg (by decide), if_pos w]
      · rw [bi_0 w, if_pos rfl, if_neg w]
    · rw [bi_0 y, if_pos rfl, if_neg y]
  rcases s140 (h := h) (d := d - 1 - 1) (by omega) r a b c n6 with ⟨y, e⟩ | ⟨y, y2, e⟩ | ⟨y, y2, e⟩
  · have c0 : dF (d - 1) 143 [dR 1 10 1, dI r, dI a, dI b, dI c] h = rX 0 (sg h 6) := by rw [f143 (by omega), b143_0, e, bk_x rfl]
    refine ⟨1, _, 0, _, w2 _ c0, ?_, thr0, fun q => by omega, a1, frCo_2 (frZ_2 a2), frRp_2 (frZ_2 a2), a3⟩
    rw [st (sg h 6) (fun _ _ _ => rfl), if_neg y, b250_30, thr0, if_pos (by decide)]
  · have c0 : dF (d - 1) 143 [dR 1 10 1, dI r, dI a, dI b, dI c] h = rX 1 (sg h 6) := by rw [f143 (by omega), b143_0, e, bk_x rfl]
    refine ⟨2, _, 0, _, w3 _ c0, ?_, thr0, fun q => by omega, b1, frCo_2 (frZ_2 b2), frRp_2 (frZ_2 b2), b3⟩
    rw [st (sg h 6) (fun _ _ _ => rfl), if_pos y, if_neg y2, b250_30, thr0, if_pos (by decide)]
  have hb := wit_99 y2 (by omega) (by omega)
  have hr6 : 0 ≤ r ∧ r < 6 := by omega
  have og : okG (gcode r a b c) := ⟨r, a, b, c, hr6, hb.1, hb.2.1, hb.2.2, rfl⟩
  obtain ⟨h', x1, x2, x3, x4, x5⟩ := s144 (d := d - 1 - 1) (by omega) I S og
  have c0 : dF (d - 1) 143 [dR 1 10 1, dI r, dI a, dI b, dI c] h = rI (gi h' 161 4) h' := by
    rw [f143 (by omega), b143_0, e, bk_n, b143_9, s41 (by omega) hr6 hb.1 hb.2.1 hb.2.2, bk_v, b143_25, x1, bk_v, b143_28]
  obtain ⟨H0, eH0⟩ : ∃ H0, H0 = si (si (sl h' 0 (gi h' 161 4)) 165 0 0) 165 43 0 := ⟨_, rfl⟩
  have g0 : ∀ a i, ¬ (a = 165 ∧ (i = 0 ∨ i = 43)) → gi H0 a i = gi h' a i := fun a i q => by rw [eH0, gi_si, if_neg (by omega), gi_si, if_neg (by omega)]; rfl
  have c1 : celR h H0 := fun a i p q => by rw [g0 a i (by omega), x2.1 a i (by omega) (by omega) (by omega) (by omega)]
  have z0 : gi H0 165 43 = 0 := by rw [eH0, gi_sis]
  have S0 : RGs (fun g => rcG h (gcode r a b c) g ∧ okG g) H0 := ⟨by omega, fun x x0 x1 => by omega, fun x y x0 xy y1 => by omega⟩
  obtain ⟨H1, u1, u2, u3, u4, u5⟩ := s251 (d := d - 1) (by omega) S0 hr6 hb.1 hb.2.1 hb.2.2 ⟨rcG_0 _, og⟩
  have f1 : fgR H0 H1 := fgR_A u3
  obtain ⟨H2, t1, t2, t3, t4, t5⟩ := s250o (d := d) (by omega) I (R := fun g => rcG h (gcode r a b c) g ∧ okG g) (fun g q => q.2) (fun a b q n => ⟨rcG_s q.1 n, by
    obtain ⟨j, hj, n⟩ := n
    exact nxj_ok I hj.1 hj.2 q.2 n⟩) (lI r) (lI a) (lI b) (lI c) 501 0 H1 none (by omega) (by omega) (by have := u2.1; omega) (celR_f c1 f1) u2 (Or.inr ⟨fun y y0 y1 => by omega, fun i i0 i1 q => by
    have := (I.2.2.1.2.2.1 i i0 i1).2.2.2.2.2.1.1
    omega⟩)
  have f2 := fgR_trans f1 t2
  have fg : fndr H2 (gcode r a b c) := by
    rcases u5 with q | q
    · exact fndr_rmo t4 q
    · have q := q.2
      unfold fulR at q
      omega
  -- as many on both sides
  have le1 : gi H2 165 43 ≤ gi h' 161 4 := by
    rcases x5 with q | q
    · unfold fullG at q
      have := t3.1
      omega
    · exact goal_le (h := h) (g0 := gcode r a b c) (f := gi h' 162) (f' := rgl H2) x3.1.1.1 (fun x x0 x1 => (t3.2.1 x x0 x1).2.1) t3.2.2 x4 (fun x x0 x1 b n => q _ ⟨x, ⟨x0, x1⟩, rfl⟩ b n)
  have le2 : gi h' 161 4 ≤ gi H2 165 43 := by
    rcases t5 with q | q
    · unfold fulR at q
      have := x3.1.1
      omega
    · exact goal_le (h := h) (g0 := gcode r a b c) (f := rgl H2) (f' := gi h' 162) t3.1.1 (fun x x0 x1 => (x3.2 x x0 x1).1) x3.1.2.2.1 fg (fun x x0 x1 b n => q _ ⟨x, ⟨x0, x1⟩, rfl⟩ b n)
  have ev : gi H2 165 43 = gi h' 161 4 := by omega
  have lo : ∀ a i, ¬ (137 ≤ a ∧ a ≤ 139) → ¬ (a = 161 ∧ i = 4) → a ≠ 162 → a ≠ 163 → a ≠ 179 → a ≠ 180 → ¬ (185 ≤ a ∧ a ≤ 190) → ¬ (192 ≤ a ∧ a ≤ 195) → ¬ (a = 165 ∧ (i = 0 ∨ (27 ≤ i ∧ i ≤ 34) ∨ i = 43)) → gi H2 a i = gi h a i := fun a i p q r s t u v w x => by
    rw [f2.1 a i t u v w (by omega), g0 a i (by omega), x2.1 a i p q r s]
  have lr : ∀ a i, a ≠ 137 → ¬ (a = 161 ∧ i = 3) → gr H2 a i = gr h a i := fun a i p q => by
    rw [f2.2.1, eH0]
    exact x2.2.1 a i p q
  have s := low_all2 I (fun a i q _ => lo a i (by omega) (by omega) (by omega) (by omega) (by omega) (by omega) (by omega) (by omega) (by omega)) (fun a i q => lr a i (by omega) (by omega))
  have e222 : H2.2.2 = (sl h' 0 (gi h' 161 4)).2.2 := by rw [f2.2.2, eH0]; rfl
  refine ⟨0, _, gi h' 161 4, H2, w1 _ _ c0, ?_, ?_, fun _ => ?_, s.1, ⟨lr _ _ (by omega) (by omega), s.2, fun a i q => lo a i (by omega) (by omega) (by omega) (by omega) (by omega) (by omega) (by omega) (by omega) (by omega), ⟨lo _ _ (by omega) (by omega) (by omega) (by omega) (by omega) (by omega) (by omega) (by omega) (by omega), fun p p0 p1 => ?_⟩, lo _ _ (by omega) (by omega) (by omega) (by omega) (by omega) (by omega) (by omega) (by omega) (by omega)⟩, ⟨lr _ _ (by omega) (by omega), fun a i q => lo a i (by omega) (by omega) (by omega) (by omega) (by omega) (by omega) (by omega) (by omega) (by omega), lo _ _ (by omega) (by omega) (by omega) (by omega) (by omega) (by omega) (by omega) (by omega) (by omega), lo _ _ (by omega) (by omega) (by omega) (by omega) (by omega) (by omega) (by omega) (by omega) (by omega), fun i hi => lo _ _ (by omega) (by omega) (by omega) (by omega) (by omega) (by omega) (by omega) (by omega) (by omega)⟩, rm_3 ?_ (ct_e (lo _ _ (by omega) (by omega) (by omega) (by omega) (by omega) (by omega) (by omega) (by omega) (by omega) ) (lo _ _ (by omega) (by omega) (by omega) (by omega) (by omega) (by omega) (by omega) (by omega) (by omega) ))⟩
  · rw [st (sl h' 0 (gi h' 161 4)) (fun a i q => x2.1 a i (by omega) (by omega) (by omega) (by omega)), if_pos y, if_pos y2, b250_30, thr0, if_neg (by decide), ← eH0, u1, bk_n, b250_56, t1, ev]
  · rw [f2.1 _ _ (by omega) (by omega) (by omega) (by omega) (by omega), eH0, gi_sij (by decide), thr0]
  · show H2.2.2.1 0 = _
    rw [e222]
    show gl (sl h' 0 (gi h' 161 4)) 0 = _
    rw [gl_sl, if_pos rfl]
  · unfold fL
    have q : ∀ a i, 9 ≤ a → a ≤ 12 → gi H2 a i = gi h a i := fun a i _ _ => lo _ _ (by omega) (by omega) (by omega) (by omega) (by omega) (by omega) (by omega) (by omega) (by omega)
    rw [q 9 _ (by omega) (by omega), q (9 + 1) _ (by omega) (by omega), q (9 + 2) _ (by omega) (by omega), q (9 + 3) _ (by omega) (by omega)]
  · rw [e222]
    show h'.2.2.2 = _
    rw [x2.2.2]
end OGO
