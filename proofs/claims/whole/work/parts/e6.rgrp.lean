/-! COSTS: the reference goes through a rule with groups -/
section RRG
variable {cl kd ly : Int → Int} {oc : Int → Int → Prop} {u : mU} {p : Int} {h Hs : dm_H} {S : (Int → Int → Int) → Prop}
theorem gst {pr G X B : Int} (hpr : pr = 0 ∨ pr = 1) (vG : vcc G) (q : unc X B) : (X = 1000000 ∨ G = 1000000 → cmg pr G B = 1000000) ∧ (X ≠ 1000000 → G ≠ 1000000 → (pr = 0 → cst (if G < X then X else G) = cmg pr G B ∧ 0 ≤ (if G < X then X else G)) ∧ (pr ≠ 0 → cst (G + X) = cmg pr G B ∧ (0 ≤ G + X ∧ G + X ≤ 60000))) := by
  unfold vcc at vG
  refine ⟨fun z => ?_, fun z1 z2 => ?_⟩
  · unfold cmg
    rw [if_pos]
    rcases z with z | z
    · rcases q with q | q
      · exact Or.inl q.2
      · exfalso; omega
    · exact Or.inr z
  · have q := q.resolve_left (fun w => z1 w.1)
    have hB : B ≤ 9999 ∧ 0 ≤ B := by rw [← q.2]; unfold m9; split <;> omega
    unfold cmg
    rw [if_neg (show ¬ (B = 1000000 ∨ G = 1000000) by omega)]
    refine ⟨fun w => ?_, fun w => ?_⟩
    · rw [if_pos w, ← q.2]
      unfold cst m9
      refine ⟨?_, ?_⟩
      · repeat' split
        all_goals omega
      · split <;> omega
    · rw [if_neg w, ← q.2]
      unfold cst m9
      refine ⟨?_, by omega, by omega⟩
      repeat' split
      all_goals omega
theorem s264g {d : Nat} (hd : 11 ≤ d) {ω : mW} (D : DC cl kd) (R : RU cl kd ly oc u) (V : VW cl kd ω) (hcl : ∀ c, mkd cl u ω c → cov cl kd ω u.2.1 c) (k0 : u.1 = 1 ∨ u.1 = 2) {pr : Int} (hpr : pr = 0 ∨ pr = 1) (SB : SBr pr S cl u ω) (vs : vcR Hs) (U : UR cl kd u p Hs) (eW : rW Hs = ω) (L : LBS S ω (rC Hs)) (w5 w6 w7 : Option dm_V) : ∃ b' He, dm_back (dL (d - 1) 264) dm_t264 89 [lR 1 11 165, lI p, lI pr, lI 0, lI u.2.1, w5, w6, w7] [] (dF (d - 1) 208 [dR 1 11 165, dI p] Hs) = rI b' He ∧ RSt S ω b' Hs He ∧ ∀ v, v ∈ bnds u ω → ∀ x, plW ω u.2.1 (grow cl u ω (gkv cl u v)) x → rC He u.2.1 x ≤ ocv (gcv pr u.2.2.2.1 ω (rC Hs) u.2.2.2.2.toNat (gkv cl u) (gkv cl u v) (bnds u ω)) := by
  have D1 := (D u.2.1 R.2.1.1 R.2.1.2).1
  have GG := RU_GW D R V
  have hps : psr u.2.2.2.1 u.2.2.2.2.toNat := fun k q1 q2 q3 => by
    rcases GG.2 k q1 (by omega) with z | z | z
    · exact z.2.1
    · exact absurd (q3.symm.trans z.1) (by decide)
    · rcases z.1 with y | y
      · exact absurd (q3.symm.trans y) (by decide)
      · exact absurd (q3.symm.trans y.1) (by decide)
  have hJ : ∀ v, v ∈ bnds u ω → Jg u.2.2.2.1 u.2.2.2.2 v := fun v hv => bnds_J GG hv
  have hga : ∀ key, 0 ≤ gsm (gkv cl u) (gam cl u) key (bnds u ω) := fun key => gsm_nn (fun v hv => (gam_r (cl := cl) (u := u) (v := v) D1.1 (fun i i0 i1 => hd_r R (hJ v hv) i0 i1)).1)
  have hkv : ∀ v, v ∈ bnds u ω → vcd (cl u.2.1 - 1) (gkv cl u v) := fun v hv => (hcd_cv (t := u.2.2.1) (v := v) (n := cl u.2.1 - 1) (by omega) (fun i i0 i1 => hd_r R (hJ v hv) i0 (by omega))).2
  have V0 := V
  rw [← eW] at V0
  obtain ⟨H1, l, t1, t2, t3, t4, t5, t6⟩ := s208 (d := d - 1) (by omega) D U R k0 V0
  rw [eW] at t5 t6
  have z32 := grp_32 D R V (by omega) t4 t5 hcl
  have el := t6 z32
  subst el
  have U1 := UR_fr t2 U
  have eW1 : rW H1 = ω := by rw [← eW]; exact eqf_W (frM_f t2)
  have vcW := rC_v V vs
  -- the groups' costs begin at nothing
  have zero : ∀ (m : Nat) (k : Int) (H : dm_H), 0 ≤ k → k + m = gi H1 165 34 → (∀ a i, a ≠ 190 → gi H a i = gi H1 a i) → (∀ a i, gr H a i = gr H1 a i) → H.2.2 = H1.2.2 → (∀ x, 0 ≤ x → x < k → gi H 190 x = 0) → ∃ H' w5, dL (d - 1) 264 95 [lR 1 11 165, lI p, lI pr, lI 0, lI u.2.1, lI k, w6, w7] [] H = dm_back (dL (d - 1) 264) dm_t264 122 [lR 1 11 165, lI p, lI pr, lI 0, lI u.2.1, w5, w6, w7] [dR 1 11 165] (dF (d - 1) 179 [dR 1 11 165, dI p, dI 5] H') ∧ (∀ a i, a ≠ 190 → gi H' a i = gi H1 a i) ∧ (∀ a i, gr H' a i = gr H1 a i) ∧ H'.2.2 = H1.2.2 ∧ (∀ x, 0 ≤ x → x < gi H1 165 34 → gi H' 190 x = 0) := by
    intro m
    induction m with
    | zero =>
      intro k H p0 p1 p2 p3 p4 p5
      refine ⟨H, lI k, ?_, p2, p3, p4, fun x x0 x1 => p5 x x0 (by omega)⟩
      rw [b264_95, p2 165 34 (by omega), if_neg (by omega)]
    | succ m ih =>
      intro k H p0 p1 p2 p3 p4 p5
      rw [b264_95, p2 165 34 (by omega), if_pos (by omega), ix_p p0 (by omega), ck_p (by omega) (by omega)]
      refine ih (k + 1) _ (by omega) (by omega) (fun a i q => by rw [gi_sin q]; exact p2 a i q) p3 p4 (fun x x0 x1 => ?_)
      rw [gi_si]
      by_cases q : x = k
      · rw [if_pos ⟨rfl, q⟩]
      · rw [if_neg (fun z => q z.2)]; exact p5 x x0 (by omega)
  obtain ⟨H2, w5', x1, x2, x3, x4, x5⟩ := zero (gi H1 165 34).toNat 0 H1 (by omega) (by have := t4.1; omega) (fun _ _ _ => rfl) (fun _ _ => rfl) rfl (fun x x0 x1 => by omega)
  have f12 : frM H1 H2 := ⟨fun a i _ _ q _ => x2 a i (by omega), x3, x4⟩
  have U2 := UR_fr f12 U1
  have eW2 : rW H2 = ω := by rw [← eW1]; exact eqf_W (frM_f f12)
  have V2 := V
  rw [← eW2] at V2
  obtain ⟨H3, y1, y2, y3, -, y5⟩ := s189u (d := d - 1) (by omega) D U2 R V2
  rw [eW2] at y5
  have e3 : ∃ H3', dF (d - 1) 189 [dR 1 11 165, dI u.2.2.2.2] H2 = rV H3' ∧ frM H2 H3' ∧ gi H3' 165 34 = gi H2 165 34 ∧ (∀ a i, a = 188 ∨ a = 189 ∨ a = 190 ∨ a = 191 → gi H3' a i = gi H2 a i) ∧ Itr (rRl H3' p) (rW H3') u.2.2.2.2 H3' (bnds u ω) := by
    obtain ⟨H3', q1, q2, -, q4⟩ := s189v (d := d - 1) (by omega) u.2.2.2.2 H2
    have e : H3' = H3 := by
      rw [q1] at y1
      cases y1; rfl
    subst e
    exact ⟨H3', q1, q2, y3, fun a i z => by
      rcases z with z | z | z | z
      · exact q4 a i (by omega)
      · exact q4 a i (by omega)
      · exact q4 a i (by omega)
      · exact q2.1 a i (by omega) (by omega) (by omega) (by omega), y5⟩
  clear y1 y2 y3 y5
  obtain ⟨H3', y1, y2, y3, y4, y5⟩ := e3
  -- the groups' costs are found
  have acc : ∀ (l l1 : List mA) (H : dm_H) (w5 w6 w7 : Option dm_V), l1 ++ l = bnds u ω → frM H1 H → (∀ a i, a = 188 ∨ a = 189 ∨ a = 191 → gi H a i = gi H1 a i) → gi H 165 34 = gi H1 165 34 → Itr (rRl H p) (rW H) u.2.2.2.2 H l → (∀ x, 0 ≤ x → x < gi H1 165 34 → gi H 190 x = gcv pr u.2.2.2.1 ω (rC Hs) u.2.2.2.2.toNat (gkv cl u) (gi H1 188 x) l1) → ∃ H' y6 y7, dL (d - 1) 264 128 [lR 1 11 165, lI p, lI pr, lI 0, lI u.2.1, w5, w6, w7] [] H = dL (d - 1) 264 247 [lR 1 11 165, lI p, lI pr, lI 0, lI u.2.1, lI 0, y6, y7] [] H' ∧ frM H1 H' ∧ (∀ a i, a = 188 ∨ a = 189 ∨ a = 191 → gi H' a i = gi H1 a i) ∧ gi H' 165 34 = gi H1 165 34 ∧ (∀ x, 0 ≤ x → x < gi H1 165 34 → gi H' 190 x = gcv pr u.2.2.2.1 ω (rC Hs) u.2.2.2.2.toNat (gkv cl u) (gi H1 188 x) (bnds u ω)) := by
    intro l
    induction l with
    | nil =>
      intro l1 H w5 w6 w7 el f e1 e2 It g
      have eWH : rW H = ω := by rw [← eW1]; exact eqf_W (frM_f f)
      have VH := V
      rw [← eWH] at VH
      obtain ⟨H', a1, a2⟩ := (s190u (d := d - 1) (by omega) D (UR_fr f U1) R VH It).1 rfl
      rw [List.append_nil] at el
      refine ⟨H', w6, w7, ?_, frM_trans f (frM_r a2), fun a i q => by rw [a2.1 a i (by omega) (by omega) (by omega) (by omega)]; exact e1 a i q, by rw [a2.1 _ _ (by omega) (by omega) (by omega) (by omega)]; exact e2, fun x x0 x1 => by rw [a2.1 _ _ (by omega) (by omega) (by omega) (by omega), ← el]; exact g x x0 x1⟩
      rw [b264_128, a1, bk_v, b264_133, if_pos rfl]
    | cons v l ih =>
      intro l1 H w5 w6 w7 el f e1 e2 It g
      have eWH : rW H = ω := by rw [← eW1]; exact eqf_W (frM_f f)
      have VH := V
      rw [← eWH] at VH
      obtain ⟨H', a1, a2, a3, a4⟩ := (s190u (d := d - 1) (by omega) D (UR_fr f U1) R VH It).2 v l rfl
      have f2 := frM_trans f (frM_r a2)
      have UH := UR_fr f2 U1
      have eWH' : rW H' = ω := by rw [← eW1]; exact eqf_W (frM_f f2)
      have VH' := V
      rw [← eWH'] at VH'
      have hv : v ∈ bnds u ω := by rw [← el]; exact List.mem_append_right _ List.mem_cons_self
      have same : ∀ a i, a = 188 ∨ a = 189 ∨ a = 191 → gi H' a i = gi H1 a i := fun a i q => by rw [a2.1 a i (by omega) (by omega) (by omega) (by omega)]; exact e1 a i q
      have e34 : gi H' 165 34 = gi H1 165 34 := by rw [a2.1 _ _ (by omega) (by omega) (by omega) (by omega)]; exact e2
      have e190 : ∀ x, gi H' 190 x = gi H 190 x := fun x => a2.1 _ _ (by omega) (by omega) (by omega) (by omega)
      have c191 : ∀ i, gi H' 191 i = gi Hs 191 i := fun i => by rw [same 191 i (by omega), t2.1 _ _ (by omega) (by omega) (by omega) (by omega)]
      have eC : rC H' = rC Hs := by
        funext r x
        exact c191 _
      obtain ⟨g1, g2, g3, g4⟩ := t4
      have hg : ∃ gg, dF (d - 1) 209 [dR 1 11 165, dI p] H' = rI gg H' ∧ (0 ≤ gg ∧ gg < gi H1 165 34) ∧ gi H1 188 gg = gkv cl u v := by
        rcases s209 (d := d - 1) (by omega) D UH R a3 (hJ v hv) (by rw [e34]; exact g1) with ⟨gg, q1, q2, q3, -⟩ | ⟨q1, -, -⟩
        · rw [e34] at q2
          rw [same 188 gg (by omega)] at q3
          exact ⟨gg, q1, q2, q3⟩
        · obtain ⟨x, x0, x1, x2⟩ := g4 v hv
          exact absurd (by rw [same 188 x (by omega)]; exact x2) (q1 x x0 (by rw [e34]; exact x1))
      obtain ⟨gg, q1, q2, q3⟩ := hg
      obtain ⟨X, z1, z2⟩ := s265 (d := d - 1) (by omega) D UH R VH' a3 (fun i i0 i1 => by rw [c191]; exact vs i i0 i1) hpr
      rw [eWH', eC] at z2
      have eG : gi H' 190 gg = gcv pr u.2.2.2.1 ω (rC Hs) u.2.2.2.2.toNat (gkv cl u) (gkv cl u v) l1 := by rw [e190, g gg q2.1 q2.2, q3]
      have vG : vcc (gi H' 190 gg) := by rw [eG]; exact gcv_v vcW hps l1
      obtain ⟨s1, s2⟩ := gst hpr vG z2
      have gg40 : gg < 40 := by omega
      have fin_ : ∀ (w6 w7 : Option dm_V) (Z : Int), Z = cmg pr (gi H' 190 gg) (bcv pr u.2.2.2.1 ω (rC Hs) v u.2.2.2.2.toNat) → ∃ H'' y6 y7, dL (d - 1) 264 240 [lR 1 11 165, lI p, lI pr, lI 0, lI u.2.1, lI gg, w6, w7] [dI Z, dI gg, dR 2 40 190] H' = dL (d - 1) 264 247 [lR 1 11 165, lI p, lI pr, lI 0, lI u.2.1, lI 0, y6, y7] [] H'' ∧ frM H1 H'' ∧ (∀ a i, a = 188 ∨ a = 189 ∨ a = 191 → gi H'' a i = gi H1 a i) ∧ gi H'' 165 34 = gi H1 165 34 ∧ (∀ x, 0 ≤ x → x < gi H1 165 34 → gi H'' 190 x = gcv pr u.2.2.2.1 ω (rC Hs) u.2.2.2.2.toNat (gkv cl u) (gi H1 188 x) (bnds u ω)) := by
        intro w6 w7 Z hZ
        rw [b264_240, ix_p q2.1 gg40]
        have fZ : frM H' (si H' 190 gg Z) := ⟨fun a i _ _ r _ => gi_sin (by omega), fun _ _ => rfl, rfl⟩
        refine ih (l1 ++ [v]) (si H' 190 gg Z) _ _ _ (by rw [List.append_assoc]; exact el) (frM_trans f2 fZ) (fun a i q => by rw [gi_sin (by omega)]; exact same a i q) (by rw [gi_sin (by decide)]; exact e34) ?_ (fun x x0 x1 => ?_)
        · rw [eqf_R (frM_f fZ), eqf_W (frM_f fZ)]
          exact Itr_cg (fun i _ => gi_sin (by decide)) (fun a i q => gi_sin (by omega)) a4
        · rw [gcv_s, gi_si]
          by_cases e : x = gg
          · rw [if_pos ⟨rfl, e⟩, e, q3, if_pos rfl, hZ, eG]
          · have hne : ¬ gkv cl u v = gi H1 188 x := fun w => by
              rw [← q3] at w
              rcases Int.lt_trichotomy x gg with y | y | y
              · exact g2 x gg x0 y q2.2 w.symm
              · exact e y
              · exact g2 gg x q2.1 y x1 w
            rw [if_neg (fun z => e z.2), if_neg hne, e190]
            exact g x x0 x1
      have fin2 : ∀ (w6 w7 : Option dm_V) (Z : Int), cst Z = cmg pr (gi H' 190 gg) (bcv pr u.2.2.2.1 ω (rC Hs) v u.2.2.2.2.toNat) → Z ≤ 1000000 → ∃ H'' y6 y7, dL (d - 1) 264 208 [lR 1 11 165, lI p, lI pr, lI 0, lI u.2.1, lI gg, w6, w7] [dI Z] H' = dL (d - 1) 264 247 [lR 1 11 165, lI p, lI pr, lI 0, lI u.2.1, lI 0, y6, y7] [] H'' ∧ frM H1 H'' ∧ (∀ a i, a = 188 ∨ a = 189 ∨ a = 191 → gi H'' a i = gi H1 a i) ∧ gi H'' 165 34 = gi H1 165 34 ∧ (∀ x, 0 ≤ x → x < gi H1 165 34 → gi H'' 190 x = gcv pr u.2.2.2.1 ω (rC Hs) u.2.2.2.2.toNat (gkv cl u) (gi H1 188 x) (bnds u ω)) := by
        intro w6 w7 Z hZ hZ1
        unfold cst at hZ
        rw [b264_208]
        by_cases a : Z < 1000000
        · rw [if_pos a] at hZ ⊢
          by_cases b : 9999 < Z
          · rw [if_pos b] at hZ ⊢
            exact fin_ _ _ _ hZ
          · rw [if_neg b] at hZ ⊢
            rw [b264_238]
            exact fin_ _ _ _ hZ
        · rw [if_neg a] at hZ ⊢
          rw [b264_238]
          exact fin_ _ _ _ (by rw [← hZ]; omega)
      rw [b264_128, a1, bk_v, b264_133, if_neg (by decide), q1, bk_v, b264_141, z1, bk_v, b264_149, ix_p q2.1 gg40]
      by_cases c1 : X = 1000000
      · rw [if_pos c1, b264_176]
        exact fin2 _ _ _ (by rw [s1 (Or.inl c1)]; rfl) (by omega)
      · rw [if_neg c1]
        by_cases c2 : gi H' 190 gg = 1000000
        · rw [if_pos c2, b264_176]
          exact fin2 _ _ _ (by rw [s1 (Or.inr c2)]; rfl) (by omega)
        · rw [if_neg c2]
          obtain ⟨u1, u2⟩ := s2 c1 c2
          by_cases c3 : pr = 0
          · rw [if_pos c3]
            have := u1 c3
            have hX : X ≤ 40000 := by rcases z2 with z | z <;> omega
            have hG : gi H' 190 gg ≤ 9999 := by unfold vcc at vG; omega
            by_cases c4 : gi H' 190 gg < X
            · rw [if_pos c4] at this ⊢
              exact fin2 _ _ _ this.1 (by omega)
            · rw [if_neg c4] at this ⊢
              exact fin2 _ _ _ this.1 (by omega)
          · have := u2 c3
            rw [if_neg c3, ck_p (by omega) (by omega)]
            exact fin2 _ _ _ this.1 (by omega)
  have f13 := frM_trans f12 y2
  obtain ⟨H4, y6, y7, a1, a2, a3, a4, a5⟩ := acc (bnds u ω) [] H3' w5' w6 w7 rfl f13 (fun a i q => by rw [y4 a i (by omega), x2 a i (by omega)]) (by rw [y3, x2 _ _ (by omega)]) y5 (fun x p0 p1 => by rw [y4 190 x (by omega), x5 x p0 p1]; rfl)
  obtain ⟨g1, g2, g3, g4⟩ := t4
  have T4 : RSt S ω 0 Hs H4 := by
    have e191 : ∀ i, gi H4 191 i = gi Hs 191 i := fun i => by rw [a3 191 i (by omega), t2.1 _ _ (by omega) (by omega) (by omega) (by omega)]
    exact ⟨frQ_t (frQ_M t2) (frQ_M a2), fun i i0 i1 => by rw [e191]; exact vs i i0 i1, rmc_0 e191, fun s hs r x r0 r1 p0 p1 => by show _ ≤ gi H4 191 _; rw [e191]; exact L s hs r x r0 r1 p0 p1⟩
  -- the groups' rows are offered
  have off : ∀ (m : Nat) (x b : Int) (H : dm_H), 0 ≤ x → x + m = gi H1 165 34 → RSt S ω b Hs H → frQ H4 H → (∀ a i, a ≠ 191 → gi H a i = gi H4 a i) → (∀ y, 0 ≤ y → y < x → ∀ z, plW ω u.2.1 (grow cl u ω (gi H1 188 y)) z → rC H u.2.1 z ≤ ocv (gcv pr u.2.2.2.1 ω (rC Hs) u.2.2.2.2.toNat (gkv cl u) (gi H1 188 y) (bnds u ω))) → ∃ b' He, dL (d - 1) 264 247 [lR 1 11 165, lI p, lI pr, lI b, lI u.2.1, lI x, y6, y7] [] H = rI b' He ∧ RSt S ω b' Hs He ∧ (∀ y, 0 ≤ y → y < gi H1 165 34 → ∀ z, plW ω u.2.1 (grow cl u ω (gi H1 188 y)) z → rC He u.2.1 z ≤ ocv (gcv pr u.2.2.2.1 ω (rC Hs) u.2.2.2.2.toNat (gkv cl u) (gi H1 188 y) (bnds u ω))) := by
    intro m
    induction m with
    | zero =>
      intro x b H p0 p1 T f e g
      refine ⟨b, H, ?_, T, fun y q1 q2 => g y q1 (by omega)⟩
      rw [b264_247, e 165 34 (by omega), a4, if_neg (by omega), z1_p T.2.2.1.1]
    | succ m ih =>
      intro x b H p0 p1 T f e g
      have x32 : x < 40 := by omega
      have UH := UR_q f (UR_fr a2 U1)
      have eWH : rW H = ω := by rw [eqf_W (frQ_f f), eqf_W (frM_f a2)]; exact eW1
      obtain ⟨⟨v, v1, v2⟩, e189⟩ := g3 x p0 (by omega)
      have hk := hkv v v1
      rw [v2] at hk
      have q188 : gi H 188 x = gi H1 188 x := by rw [e _ _ (by omega), a3 188 x (by omega)]
      have q189 : gi H 189 x = gi H1 189 x := by rw [e _ _ (by omega), a3 189 x (by omega)]
      have row : dF (d - 1) 210 [dR 1 11 165, dI p, dI x] H = rI (grow cl u ω (gi H1 188 x)) H := by
        have := s210 (d := d - 1) (by omega) D UH R (g := x) ⟨p0, x32⟩ (by rw [q189, e189]; exact (m9_r (hga _)).1) (by rw [q188]; exact hk.1)
        rw [this, q188, q189, e189, m99_m9]
        rfl
      have q190 : gi H 190 x = gcv pr u.2.2.2.1 ω (rC Hs) u.2.2.2.2.toNat (gkv cl u) (gi H1 188 x) (bnds u ω) := by rw [e _ _ (by omega)]; exact a5 x p0 (by omega)
      have vG := gcv_v (pr := pr) (g := gkv cl u) (key := gi H1 188 x) vcW hps (bnds u ω)
      obtain ⟨G, eG⟩ : ∃ G, G = gcv pr u.2.2.2.1 ω (rC Hs) u.2.2.2.2.toNat (gkv cl u) (gi H1 188 x) (bnds u ω) := ⟨_, rfl⟩
      rw [← eG] at q190 vG
      have oG : cst (if G = 1000000 then 1000000 else G + 1) = ocv G ∧ 0 ≤ (if G = 1000000 then 1000000 else G + 1) := by
        unfold vcc at vG
        unfold cst ocv m9
        by_cases z : G = 1000000
        · rw [if_pos z, if_pos z]; exact ⟨rfl, by omega⟩
        · rw [if_neg z, if_neg z, if_pos (by omega)]
          refine ⟨?_, by omega⟩
          split <;> rfl
      obtain ⟨b', H', z1, z2, z3, z4, z5, z6, z7⟩ := ofr_r (d := d - 1) (by omega) V eWH T (r := u.2.1) (c := grow cl u ω (gi H1 188 x)) R.2.1 oG.2 (fun s hs z hz => by
        obtain ⟨c1, c2⟩ := SB s hs
        have erow : wrow cl u ω v = grow cl u ω (gkv cl u v) := if_neg (by omega)
        have ew : wcost pr cl u ω s v = gcv pr u.2.2.2.1 ω s u.2.2.2.2.toNat (gkv cl u) (gkv cl u v) (bnds u ω) := if_neg (by omega)
        have := c2 v v1 z (by rw [erow, v2]; exact hz)
        rw [ew, v2] at this
        rw [oG.1, eG]
        exact Int.le_trans this (ocv_mono (gcv_v c1 hps _) (gcv_v vcW hps _) (gcv_mono c1 vcW (L s hs) hps _)))
      have e295 : dL (d - 1) 264 267 [lR 1 11 165, lI p, lI pr, lI b, lI u.2.1, lI x, y6, y7] [dI (grow cl u ω (gi H1 188 x)), dI u.2.1, dR 1 11 165, dI b] H = dL (d - 1) 264 295 [lR 1 11 165, lI p, lI pr, lI b, lI u.2.1, lI x, y6, y7] [dI (if G = 1000000 then 1000000 else G + 1), dI (grow cl u ω (gi H1 188 x)), dI u.2.1, dR 1 11 165, dI b] H := by
        rw [b264_267, ix_p p0 x32, q190]
        by_cases z : G = 1000000
        · rw [if_pos z, if_pos z]
        · unfold vcc at vG
          rw [if_neg z, if_neg z, ix_p p0 x32, ck_p (by omega) (by omega)]
      obtain ⟨b'', He, q1, q2, q3⟩ := ih (x + 1) (dm_or b b') H' (by omega) (by omega) z3 (frQ_t f z5) (fun a i q => by rw [z4 a i q]; exact e a i q) (fun y y0 y1 z hz => by
        by_cases w : y = x
        · rw [w] at hz ⊢
          have := z6 z hz
          rw [oG.1, eG] at this
          exact this
        · have := g y y0 (by omega) z hz
          have k1 := z7 (40 * u.2.1 + z) (by have := R.2.1; have := hz.1.1; omega) (by have := (V _ R.2.1.1 R.2.1.2).1.2; have := R.2.1; have := hz.1.2; omega)
          have k2 : rC H' u.2.1 z = gi H' 191 (40 * u.2.1 + z) := rfl
          have k3 : rC H u.2.1 z = gi H 191 (40 * u.2.1 + z) := rfl
          omega)
      refine ⟨b'', He, ?_, q2, q3⟩
      rw [b264_247, e 165 34 (by omega), a4, if_pos (by omega), row, bk_v, e295, b264_295, z1, bk_v, b264_298, ck_p (by omega) (by omega), q1]
  obtain ⟨b', He, z1, z2, z3⟩ := off (gi H1 165 34).toNat 0 0 H4 (by omega) (by omega) T4 (frQ_refl H4) (fun _ _ _ => rfl) (fun y q1 q2 => by omega)
  refine ⟨b', He, ?_, z2, fun v hv x hx => ?_⟩
  · rw [t1, bk_n, b264_92, x1, s179 (by omega) p 5 H2 U.1 (by omega), U2.2.2.2.2.1, bk_v, b264_125, y1, bk_n, a1, z1]
  · obtain ⟨y, p0, p1, p2⟩ := g4 v hv
    rw [← p2] at hx ⊢
    exact z3 y p0 p1 x hx
end RRG
