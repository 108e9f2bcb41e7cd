/-! HOW MANY WAYS A RULE HAS TO A ROW; in the class -/
section WYC
variable {h H : dm_H} {π : Int → Int}
/-- the ways of a rule to a row -/
noncomputable def wyv (cl : Int → Int) (u : mU) (ω : mW) (c : Int) : Int := if u.1 = 0 then (((bnds u ω).filter (fun v => decide (hdc cl u v = c))).length : Int) else @ite _ (mkd cl u ω c) (Classical.propDecidable _) 1 0
theorem fm_filter {α : Type} {l : List α} {g : α → Option α} {P : α → Prop} [DecidablePred P] (h : ∀ u, u ∈ l → (P u → g u = some u) ∧ (¬ P u → g u = none)) : l.filterMap g = l.filter (fun u => decide (P u)) := by
  induction l with
  | nil => rfl
  | cons a l ih =>
    have h1 := h a List.mem_cons_self
    have h2 := ih (fun u hu => h u (List.mem_cons_of_mem _ hu))
    by_cases z : P a
    · rw [List.filterMap_cons_some (h1.1 z), h2, List.filter_cons_of_pos (by simpa using z)]
    · rw [List.filterMap_cons_none (h1.2 z), h2, List.filter_cons_of_neg (by simpa using z)]
/-- a class's rule, in a heap near by -/
theorem fpx_at (I : IN0 π h) (f : fpx h H) {j : Int} (j0 : 0 ≤ j) (j1 : j < gi h 13 1) : IN0 π H ∧ RIc (gr h 14 j) H ∧ cR H (gr h 14 j) = cR h (gr h 14 j) ∧ (∀ i, gi H (gr h 14 j) i = gi h (gr h 14 j) i) ∧ gi H (gr h 14 j + 1) = gi h (gr h 14 j + 1) ∧ eqW (cW h (gr h 1 8)) (cW H (gr h 1 8)) ∧ (cK H = cK h ∧ gi H 4 = gi h 4) ∧ VW (cK H) (gi H 4) (cW H (gr h 1 8)) ∧ (still h (gr h 1 8) → still H (gr h 1 8)) ∧ gr H 14 j = gr h 14 j ∧ gr H 1 8 = gr h 1 8 := by
  have hW := I.2.2.2.2.2.2.2.2.2.1
  have hP : gr h 1 8 = 95 ∨ gr h 1 8 = 112 := hW.1
  have hQ : gr h 1 9 = 95 ∨ gr h 1 9 = 112 := hW.2.1
  have hPQ := hW.2.2
  have s := spare_all (h' := H) I (fun a i p q r _ _ => f.1 a i p q r) f.2.1
  have hru := ru_r (I.2.2.1.2.2.1 j j0 j1).1
  have lo : ∀ a i, a < 95 ∨ (129 ≤ a ∧ a ≤ 136) → gi H a i = gi h a i := fun a i ha => f.1 a i (by omega) (by omega) (by omega)
  have lr : gr H 14 j = gr h 14 j := f.2.1 _ _ (by omega)
  have l8 : gr H 1 8 = gr h 1 8 := f.2.1 _ _ (by omega)
  have RH : RIc (gr h 14 j) H := by
    have := (s.1.2.2.1).2.2.1 j j0 (by rw [lo 13 1 (by omega)]; exact j1)
    rw [lr] at this
    exact RIN_c this
  have V : VW (cK H) (gi H 4) (cW H (gr H 1 8)) := s.1.2.2.2.2.2.2.2.2.2.2.2.2.2.2.2.1
  rw [l8] at V
  have eW := cW_far (P := gr h 1 8) hW.1 (h := h) (h' := H) (fun a i p q => f.1 a i (by omega) (by omega) (by omega))
  refine ⟨s.1, RH, (uR_cg (fun a i p q _ => lo a i (by omega))).2, fun i => lo _ _ (by omega), funext (fun i => lo _ _ (by omega)), eW, ⟨?_, funext (fun i => lo _ _ (by omega))⟩, V, fun S => still_to (fun a i p q => f.1 a i (by omega) (by omega) (by omega)) (fun r _ _ => f.1 _ _ (by omega) (by omega) (by omega)) S, lr, l8⟩
  unfold cK
  simp only [show ∀ i, gi H 3 i = gi h 3 i from fun i => lo _ _ (by omega)]
/-- bindings with a head's first numbers -/
theorem head_put (I : IN0 π h) {j : Int} (j0 : 0 ≤ j) (j1 : j < gi h 13 1) {c : Int} (hc : 0 ≤ c ∧ c < 1000000) {m : Nat} (hm : (m : Int) ≤ gi h (gr h 14 j) 3) {ω : mW} (V : VW (cK h) (gi h 4) ω) : olist (cR h (gr h 14 j)) ω (gi h (gr h 14 j) 4).toNat 0 (pH (gi h (gr h 14 j + 1)) c m 0 v0) = (bnds (uR h (gr h 14 j)) ω).filter (fun u => @decide (∀ i, 0 ≤ i → i < 0 + (m : Int) → tv u (gi h (gr h 14 j + 1) i) = cv i c) (Classical.propDecidable _)) := by
  have R := RIN_c (I.2.2.1.2.2.1 j j0 j1)
  have G := GWc I.1.1 R V
  have hN := G.1
  obtain ⟨r1, ⟨d1, d2, d3, d4, d5, d6, d7, d8, d9, d10, d11⟩, r3, r4⟩ := R
  have hn3 : gi h (gr h 14 j) 3 ≤ 3 := by
    by_cases q : gi h (gr h 14 j) 1 = 3
    · have := (d3 q).2; omega
    · have := d4 q
      have hk := cK_c I.1.1 this.1.1 this.1.2
      omega
  have hcv : ∀ i, 0 ≤ i → i < 3 → 0 ≤ cv i c ∧ cv i c ≤ 99 := fun i i0 i1 => cv_r ⟨i0, i1⟩ hc
  rw [pH_G (f := fun i => cv i c) (fun i i0 i1 => ⟨by have := hcv i i0 (by omega); show cv i c ≠ -1; omega, rfl⟩)]
  have e := bnd_pG (t := gi h (gr h 14 j + 1)) (f := fun i => cv i c) G (gi h (gr h 14 j) 4).toNat 0 (by omega) (by omega) m 0 v0 (fun i i0 i1 => Or.inr (hcv i i0 (by omega))) (v0_J _)
  rw [← e]
  show (bnds (uR h (gr h 14 j)) ω).filterMap _ = _
  refine @fm_filter _ _ _ _ (fun u => Classical.propDecidable _) (fun u hu => ?_)
  have hJ : Jg (cR h (gr h 14 j)) (gi h (gr h 14 j) 4) u := bnd_J (u := uR h (gr h 14 j)) (ω := ω) G _ 0 v0 u (by omega) (by show (0 : Int) + _ = gi h (gr h 14 j) 4; show (0 : Int) + ((gi h (gr h 14 j) 4).toNat : Int) = _; omega) (v0_J _) hu
  exact pG_full (t := gi h (gr h 14 j + 1)) (f := fun i => cv i c) m 0 u (fun i i0 i1 => ⟨by have := hcv i i0 (by omega); show cv i c ≠ -1; omega, (d5 i i0 (by omega)).2, fun q => hJ.2.2 _ q (r3.2.2 i i0 (by omega) q)⟩)
/-- the head of a binding is a row -/
theorem hd_eq (I : IN0 π h) {j : Int} (j0 : 0 ≤ j) (j1 : j < gi h 13 1) (h3 : gi h (gr h 14 j) 1 ≠ 3) {ω : mW} (V : VW (cK h) (gi h 4) ω) {c : Int} (hc : vcd (cK h (gi h (gr h 14 j) 2)) c) {v : mA} (hv : v ∈ bnds (uR h (gr h 14 j)) ω) : (hdc (cK h) (uR h (gr h 14 j)) v = c ↔ ∀ i, 0 ≤ i → i < cK h (gi h (gr h 14 j) 2) → tv v (gi h (gr h 14 j + 1) i) = cv i c) ∧ (∀ i, 0 ≤ i → i < cK h (gi h (gr h 14 j) 2) → 0 ≤ tv v (gi h (gr h 14 j + 1) i) ∧ tv v (gi h (gr h 14 j + 1) i) ≤ 99) := by
  obtain ⟨hl, hUr, hU⟩ := lay12 I
  have D := DC_of I.1.1
  have R := hU _ ⟨j, j0, j1, h3, rfl⟩
  have hJ := bnds_J (RU_GW D R V) hv
  obtain ⟨a1, a2⟩ := hd_cv D R hJ
  have D1 := (D _ R.2.1.1 R.2.1.2).1
  refine ⟨⟨fun q i i0 i1 => ?_, fun q => ?_⟩, fun i i0 i1 => hd_r R hJ i0 i1⟩
  · rw [← q]; exact (a1 i i0 i1).symm
  · exact vcd_ext a2 hc (fun i i0 i1 _ => (a1 i i0 i1).trans (q i i0 i1))
theorem s148f {d : Nat} (hd : 9 ≤ d) (I : IN0 π h) (S : still h (gr h 1 8)) (f : fpx h H) {j : Int} (j0 : 0 ≤ j) (j1 : j < gi h 13 1) (k0 : gi h (gr h 14 j) 1 = 0) {c : Int} (hc : vcd (cK h (gi h (gr h 14 j) 2)) c) : ∃ H', dF d 148 [dR 1 10 1, dR 1 8 (gr h 14 j), dI c] H = rI (wyv (cK h) (uR h (gr h 14 j)) (cW h (gr h 1 8)) c) H' ∧ fpx h H' := by
  have hW := I.2.2.2.2.2.2.2.2.2.1
  have hP : gr h 1 8 = 95 ∨ gr h 1 8 = 112 := hW.1
  have hQ : gr h 1 9 = 95 ∨ gr h 1 9 = 112 := hW.2.1
  have V : VW (cK h) (gi h 4) (cW h (gr h 1 8)) := I.2.2.2.2.2.2.2.2.2.2.2.2.2.2.2.1
  have hr := I.2.2.1.2.2.1 j j0 j1
  have hru := ru_r hr.1
  have q4 := hr.2.1.2.2.2.1 (by omega)
  have hk := cK_c I.1.1 q4.1.1 q4.1.2
  have ecK : cK h (gi h (gr h 14 j) 2) = gi h (gr h 14 j) 3 := by rw [hk.1, q4.2]
  have hk3 : 1 ≤ gi h (gr h 14 j) 3 ∧ gi h (gr h 14 j) 3 ≤ 3 := by rw [q4.2]; exact hk.2
  have hp := head_put I j0 j1 hc.1 (m := (gi h (gr h 14 j) 3).toNat) (by omega) V
  have heq : ∀ v, v ∈ bnds (uR h (gr h 14 j)) (cW h (gr h 1 8)) → _ := fun v hv => (hd_eq I j0 j1 (by omega) V hc hv).1
  have ewy : wyv (cK h) (uR h (gr h 14 j)) (cW h (gr h 1 8)) c = ((olist (cR h (gr h 14 j)) (cW h (gr h 1 8)) (gi h (gr h 14 j) 4).toNat 0 (pH (gi h (gr h 14 j + 1)) c (gi h (gr h 14 j) 3).toNat 0 v0)).length : Int) := by
    unfold wyv
    rw [if_pos (show (uR h (gr h 14 j)).1 = 0 from k0), hp]
    congr 2
    refine List.filter_congr (fun v hv => ?_)
    have := heq v hv
    rw [ecK] at this
    by_cases z : hdc (cK h) (uR h (gr h 14 j)) v = c
    · rw [decide_eq_true z]
      exact (@decide_eq_true _ (Classical.propDecidable _) (fun i i0 i1 => this.mp z i i0 (by omega))).symm
    · rw [decide_eq_false z]
      exact (@decide_eq_false _ (Classical.propDecidable _) (fun w => z (this.mpr (fun i i0 i1 => w i i0 (by omega))))).symm
  -- the joiner begins
  obtain ⟨A, eA⟩ : ∃ A, gr h 14 j = A := ⟨_, rfl⟩
  obtain ⟨P, eP⟩ : ∃ P, gr h 1 8 = P := ⟨_, rfl⟩
  have fb : fpx h (grb H A) := fpx_trans f ⟨fun a i _ _ r => grb_gi (by omega), fun a i r => by rw [grb_gr, if_neg (by omega)], rfl⟩
  obtain ⟨x1, x2, x3, x4, x5, x6, x7, x8, x9, x10, x11⟩ := fpx_at I fb j0 j1
  obtain ⟨y1, y2, y3, y4, y5, y6, y7, y8, y9, y10, y11⟩ := fpx_at I f j0 j1
  rw [eA] at x2 x3 x4 x5 x10 y2 y3 y4 y5 y10 ewy hru q4 k0 hk3 ⊢
  rw [eP] at x6 x8 x9 x11 y6 y8 y9 y11 ewy hP ⊢
  rw [eP] at S V
  have st0 := x9 S
  obtain ⟨j2, j3, j4, j5, j9, j10⟩ := bgn_j H A P 0
  obtain ⟨g6, g7, g8⟩ := bgn_gr H A P 0
  obtain ⟨H1, eH1⟩ : ∃ H1, H1 = grb (bgn H A P 0) A := ⟨_, rfl⟩
  have fJ1 : frJ (grb H A) H1 := by
    rw [eH1]
    refine ⟨fun a i p => ?_, fun a i p => ?_, rfl⟩
    · unfold grb
      rw [gi_si, gi_si, gi_si, gi_si]
      by_cases z1 : a = 140 ∧ i = 3
      · rw [if_pos z1, if_pos z1]
      · rw [if_neg z1, if_neg z1]
        by_cases z2 : a = 140 ∧ i = 2
        · rw [if_pos z2, if_pos z2]
        · rw [if_neg z2, if_neg z2]
          exact bgn_gi (by omega) (by omega)
    · rw [grb_gr, grb_gr, bgn_gn p]
  have e137 : ∀ i, gi H1 137 i = gi (bgn H A P 0) 137 i := fun i => by rw [eH1]; exact grb_gi (by omega)
  have va1 : va H1 138 = v0 := by
    rw [← bgn_va H A P 0]
    funext s
    unfold va
    rw [eH1, grb_gi (by omega)]
  have r137 : ∀ i, gr H1 137 i = gr (bgn H A P 0) 137 i := fun i => by rw [eH1, grb_gr, if_neg (by omega)]
  have eh : (fun i => gi H1 (A + 1) i) = gi h (A + 1) := by
    funext i
    rw [fJ1.1 _ _ (by omega), x5]
  have hn : gi H1 A 3 = gi h A 3 := by rw [fJ1.1 _ _ (by omega), x4]
  have s149' := s149 (d := d - 1) (by omega) (gi h A 3) c H1 (A := A) (by rw [r137]; exact g6) y2.1 (by omega) hc.1
  rw [va1, eh] at s149'
  have c0 : dF d 148 [dR 1 10 1, dR 1 8 A, dI c] H = dm_back (dL (d - 1) 148) dm_t148 67 [lR 1 10 1, lR 1 8 A, lI c, lI 0, none, none] [] (dF (d - 1) 149 [dR 1 5 137, dI (gi h A 3), dI c] H1) := by
    rw [f148 (by omega), b148_0, y4, if_pos k0, b148_12, if_pos rfl, y11, s20 (by omega), bk_n, b148_37, s62 (by omega), bk_n, ← eH1, b148_45, if_pos rfl, b148_66, hn]
  cases hw : pH (gi h (A + 1)) c (gi h A 3).toNat 0 v0 with
  | none =>
    obtain ⟨u, hu, z1⟩ := s149'.2 hw
    rw [hw] at ewy
    have ewy : wyv (cK h) (uR h A) (cW h P) c = 0 := ewy
    refine ⟨sv H1 138 u, ?_, fpx_trans fb (fpx_J (frJ_trans fJ1 frJ_sv))⟩
    rw [c0, z1, bk_v, b148_70, if_pos rfl, ewy]
  | some v =>
    have z1 := s149'.1 v hw
    rw [hw] at ewy
    have hJv : nv v ∧ vr v := by
      rw [pH_G (f := fun i => cv i c) (fun i i0 i1 => by
        have := cv_r (i := i) (c := c) ⟨i0, by omega⟩ hc.1
        exact ⟨by show cv i c ≠ -1; omega, rfl⟩)] at hw
      have := pG_J (fun i i0 i1 => Or.inr (cv_r (i := i) (c := c) ⟨i0, by omega⟩ hc.1)) (v0_J (cR h A)).1 (v0_J (cR h A)).2.1 hw
      exact ⟨this.1, this.2.1⟩
    have fJ2 := frJ_trans fJ1 (frJ_sv (w := v))
    obtain ⟨H2, u1, u2, u3, u4⟩ := jn_step (d := d - 1) (h := grb H A) (h1 := sv H1 138 v) (M := 1000000) (v := v) (by omega) x1.1.1 x2 hP x8 st0 fJ2 (by
      show gr H1 137 6 = A ∧ gr H1 137 7 = P ∧ gr H1 137 8 = 0
      rw [r137, r137, r137]; exact ⟨g6, g7, g8⟩) (by rw [gi_svn (by decide), e137]; exact j2) (by rw [gi_svn (by decide), e137]; exact j3) (by rw [gi_svn (by decide), e137]; exact j4) (by omega) (by rw [gi_svn (by decide), e137]; exact j5) (by rw [gi_svn (by decide), e137]; exact j9) (by rw [gi_svn (by decide), e137]; exact j10) (va_sv hJv.1) hJv
    have GG := GWc x1.1.1 x2 x8
    have bl := bnd_len (ρ := cR (grb H A) A) (ω := cW (grb H A) P) (N := gi (grb H A) A 4) (fun k k0 k1 z => by
      rcases GG.2 k k0 k1 with w | w | w
      · exact (x8 _ w.2.1.1 w.2.1.2).1
      · exact (x8 _ w.2.1.1 w.2.1.2).1
      · rcases w.1 with y | y <;> omega) (gi (grb H A) A 4).toNat 0 v (by omega) (by have := GG.1; omega)
    have ba := abfc x2
    have e2 := cnt_lt u3 (by omega)
    have eb : bnd (cR (grb H A) A) (cW (grb H A) P) (gi (grb H A) A 4).toNat 0 v = bnd (cR h A) (cW h P) (gi h A 4).toNat 0 v := by
      rw [x3, x4]
      rw [x3, x4] at GG
      exact bnd_eqW (N := gi h A 4) x6 (fun k k0 k1 q => by
        rcases GG.2 k k0 k1 with z | z | z
        · exact z.2.1
        · exact z.2.1
        · rcases z.1 with w | w <;> omega) _ 0 v (by omega) (by have := GG.1; omega)
    rw [eb] at e2
    have ewy : wyv (cK h) (uR h A) (cW h P) c = ((bnd (cR h A) (cW h P) (gi h A 4).toNat 0 v).length : Int) := ewy
    refine ⟨H2, ?_, fpx_trans fb (fpx_J u2)⟩
    rw [c0, z1, bk_v, b148_70, if_neg (by decide), u1, bk_n, b148_83, if_pos rfl, e2, ewy]
end WYC
