/-! HOW MANY WAYS A RULE WITH GROUPS HAS TO A ROW; in the class -/
section WYG
variable {h H : dm_H} {π : Int → Int}
theorem gsm_filter {g a : mA → Int} {key : Int} {p : mA → Bool} : ∀ {l : List mA}, (∀ v, v ∈ l → g v = key → p v = true) → gsm g a key (l.filter p) = gsm g a key l
  | [], _ => rfl
  | v :: l, h => by
    have ih := gsm_filter (g := g) (a := a) (key := key) (p := p) (l := l) (fun w hw => h w (List.mem_cons_of_mem _ hw))
    by_cases z : p v = true
    · rw [List.filter_cons_of_pos z]
      show _ + gsm g a key (l.filter p) = _ + gsm g a key l
      rw [ih]
    · rw [List.filter_cons_of_neg z, ih]
      show _ = (if g v = key then a v else 0) + gsm g a key l
      rw [if_neg (fun w => z (h v List.mem_cons_self w))]
      omega
/-- what the groups of a rule say of a row -/
theorem grow_cv {n c key T : Int} (hn : 1 ≤ n ∧ n ≤ 3) (hk : vcd (n - 1) key) (hT : 0 ≤ T ∧ T ≤ 99) (e : c = key + T * dm_unit (n - 1)) : ∀ i, 0 ≤ i → i < n - 1 → cv i c = cv i key := by
  rw [e]
  exact (row_cv hn hk hT).2.1
theorem s148g {d : Nat} (hd : 9 ≤ d) (I : IN0 π h) (S : still h (gr h 1 8)) (f : fpx h H) {j : Int} (j0 : 0 ≤ j) (j1 : j < gi h 13 1) (k0 : gi h (gr h 14 j) 1 = 1 ∨ gi h (gr h 14 j) 1 = 2) {c : Int} (hc : vcd (cK h (gi h (gr h 14 j) 2)) c) : ∃ H', dF d 148 [dR 1 10 1, dR 1 8 (gr h 14 j), dI c] H = rI (wyv (cK h) (uR h (gr h 14 j)) (cW h (gr h 1 8)) c) H' ∧ fpx h H' := by
  have hW := I.2.2.2.2.2.2.2.2.2.1
  have hP : gr h 1 8 = 95 ∨ gr h 1 8 = 112 := hW.1
  have hQ : gr h 1 9 = 95 ∨ gr h 1 9 = 112 := hW.2.1
  have V : VW (cK h) (gi h 4) (cW h (gr h 1 8)) := I.2.2.2.2.2.2.2.2.2.2.2.2.2.2.2.1
  have hr := I.2.2.1.2.2.1 j j0 j1
  have hru := ru_r hr.1
  have q4 := hr.2.1.2.2.2.1 (by omega)
  have hk := cK_c I.1.1 q4.1.1 q4.1.2
  have ecK : cK h (gi h (gr h 14 j) 2) = gi h (gr h 14 j) 3 := by rw [hk.1, q4.2]
  have hk3 : 1 ≤ gi h (gr h 14 j) 3 ∧ gi h (gr h 14 j) 3 ≤ 3 := by rw [q4.2]; exact hk.2
  have hp := head_put I j0 j1 hc.1 (m := (gi h (gr h 14 j) 3 - 1).toNat) (by omega) V
  have h9 := fun v (hv : v ∈ bnds (uR h (gr h 14 j)) (cW h (gr h 1 8))) => (hd_eq I j0 j1 (by omega) V hc hv).2
  rw [ecK] at h9
  have hgk : ∀ v, v ∈ bnds (uR h (gr h 14 j)) (cW h (gr h 1 8)) → (∀ i, 0 ≤ i → i < gi h (gr h 14 j) 3 - 1 → cv i (gkv (cK h) (uR h (gr h 14 j)) v) = tv v (gi h (gr h 14 j + 1) i)) ∧ vcd (gi h (gr h 14 j) 3 - 1) (gkv (cK h) (uR h (gr h 14 j)) v) := by
    intro v hv
    have := hcd_cv (t := gi h (gr h 14 j + 1)) (v := v) (n := gi h (gr h 14 j) 3 - 1) (by omega) (fun i i0 i1 => h9 v hv i i0 (by omega))
    have e : gkv (cK h) (uR h (gr h 14 j)) v = hcd (gi h (gr h 14 j + 1)) v (gi h (gr h 14 j) 3 - 1).toNat 0 0 := by
      unfold gkv
      show hcd (gi h (gr h 14 j + 1)) v (cK h (gi h (gr h 14 j) 2) - 1).toNat 0 0 = _
      rw [ecK]
    rw [e]; exact this
  have hga : ∀ v, v ∈ bnds (uR h (gr h 14 j)) (cW h (gr h 1 8)) → 0 ≤ gam (cK h) (uR h (gr h 14 j)) v := fun v hv => (gam_r (cl := cK h) (u := uR h (gr h 14 j)) (v := v) (by show 1 ≤ cK h (gi h (gr h 14 j) 2); omega) (fun i i0 i1 => h9 v hv i i0 (by have i1 : i < cK h (gi h (gr h 14 j) 2) := i1; omega))).1
  obtain ⟨A, eA⟩ : ∃ A, gr h 14 j = A := ⟨_, rfl⟩
  obtain ⟨P, eP⟩ : ∃ P, gr h 1 8 = P := ⟨_, rfl⟩
  obtain ⟨H1, eH1⟩ : ∃ H1, H1 = grb (bgn H A P 140) A := ⟨_, rfl⟩
  have g1 : ∀ a i, ¬ (137 ≤ a ∧ a ≤ 143) → gi H1 a i = gi H a i := fun a i r => by rw [eH1, grb_gi (by omega), bgn_gi (by omega) (by omega)]
  have r1 : ∀ a i, a ≠ 137 → gr H1 a i = if a = 140 ∧ i = 1 then A else gr H a i := fun a i r => by rw [eH1, grb_gr, bgn_gn r]
  have f1 : fpx h H1 := fpx_trans f ⟨fun a i _ _ r => g1 a i r, fun a i r => by rw [r1 a i (by omega), if_neg (by omega)], by rw [eH1]; rfl⟩
  have y := fpx_at I f j0 j1
  obtain ⟨y1, y2, y3, y4, y5, y6, y7, y8, y9, y10, y11⟩ := y
  rw [eA] at y2 y3 y4 y5 y10 hru q4 k0 hk3 ecK hp h9 hgk hga ⊢
  rw [eP] at y6 y8 y9 y11 hP V S hp h9 hgk hga ⊢
  have va1 : va H1 138 = v0 := by
    rw [← bgn_va H A P 140]
    funext s
    unfold va
    rw [eH1, grb_gi (by omega)]
  have e137 : ∀ i, gi H1 137 i = gi (bgn H A P 140) 137 i := fun i => by rw [eH1]; exact grb_gi (by omega)
  have r137 : ∀ i, gr H1 137 i = gr (bgn H A P 140) 137 i := fun i => by rw [eH1, grb_gr, if_neg (by omega)]
  obtain ⟨j2, j3, j4, j5, j9, j10⟩ := bgn_j H A P 140
  obtain ⟨g6, g7, g8⟩ := bgn_gr H A P 140
  have eh : (fun i => gi H1 (A + 1) i) = gi h (A + 1) := by
    funext i
    rw [g1 _ _ (by omega), y5]
  have hn : gi H1 A 3 = gi h A 3 := by rw [g1 _ _ (by omega), y4]
  have s149' := s149 (d := d - 1) (by omega) (gi h A 3 - 1) c H1 (A := A) (by rw [r137]; exact g6) y2.1 (by omega) hc.1
  rw [va1, eh] at s149'
  have c0 : dF d 148 [dR 1 10 1, dR 1 8 A, dI c] H = dm_back (dL (d - 1) 148) dm_t148 67 [lR 1 10 1, lR 1 8 A, lI c, lI 1, none, none] [] (dF (d - 1) 149 [dR 1 5 137, dI (gi h A 3 - 1), dI c] H1) := by
    rw [f148 (by omega), b148_0, y4, if_neg (by omega), b148_12, if_neg (by decide), y11, s20 (by omega), bk_n, b148_37, s62 (by omega), bk_n, ← eH1, b148_45, if_neg (by decide), hn, ck_p (by omega) (by omega), b148_66]
  -- a binding that makes the row has the head's first numbers
  have memL : ∀ v, v ∈ bnds (uR h A) (cW h P) → c = grow (cK h) (uR h A) (cW h P) (gkv (cK h) (uR h A) v) → v ∈ olist (cR h A) (cW h P) (gi h A 4).toNat 0 (pH (gi h (A + 1)) c (gi h A 3 - 1).toNat 0 v0) := by
    intro v hv e
    rw [hp]
    refine List.mem_filter.mpr ⟨hv, @decide_eq_true _ (Classical.propDecidable _) (fun i i0 i1 => ?_)⟩
    obtain ⟨b1, b2⟩ := hgk v hv
    have hT := m99_r (gsm_nn (g := gkv (cK h) (uR h A)) (a := gam (cK h) (uR h A)) (key := gkv (cK h) (uR h A) v) (l := bnds (uR h A) (cW h P)) hga)
    have := grow_cv (n := gi h A 3) (c := c) hk3 b2 hT (by
      rw [e]
      unfold grow
      show _ = _ + _ * dm_unit (gi h A 3 - 1)
      rw [show cK h (uR h A).2.1 = gi h A 3 from ecK]) i i0 (by omega)
    rw [this, b1 i i0 (by omega)]
  have wy0 : ¬ mkd (cK h) (uR h A) (cW h P) c → wyv (cK h) (uR h A) (cW h P) c = 0 := by
    intro q
    unfold wyv
    rw [if_neg (by show ¬ gi h A 1 = 0; omega), @if_neg _ (Classical.propDecidable _) q]
  have wy1 : mkd (cK h) (uR h A) (cW h P) c → wyv (cK h) (uR h A) (cW h P) c = 1 := by
    intro q
    unfold wyv
    rw [if_neg (by show ¬ gi h A 1 = 0; omega), @if_pos _ (Classical.propDecidable _) q]
  have mk_of : mkd (cK h) (uR h A) (cW h P) c → ∃ v, v ∈ bnds (uR h A) (cW h P) ∧ c = grow (cK h) (uR h A) (cW h P) (gkv (cK h) (uR h A) v) := by
    rintro (⟨q, _⟩ | ⟨_, q⟩)
    · have q : gi h A 1 = 0 := q
      omega
    · exact q
  cases hw : pH (gi h (A + 1)) c (gi h A 3 - 1).toNat 0 v0 with
  | none =>
    obtain ⟨u, hu, z1⟩ := s149'.2 hw
    refine ⟨sv H1 138 u, ?_, fpx_trans f1 (fpx_J frJ_sv)⟩
    rw [c0, z1, bk_v, b148_70, if_pos rfl, wy0 (fun q => ?_)]
    obtain ⟨v, v1, v2⟩ := mk_of q
    have := memL v v1 v2
    rw [hw] at this
    cases this
  | some v =>
    have z1 := s149'.1 v hw
    rw [hw] at memL hp
    have hJv : nv v ∧ vr v := by
      rw [pH_G (f := fun i => cv i c) (fun i i0 i1 => by
        have := cv_r (i := i) (c := c) ⟨i0, by omega⟩ hc.1
        exact ⟨by show cv i c ≠ -1; omega, rfl⟩)] at hw
      have := pG_J (fun i i0 i1 => Or.inr (cv_r (i := i) (c := c) ⟨i0, by omega⟩ hc.1)) (v0_J (cR h A)).1 (v0_J (cR h A)).2.1 hw
      exact ⟨this.1, this.2.1⟩
    obtain ⟨H2, eH2⟩ : ∃ H2, H2 = sv H1 138 v := ⟨_, rfl⟩
    have f2 : fpx h H2 := by rw [eH2]; exact fpx_trans f1 (fpx_J frJ_sv)
    have x := fpx_at I f2 j0 j1
    rw [eA, eP] at x
    obtain ⟨x1, x2, x3, x4, x5, x6, x7, x8, x9, x10, x11⟩ := x
    have eU : uR H2 A = uR h A := by
      unfold uR
      rw [x3, x4, x4, x4, x5]
    have GG := GWc x1.1.1 x2 x8
    have G0 : GW (cR h A) (cW H2 P) (gi h A 4) := by rw [← x3, ← x4]; exact GG
    have eb : bnd (cR H2 A) (cW H2 P) (gi H2 A 4).toNat 0 v = bnd (cR h A) (cW h P) (gi h A 4).toNat 0 v := by
      rw [x3, x4]
      exact bnd_eqW (N := gi h A 4) x6 (fun k k0 k1 q => by
        rcases G0.2 k k0 k1 with z | z | z
        · exact z.2.1
        · exact z.2.1
        · rcases z.1 with w | w <;> omega) _ 0 v (by omega) (by have := G0.1; omega)
    have q137 : ∀ i, gi H2 137 i = gi (bgn H A P 140) 137 i := fun i => by rw [eH2, gi_svn (by decide), e137]
    have s137 : ∀ i, gr H2 137 i = gr (bgn H A P 140) 137 i := fun i => by rw [eH2]; exact r137 i
    have hG : GH A (gi H2 A 4) H2 := by
      have q5 := hr.2.1.2.2.2.2.1
      rw [eA] at q5
      refine ⟨⟨?_, ?_, fun i => rfl, rfl, ?_, ?_⟩, rfl, x2.2.2.2.1.2, fun i i0 i1 => ?_⟩
      · rw [eH2]
        show gr H1 140 1 = A
        rw [r1 _ _ (by omega), if_pos ⟨rfl, rfl⟩]
      · rw [x4, x7.1]
        show _ = cK h (gi H2 A 2)
        rw [x4, ecK]
      · show gi H2 A 1 = 1 ∨ gi H2 A 1 = 2
        rw [x4]; exact k0
      · rw [x7.1]
        show 1 ≤ cK h (gi H2 A 2) ∧ cK h (gi H2 A 2) ≤ 3
        rw [x4, ecK]; exact hk3
      · rw [x7.1, x4, ecK] at i1
        exact ⟨by rw [x5]; exact q5 i i0 i1, fun z => x2.2.2.2.2 i i0 (by rw [x4]; exact i1) z⟩
    have Wst := SWc x1.1.1 x2 hP
    have Jst : Js A P 140 (gi H2 A 4) 0 (-1) H2 H2 := ⟨by rw [s137]; exact g6, by rw [s137]; exact g7, by rw [s137]; exact g8, rfl, fun _ => rfl, fun _ => rfl, fun _ => rfl, fun _ => rfl, fun _ => rfl, by rw [q137]; exact j9, by rw [q137]; exact j10, fun r r0 r1 => (x8 r r0 r1).1, fun r p r0 r1 p0 p1 => ((x8 r r0 r1).2.1 p p0 p1).1⟩
    obtain ⟨H3, u1, u2, u3, u4⟩ := grp_step (h0 := H2) (A := A) (P := P) (N := gi H2 A 4) Wst (fun k k0 k1 q y y0 y1 => by
      have hsub : 0 ≤ gi H2 (A + 3) k ∧ gi H2 (A + 3) k < 6 := by
        rcases GG.2 k k0 k1 with z | z | z
        · exact z.2.1
        · exact z.2.1
        · rcases z.1 with w | w
          · have w : gi H2 (A + 2) k = 2 := w
            omega
          · have w : gi H2 (A + 2) k = 3 := w.1
            omega
      exact x9 S _ y hsub.1 hsub.2 y0 y1) (AWc x1.1.1 x2 x8) (by rw [q137]; exact j9) (by rw [q137]; exact j10) (by rw [q137]; exact j4) (abfc x2) hG GG (v := v) ⟨hJv.1, hJv.2, fun s _ ⟨j, j1, j2, _⟩ => by omega⟩ Jst (by rw [eH2]; exact va_sv hJv.1) (by rw [q137]; exact j5) (by rw [q137]; exact j2) (by rw [eH2, gi_svn (by decide), eH1]; unfold grb; rw [gi_sij (by decide), gi_sis]) (d := d - 1) (by omega)
    rw [eb, eU, x7.1] at u4
    have f3 : fpx h H3 := fpx_trans f2 ⟨fun a i _ _ r => by
      rcases (show a < 140 ∨ 140 ≤ a by omega) with w | w
      · exact u2.1 a i w (by omega) (by omega) (by omega)
      · exact u3 a i w (by omega) (by omega) (by omega), fun a i _ => u2.2.1 a i, u2.2.2⟩
    -- all these bindings have one key
    have hp : bnd (cR h A) (cW h P) (gi h A 4).toNat 0 v = _ := hp
    have memL : ∀ w, w ∈ bnds (uR h A) (cW h P) → c = grow (cK h) (uR h A) (cW h P) (gkv (cK h) (uR h A) w) → w ∈ bnd (cR h A) (cW h P) (gi h A 4).toNat 0 v := memL
    have inB : ∀ w, w ∈ bnd (cR h A) (cW h P) (gi h A 4).toNat 0 v → w ∈ bnds (uR h A) (cW h P) ∧ ∀ i, 0 ≤ i → i < gi h A 3 - 1 → cv i (gkv (cK h) (uR h A) w) = cv i c := by
      intro w hw
      rw [hp] at hw
      obtain ⟨a1, a2⟩ := List.mem_filter.mp hw
      have a2 := @of_decide_eq_true _ (Classical.propDecidable _) a2
      exact ⟨a1, fun i i0 i1 => by rw [(hgk w a1).1 i i0 i1]; exact a2 i i0 (by omega)⟩
    have keys : ∀ w w', w ∈ bnd (cR h A) (cW h P) (gi h A 4).toNat 0 v → w' ∈ bnd (cR h A) (cW h P) (gi h A 4).toNat 0 v → gkv (cK h) (uR h A) w = gkv (cK h) (uR h A) w' := by
      intro w w' hw hw'
      obtain ⟨a1, a2⟩ := inB w hw
      obtain ⟨b1, b2⟩ := inB w' hw'
      exact vcd_ext (hgk w a1).2 (hgk w' b1).2 (fun i i0 i1 _ => (a2 i i0 i1).trans (b2 i i0 i1).symm)
    have back : ∀ w w', w ∈ bnd (cR h A) (cW h P) (gi h A 4).toNat 0 v → w' ∈ bnds (uR h A) (cW h P) → gkv (cK h) (uR h A) w' = gkv (cK h) (uR h A) w → w' ∈ bnd (cR h A) (cW h P) (gi h A 4).toNat 0 v := by
      intro w w' hw hw' e
      rw [hp]
      refine List.mem_filter.mpr ⟨hw', @decide_eq_true _ (Classical.propDecidable _) (fun i i0 i1 => ?_)⟩
      rw [← (hgk w' hw').1 i i0 (by omega), e]
      exact (inB w hw).2 i i0 (by omega)
    have gs : ∀ w, w ∈ bnd (cR h A) (cW h P) (gi h A 4).toNat 0 v → gsm (gkv (cK h) (uR h A)) (gam (cK h) (uR h A)) (gkv (cK h) (uR h A) w) (bnd (cR h A) (cW h P) (gi h A 4).toNat 0 v) = gsm (gkv (cK h) (uR h A)) (gam (cK h) (uR h A)) (gkv (cK h) (uR h A) w) (bnds (uR h A) (cW h P)) := by
      intro w hw
      have e2 := hp
      rw [e2]
      refine gsm_filter (fun w' hw' e => ?_)
      have := back w w' hw hw' e
      rw [hp] at this
      exact (List.mem_filter.mp this).2
    have GRh : GR (cK h) (uR h A) (bnd (cR h A) (cW h P) (gi h A 4).toNat 0 v) H3 := by
      rcases u4 with z | ⟨-, ⟨ff, t1, t2⟩, -⟩
      · exact z.1
      · obtain ⟨w0, w1, w2⟩ := t1 0 (by omega) (by omega)
        obtain ⟨w0', w1', w2'⟩ := t1 1 (by omega) (by omega)
        exact absurd (by rw [← w2, ← w2']; exact keys w0 w0' w1 w1') (t2 0 1 (by omega) (by omega) (by omega))
    obtain ⟨b1, b2, b3, b4⟩ := GRh
    have z1' : gi H3 140 2 ≤ 1 := by
      rcases Int.lt_or_le 1 (gi H3 140 2) with w | w
      · obtain ⟨⟨w0, w1, w2⟩, -⟩ := b3 0 (by omega) (by omega)
        obtain ⟨⟨w0', w1', w2'⟩, -⟩ := b3 1 (by omega) w
        exact absurd (by rw [← w2, ← w2']; exact keys w0 w0' w1 w1') (b2 0 1 (by omega) (by omega) w)
      · exact w
    have ca : dF d 148 [dR 1 10 1, dR 1 8 A, dI c] H = dL (d - 1) 148 101 [lR 1 10 1, lR 1 8 A, lI c, lI 1, lI 0, lI 0] [] H3 := by
      rw [c0, z1, bk_v, b148_70, if_neg (by decide), ← eH2, u1, bk_n, b148_83, if_neg (by decide)]
    by_cases zz : gi H3 140 2 = 0
    · refine ⟨H3, ?_, f3⟩
      rw [ca, b148_101, if_neg (by omega), wy0 (fun q => ?_)]
      obtain ⟨w, w1, w2⟩ := mk_of q
      obtain ⟨x, p0, p1, -⟩ := b4 w (memL w w1 w2)
      omega
    · obtain ⟨⟨w, w1, w2⟩, w3⟩ := b3 0 (by omega) (by omega)
      obtain ⟨a1, a2⟩ := inB w w1
      rw [← w2, gs w w1] at w3
      have hkv := (hgk w a1).2
      have hT := m99_r (gsm_nn (g := gkv (cK h) (uR h A)) (a := gam (cK h) (uR h A)) (key := gkv (cK h) (uR h A) w) (l := bnds (uR h A) (cW h P)) hga)
      have hrow : gi H3 141 0 + gi H3 142 0 * dm_unit (gi h A 3 - 1) = grow (cK h) (uR h A) (cW h P) (gkv (cK h) (uR h A) w) := by
        rw [w3, ← w2]
        unfold grow
        rw [show cK h (uR h A).2.1 = gi h A 3 from ecK]
      have r140 : gr H3 140 1 = A := by
        rw [u2.2.1]
        exact hG.1.1
      have n3 : gi H3 A 3 = gi h A 3 := by
        rw [u2.1 A 3 (by omega) (by omega) (by omega) (by omega), x4]
      have s := s64 (d := d - 1) (by omega) (h := H3) (x := 0) r140 n3 hk3 (by omega) b1.2 (by rw [← w2]; exact hkv.1) (by rw [w3]; exact hT)
      have cb : dF d 148 [dR 1 10 1, dR 1 8 A, dI c] H = rI (if grow (cK h) (uR h A) (cW h P) (gkv (cK h) (uR h A) w) = c then 1 else 0) H3 := by
        rw [ca, b148_101, if_pos (by omega), s, bk_v, b148_122, hrow]
        by_cases e : grow (cK h) (uR h A) (cW h P) (gkv (cK h) (uR h A) w) = c
        · rw [if_pos e, if_pos e, ck_p (by omega) (by omega), b148_129, ck_p (by omega) (by omega), b148_101, if_neg (by omega)]
          rfl
        · rw [if_neg e, if_neg e, b148_129, ck_p (by omega) (by omega), b148_101, if_neg (by omega)]
      refine ⟨H3, ?_, f3⟩
      rw [cb]
      by_cases e : grow (cK h) (uR h A) (cW h P) (gkv (cK h) (uR h A) w) = c
      · rw [if_pos e, wy1 (Or.inr ⟨by show gi h A 1 ≠ 0; omega, w, a1, e.symm⟩)]
      · rw [if_neg e, wy0 (fun q => ?_)]
        obtain ⟨w', w1', w2'⟩ := mk_of q
        have := keys w' w (memL w' w1' w2') w1
        rw [this] at w2'
        exact e w2'.symm
end WYG
