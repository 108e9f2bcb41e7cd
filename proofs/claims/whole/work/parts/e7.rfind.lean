/-! COSTS: the reference finds them -/
section RFC
variable {h H G0 : dm_H} {π : Int → Int}
/-- what facts cost, by what is asked -/
def fcX (pr : Int) (h : dm_H) : Int → Int → Int → Prop := if pr = 0 then fcH h else fcP h
def SX (pr : Int) (h : dm_H) (s : Int → Int → Int) : Prop := STB pr (cK h) (RLc h) (fcX pr h) (rW h) s
theorem SX_r {pr : Int} {u : mU} (hu : RLc h u) : SBr pr (SX pr h) (cK h) u (rW h) := fun _ hs => ⟨hs.1, hs.2.2 u hu⟩
/-- heaps over the same rules and rows -/
def cqR (h H : dm_H) : Prop := (∀ a i, 166 ≤ a → a ≤ 178 → gi H a i = gi h a i) ∧ gi H 165 5 = gi h 165 5
theorem cqR_q (c : cqR h H) {H' : dm_H} (f : frQ H H') : cqR h H' := ⟨fun a i p q => by rw [f.1 a i (by omega) (by omega) (by omega) (by omega)]; exact c.1 a i p q, by rw [f.1 _ _ (by omega) (by omega) (by omega) (by omega)]; exact c.2⟩
theorem cqR_W (c : cqR h H) : rW H = rW h := eqf_W ⟨fun i => c.1 _ _ (by omega) (by omega), fun i => c.1 _ _ (by omega) (by omega), fun i => c.1 _ _ (by omega) (by omega), fun i => c.1 _ _ (by omega) (by omega)⟩
/-- offers of rule j -/
def ogr (pr : Int) (h Hs He : dm_H) (u : mU) : Prop := ∀ v, v ∈ bnds u (rW h) → ∀ x, plW (rW h) u.2.1 (wrow (cK h) u (rW h) v) x → rC He u.2.1 x ≤ ocv (wcost pr (cK h) u (rW h) (rC Hs) v)
/-- what holds of the invariant for the reference's rows -/
theorem rIN (I : IN0 π h) : VW (cK h) (gi h 4) (rW h) ∧ gds (cK h) (gi h 4) (gi h 7) (ftC h (gi h 1 12) (-1) (-1)) (RLc h) 12 (rW h) := by
  have V : VW (cK h) (gi h 4) (cW h (gr h 1 8)) := I.2.2.2.2.2.2.2.2.2.2.2.2.2.2.2.1
  have E : eqW (cW h (gr h 1 8)) (rW h) := I.2.2.2.2.2.2.2.2.2.2.2.1
  exact ⟨eqW_VW E V, eqW_gds (DC_of I.1.1) (lay12 I).2.2 E I.2.2.2.2.2.2.2.2.2.2.2.2.2.2.2⟩
/-- one rule -/
theorem s264 {d : Nat} (hd : 12 ≤ d) (I : IN0 π h) {pr : Int} (hpr : pr = 0 ∨ pr = 1) {j : Int} (j0 : 0 ≤ j) (j1 : j < gi h 13 1) (k3 : gi h (gr h 14 j) 1 ≠ 3) (c : cqR h H) (vc : vcR H) (L : LBS (SX pr h) (rW h) (rC H)) : ∃ b He, dF d 264 [dR 1 11 165, dI (π j), dI pr] H = rI b He ∧ RSt (SX pr h) (rW h) b H He ∧ ogr pr h H He (uR h (gr h 14 j)) := by
  have B := I.2.2.1
  have D := DC_of I.1.1
  obtain ⟨V, gd⟩ := rIN I
  obtain ⟨hl, hUr, hU⟩ := lay12 I
  have hu : RLc h (uR h (gr h 14 j)) := ⟨j, j0, j1, k3, rfl⟩
  have R := hU _ hu
  have U0 : UR (cK h) (gi h 4) (uR h (gr h 14 j)) (π j) h := RIN_UR I.1 (B.2.2.1 j j0 j1) k3
  have U : UR (cK h) (gi h 4) (uR h (gr h 14 j)) (π j) H := UR_c (fun i => c.1 _ _ (by omega) (by omega)) (fun i => c.1 _ _ (by omega) (by omega)) (fun i => by rw [c.1 _ _ (by omega) (by omega)]) U0
  have eW := cqR_W c
  have VH := V
  rw [← eW] at VH
  have kR : 0 ≤ gi h (gr h 14 j) 1 ∧ gi h (gr h 14 j) 1 ≤ 2 := R.1
  have l12 := hl _ R.2.1.1 R.2.1.2
  have hcl : ∀ c, mkd (cK h) (uR h (gr h 14 j)) (rW h) c → cov (cK h) (gi h 4) (rW h) (uR h (gr h 14 j)).2.1 c := (gd.2 _ l12.1 l12.2).1.2 _ hu trivial rfl
  have e1 : gi H 172 (38 * π j + 1) = (uR h (gr h 14 j)).2.1 := U.2.2.1
  have e0 : gi H 172 (38 * π j + 0) = (uR h (gr h 14 j)).1 := by rw [Int.add_zero]; exact U.2.1
  have e5 : gi H 172 (38 * π j + 5) = (uR h (gr h 14 j)).2.2.2.2 := U.2.2.2.2.1
  by_cases k0 : gi h (gr h 14 j) 1 = 0
  · have k0' : (uR h (gr h 14 j)).1 = 0 := k0
    obtain ⟨H3, y1, y2, y3, -, y5⟩ := s189u (d := d - 1) (by omega) D U R VH
    rw [eW] at y5
    have eq3 : ∃ H3', dF (d - 1) 189 [dR 1 11 165, dI (uR h (gr h 14 j)).2.2.2.2] H = rV H3' ∧ frM H H3' ∧ (∀ i, gi H3' 191 i = gi H 191 i) ∧ Itr (rRl H3' (π j)) (rW H3') (uR h (gr h 14 j)).2.2.2.2 H3' (bnds (uR h (gr h 14 j)) (rW h)) := ⟨H3, y1, y2, fun i => y2.1 _ _ (by omega) (by omega) (by omega) (by omega), y5⟩
    clear y1 y2 y3 y5
    obtain ⟨H3', y1, y2, y4, y5⟩ := eq3
    have T3 : RSt (SX pr h) (rW h) 0 H H3' := ⟨frQ_M y2, fun i i0 i1 => by rw [y4]; exact vc i i0 i1, rmc_0 y4, fun s hs r x r0 r1 x0 x1 => by show _ ≤ gi H3' 191 _; rw [y4]; exact L s hs r x r0 r1 x0 x1⟩
    obtain ⟨b, He, z1, z2, -, z4⟩ := s264f (d := d) (by omega) D R V k0' hpr (SX_r hu) vc none none (bnds (uR h (gr h 14 j)) (rW h)) H3' 0 none (UR_fr y2 U) (by rw [← eW]; exact eqf_W (frM_f y2)) T3 (fun v hv => hv) y5
    refine ⟨b, He, ?_, z2, fun v hv x hx => ?_⟩
    · rw [f264 (by omega), b264_0, s179 (by omega) _ 1 H U.1 (by omega), bk_v, e1, b264_8, s179 (by omega) _ 0 H U.1 (by omega), bk_v, e0, b264_16, if_pos k0', s179 (by omega) _ 5 H U.1 (by omega), bk_v, e5, b264_26, y1, bk_n, z1]
    · have erow : wrow (cK h) (uR h (gr h 14 j)) (rW h) v = hdc (cK h) (uR h (gr h 14 j)) v := if_pos k0'
      have ew : wcost pr (cK h) (uR h (gr h 14 j)) (rW h) (rC H) v = bcv pr (uR h (gr h 14 j)).2.2.2.1 (rW h) (rC H) v (uR h (gr h 14 j)).2.2.2.2.toNat := if_pos k0'
      rw [erow] at hx
      rw [ew]
      exact z4 v hv x hx
  · have k0' : ¬ (uR h (gr h 14 j)).1 = 0 := k0
    have k12 : (uR h (gr h 14 j)).1 = 1 ∨ (uR h (gr h 14 j)).1 = 2 := by
      show gi h (gr h 14 j) 1 = 1 ∨ gi h (gr h 14 j) 1 = 2
      omega
    obtain ⟨b, He, z1, z2, z4⟩ := s264g (d := d) (by omega) D R V hcl k12 hpr (SX_r hu) vc U eW L none none none
    refine ⟨b, He, ?_, z2, fun v hv x hx => ?_⟩
    · rw [f264 (by omega), b264_0, s179 (by omega) _ 1 H U.1 (by omega), bk_v, e1, b264_8, s179 (by omega) _ 0 H U.1 (by omega), bk_v, e0, b264_16, if_neg k0', z1]
    · have erow : wrow (cK h) (uR h (gr h 14 j)) (rW h) v = grow (cK h) (uR h (gr h 14 j)) (rW h) (gkv (cK h) (uR h (gr h 14 j)) v) := if_neg k0'
      have ew : wcost pr (cK h) (uR h (gr h 14 j)) (rW h) (rC H) v = gcv pr (uR h (gr h 14 j)).2.2.2.1 (rW h) (rC H) (uR h (gr h 14 j)).2.2.2.2.toNat (gkv (cK h) (uR h (gr h 14 j))) (gkv (cK h) (uR h (gr h 14 j)) v) (bnds (uR h (gr h 14 j)) (rW h)) := if_neg k0'
      rw [erow] at hx
      rw [ew]
      exact z4 v hv x hx
theorem psX (I : IN0 π h) {pr : Int} {Hs He : dm_H} (vs : vcR Hs) (ve : vcR He) (le : ∀ i, 0 ≤ i → i < 240 → gi He 191 i ≤ gi Hs 191 i) {u : mU} (hu : RLc h u) (v : mA) : ocv (wcost pr (cK h) u (rW h) (rC He) v) ≤ ocv (wcost pr (cK h) u (rW h) (rC Hs) v) := by
  have V := (rIN I).1
  exact ocv_mono (wcost_v (IN0_psR I) (rC_v V ve) hu v) (wcost_v (IN0_psR I) (rC_v V vs) hu v) (wcost_mono (IN0_psR I) (rC_v V ve) (rC_v V vs) (rC_le V le) hu v)
/-- one round -/
theorem s262r {d : Nat} (hd : 13 ≤ d) (I : IN0 π h) {pr : Int} (hpr : pr = 0 ∨ pr = 1) {Hs : dm_H} (cs : cqR h Hs) (vs : vcR Hs) : ∀ (m : Nat) (p b : Int) (H : dm_H), 0 ≤ p → p + m = 10 → RSt (SX pr h) (rW h) b Hs H → (∀ j, 0 ≤ j → j < gi h 13 1 → π j < p → gi h (gr h 14 j) 1 ≠ 3 → ogr pr h Hs H (uR h (gr h 14 j))) → ∃ b' He w3, dL (d - 1) 262 81 [lR 1 11 165, lI pr, lI b, lI p] [] H = dL (d - 1) 262 73 [lR 1 11 165, lI pr, lI b', w3] [] He ∧ RSt (SX pr h) (rW h) b' Hs He ∧ (∀ u, RLc h u → ogr pr h Hs He u) := by
  have B := I.2.2.1
  have J0 := I.2.2.2.1
  have V := (rIN I).1
  have prr : ∀ j, 0 ≤ j → j < gi h 13 1 → 0 ≤ π j ∧ π j < 10 := by
    intro j j0 j1
    have R := B.2.2.1 j j0 j1
    have q1 := R.2.2.2.2.2.1.1
    have q2 := R.2.2.2.2.1
    by_cases z : π j = 10
    · rw [z] at q2; exact absurd J0 q2
    · omega
  intro m
  induction m with
  | zero =>
    intro p b H p0 pm T g
    refine ⟨b, H, lI p, ?_, T, fun u hu => ?_⟩
    · rw [b262_81, if_neg (by omega)]
    · obtain ⟨j, j0, j1, j2, rfl⟩ := hu
      exact g j j0 j1 (by have := prr j j0 j1; omega) j2
  | succ m ih =>
    intro p b H p0 pm T g
    have c := cqR_q cs T.1
    have skip : (∀ j, 0 ≤ j → j < gi h 13 1 → π j = p → gi h (gr h 14 j) 1 = 3) → ∃ b' He w3, dL (d - 1) 262 115 [lR 1 11 165, lI pr, lI b, lI p] [] H = dL (d - 1) 262 73 [lR 1 11 165, lI pr, lI b', w3] [] He ∧ RSt (SX pr h) (rW h) b' Hs He ∧ (∀ u, RLc h u → ogr pr h Hs He u) := by
      intro no
      rw [b262_115, ck_p (by omega) (by omega)]
      exact ih (p + 1) b H (by omega) (by omega) T (fun j j0 j1 jp j3 => by
        by_cases e : π j = p
        · exact absurd (no j j0 j1 e) j3
        · exact g j j0 j1 (by omega) j3)
    rw [b262_81, if_pos (by omega), ix_p p0 (by omega), c.1 174 p (by omega) (by omega)]
    by_cases z : gi h 174 p = 0
    · rw [if_pos z]
      refine skip (fun j j0 j1 jp => ?_)
      have := (B.2.2.1 j j0 j1).2.2.2.2.1
      rw [jp] at this
      exact absurd z this
    rw [if_neg z]
    obtain ⟨j, j0, j1, jp⟩ := B.2.2.2.2.1 p p0 (by omega) z
    have R := B.2.2.1 j j0 j1
    have S := R.2.2.2.2.2.1
    rw [jp] at S
    have s1 := S.1
    have uniq : ∀ i, 0 ≤ i → i < gi h 13 1 → π i = p → i = j := fun i i0 i1 ip => by
      rcases Int.lt_trichotomy i j with y | y | y
      · exact absurd (ip.trans jp.symm) (B.2.2.2.1 i j i0 y j1)
      · exact y
      · exact absurd (jp.trans ip.symm) (B.2.2.2.1 j i j0 y i1)
    rw [s179 (by omega) p 0 H s1 (by omega), bk_v, Int.add_zero, c.1 172 (38 * p) (by omega) (by omega), S.2.1, b262_102]
    by_cases k3 : gi h (gr h 14 j) 1 = 3
    · rw [if_pos k3]
      exact skip (fun i i0 i1 ip => by rw [uniq i i0 i1 ip]; exact k3)
    · obtain ⟨b2, H2, y1, y2, y3⟩ := s264 (d := d - 1) (by omega) I hpr j0 j1 k3 c T.2.1 T.2.2.2
      rw [jp] at y1
      obtain ⟨b', He, w3, z1, z2⟩ := ih (p + 1) (dm_or b b2) H2 (by omega) (by omega) ⟨frQ_t T.1 y2.1, y2.2.1, rmc_t T.2.2.1 y2.2.2.1, y2.2.2.2⟩ (fun i i0 i1 ip i3 => by
        have hu : RLc h (uR h (gr h 14 i)) := ⟨i, i0, i1, i3, rfl⟩
        by_cases e : π i = p
        · have := uniq i i0 i1 e
          subst this
          intro v hv x hx
          exact Int.le_trans (y3 v hv x hx) (psX I vs T.2.1 T.2.2.1.2.1 hu v)
        · intro v hv x hx
          have a := g i i0 i1 (by omega) i3 v hv x hx
          have r := ((IN0_psR I) _ hu).1
          have b := y2.2.2.1.2.1 (40 * (uR h (gr h 14 i)).2.1 + x) (by have := hx.1.1; omega) (by have := hx.1.2; have := (V _ r.1 r.2).1.2; omega)
          have e1 : rC H2 (uR h (gr h 14 i)).2.1 x = gi H2 191 (40 * (uR h (gr h 14 i)).2.1 + x) := rfl
          have e2 : rC H (uR h (gr h 14 i)).2.1 x = gi H 191 (40 * (uR h (gr h 14 i)).2.1 + x) := rfl
          omega)
      refine ⟨b', He, w3, ?_, z2⟩
      rw [if_neg k3, y1, bk_v, b262_113, b262_115, ck_p (by omega) (by omega), z1]
end RFC
