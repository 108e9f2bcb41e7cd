/-! THE CALL ways -/
section OWY
variable {h : dm_H} {π : Int → Int}
/-- what rule j adds -/
noncomputable def fCj (h : dm_H) (r c : Int) (j : Int) : Int := if gi h (gr h 14 j) 1 ≠ 3 ∧ gi h (gr h 14 j) 2 = r then wyv (cK h) (uR h (gr h 14 j)) (cW h (gr h 1 8)) c else 0
theorem wyv_r (I : IN0 π h) (r c : Int) {j : Int} (j0 : 0 ≤ j) (j1 : j < gi h 13 1) : 0 ≤ fCj h r c j ∧ fCj h r c j ≤ 999999 := by
  have V : VW (cK h) (gi h 4) (cW h (gr h 1 8)) := I.2.2.2.2.2.2.2.2.2.2.2.2.2.2.2.1
  have R := RIN_c (I.2.2.1.2.2.1 j j0 j1)
  have GG := GWc I.1.1 R V
  have bl := bnd_len (ρ := cR h (gr h 14 j)) (ω := cW h (gr h 1 8)) (N := gi h (gr h 14 j) 4) (fun k k0 k1 z => by
    rcases GG.2 k k0 k1 with w | w | w
    · exact (V _ w.2.1.1 w.2.1.2).1
    · exact (V _ w.2.1.1 w.2.1.2).1
    · rcases w.1 with y | y <;> omega) (gi h (gr h 14 j) 4).toNat 0 v0 (by omega) (by have := GG.1; omega)
  have ba := abfc R
  have e : (bnds (uR h (gr h 14 j)) (cW h (gr h 1 8))).length = (bnd (cR h (gr h 14 j)) (cW h (gr h 1 8)) (gi h (gr h 14 j) 4).toNat 0 v0).length := rfl
  unfold fCj
  split
  · unfold wyv
    split
    · have := List.length_filter_le (fun v => decide (hdc (cK h) (uR h (gr h 14 j)) v = c)) (bnds (uR h (gr h 14 j)) (cW h (gr h 1 8)))
      omega
    · split <;> omega
  · omega
theorem wyv_e {cl kd ly : Int → Int} {oc : Int → Int → Prop} {u : mU} {ω ω' : mW} (D : DC cl kd) (R : RU cl kd ly oc u) (V : VW cl kd ω) (e : eqW ω ω') (c : Int) : wyv cl u ω' c = wyv cl u ω c := by
  have V' := eqW_VW e V
  have G := RU_GW D R V
  have eb : bnds u ω' = bnds u ω := bnd_eqW (N := u.2.2.2.2) e (fun k k0 k1 q => by
    rcases G.2 k k0 k1 with z | z | z
    · exact z.2.1
    · exact z.2.1
    · rcases z.1 with w | w <;> omega) _ 0 v0 (by omega) (by have := G.1; omega)
  unfold wyv
  rw [eb]
  split
  · rfl
  · by_cases q : mkd cl u ω c
    · rw [@if_pos _ (Classical.propDecidable _) q, @if_pos _ (Classical.propDecidable _) (mkd_e D R V V' e q)]
    · rw [@if_neg _ (Classical.propDecidable _) q, @if_neg _ (Classical.propDecidable _) (fun w => q (mkd_e D R V' V (eqW_symm e) w))]
theorem s147l {d : Nat} (hd : 10 ≤ d) (I : IN0 π h) (S : still h (gr h 1 8)) {r c f0 : Int} (hr : 0 ≤ r ∧ r < 6) (hc : vcd (cK h r) c) (hf : f0 = 0 ∨ f0 = 1) (w2 w3 w4 : Option dm_V) : ∀ (m : Nat) (x : Int) (H : dm_H) (w8 : Option dm_V), 0 ≤ x → x + m = gi h 13 1 → fpx h H → ∃ H', dL (d - 1) 147 51 [lR 1 10 1, lI r, w2, w3, w4, lI c, lI (f0 + sumI (fCj h r c) x.toNat), lI x, w8] [] H = rI (f0 + sumI (fCj h r c) (gi h 13 1).toNat) H' ∧ fpx h H' := by
  have hW := I.2.2.2.2.2.2.2.2.2.1
  have hQ : gr h 1 9 = 95 ∨ gr h 1 9 = 112 := hW.2.1
  have hn := I.2.2.1.1
  intro m
  induction m with
  | zero =>
    intro x H w8 x0 xm f
    refine ⟨H, ?_, f⟩
    rw [b147_51, f.1 13 1 (by omega) (by omega) (by omega), if_neg (by omega), show x = gi h 13 1 by omega]
  | succ m ih =>
    intro x H w8 x0 xm f
    have y := fpx_at I f x0 (show x < gi h 13 1 by omega)
    obtain ⟨y1, y2, y3, y4, y5, y6, y7, y8, y9, y10, y11⟩ := y
    have sr := sumI_r (f := fCj h r c) (M := 999999) (by omega) x.toNat (fun z z0 z1 => wyv_r I r c z0 (by omega))
    have fr := wyv_r I r c x0 (show x < gi h 13 1 by omega)
    have on : ∀ (H2 : dm_H) (z : Int) (w8 : Option dm_V), fpx h H2 → z = f0 + sumI (fCj h r c) (x + 1).toNat → ∃ H', dL (d - 1) 147 106 [lR 1 10 1, lI r, w2, w3, w4, lI c, lI z, lI x, w8] [] H2 = rI (f0 + sumI (fCj h r c) (gi h 13 1).toNat) H' ∧ fpx h H' := by
      rintro H2 z w8 f2 rfl
      rw [b147_106, ck_p (by omega) (by omega)]
      exact ih (x + 1) H2 w8 (by omega) (by omega) f2
    have ss := sumI_s (f := fCj h r c) x0
    rw [b147_51, f.1 13 1 (by omega) (by omega) (by omega), if_pos (by omega), ix_p x0 (by omega), y10, y4, y4]
    by_cases k3 : gi h (gr h 14 x) 1 = 3
    · rw [if_pos k3]
      refine on H _ _ f ?_
      rw [ss]
      unfold fCj
      rw [if_neg (fun q => q.1 k3)]
      omega
    rw [if_neg k3]
    by_cases kr : gi h (gr h 14 x) 2 = r
    case neg =>
      rw [if_neg kr]
      refine on H _ _ f ?_
      rw [ss]
      unfold fCj
      rw [if_neg (fun q => kr q.2)]
      omega
    rw [if_pos kr]
    have hk := (I.2.2.1.2.2.1 x x0 (by omega)).2.1.1
    have w : ∃ H', dF (d - 1) 148 [dR 1 10 1, dR 1 8 (gr h 14 x), dI c] H = rI (wyv (cK h) (uR h (gr h 14 x)) (cW h (gr h 1 8)) c) H' ∧ fpx h H' := by
      by_cases k0 : gi h (gr h 14 x) 1 = 0
      · exact s148f (by omega) I S f x0 (by omega) k0 (by rw [kr]; exact hc)
      · exact s148g (by omega) I S f x0 (by omega) (by omega) (by rw [kr]; exact hc)
    obtain ⟨H', x1, x2⟩ := w
    have e : fCj h r c x = wyv (cK h) (uR h (gr h 14 x)) (cW h (gr h 1 8)) c := by
      unfold fCj
      rw [if_pos ⟨k3, kr⟩]
    have x000 : (x.toNat : Int) ≤ 9 := by omega
    have sb : sumI (fCj h r c) x.toNat ≤ 8999991 := by
      have : (x.toNat : Int) * 999999 ≤ 9 * 999999 := Int.mul_le_mul_of_nonneg_right x000 (by omega)
      omega
    rw [x1, bk_v, b147_103, ← e, ck_p (by omega) (by omega)]
    exact on H' _ _ x2 (by rw [ss]; omega)
/-- the reference adds rule by rule -/
theorem s259l {d : Nat} (hd : 11 ≤ d) (I : IN0 π h) {r c f0 : Int} (hr : 0 ≤ r ∧ r < 6) (hc : vcd (cK h r) c) (hf : f0 = 0 ∨ f0 = 1) {G0 : dm_H} (fG : ∀ a i, 166 ≤ a → a ≤ 178 → gi G0 a i = gi h a i) (w2 w3 w4 : Option dm_V) : ∀ (m : Nat) (p : Int) (H : dm_H) (w8 w9 : Option dm_V), 0 ≤ p → p + m = 10 → frM G0 H → ∃ H', dL (d - 1) 259 45 [lR 1 11 165, lI r, w2, w3, w4, lI c, lI (f0 + sumI (fun p => sumI (fun j => if π j = p then fCj h r c j else 0) (gi h 13 1).toNat) p.toNat), lI p, w8, w9] [] H = rI (f0 + sumI (fun p => sumI (fun j => if π j = p then fCj h r c j else 0) (gi h 13 1).toNat) 10) H' ∧ frM G0 H' := by
  have hW := I.2.2.2.2.2.2.2.2.2.1
  have B := I.2.2.1
  have hn := B.1
  have D := DC_of I.1.1
  have V : VW (cK h) (gi h 4) (cW h (gr h 1 8)) := I.2.2.2.2.2.2.2.2.2.2.2.2.2.2.2.1
  have E : eqW (cW h (gr h 1 8)) (rW h) := I.2.2.2.2.2.2.2.2.2.2.2.1
  have Vr := eqW_VW E V
  obtain ⟨hl, hUr, hU⟩ := lay12 I
  have gd : gds (cK h) (gi h 4) (gi h 7) (ftC h (gi h 1 12) (-1) (-1)) (RLc h) 12 (rW h) := eqW_gds D hU E I.2.2.2.2.2.2.2.2.2.2.2.2.2.2.2
  have cell : ∀ H, frM G0 H → (∀ i, gi H 172 i = gi h 172 i) ∧ (∀ i, gi H 166 i = gi h 166 i) ∧ (∀ i, gi H 167 i = gi h 167 i) ∧ (∀ i, gi H 174 i = gi h 174 i) ∧ rW H = rW h := by
    intro H f
    have e : eqf h G0 := ⟨fun i => fG _ _ (by omega) (by omega), fun i => fG _ _ (by omega) (by omega), fun i => fG _ _ (by omega) (by omega), fun i => fG _ _ (by omega) (by omega)⟩
    have e2 := frM_f f
    refine ⟨fun i => (e2.1 i).trans (e.1 i), fun i => (e2.2.1 i).trans (e.2.1 i), fun i => (f.1 _ _ (by omega) (by omega) (by omega) (by omega)).trans (fG _ _ (by omega) (by omega)), fun i => (f.1 _ _ (by omega) (by omega) (by omega) (by omega)).trans (fG _ _ (by omega) (by omega)), (eqf_W e2).trans (eqf_W e)⟩
  have inr : ∀ (p : Int), 0 ≤ sumI (fun j => if π j = p then fCj h r c j else 0) (gi h 13 1).toNat ∧ sumI (fun j => if π j = p then fCj h r c j else 0) (gi h 13 1).toNat ≤ 999999 := by
    intro p
    by_cases z : ∃ j, 0 ≤ j ∧ j < gi h 13 1 ∧ π j = p
    · obtain ⟨j, j0, j1, jp⟩ := z
      rw [sumI_1 (f := fun j => if π j = p then fCj h r c j else 0) (a := j) _ j0 (by omega) (fun x x0 x1 q => if_neg (fun w => by
        rcases Int.lt_trichotomy x j with y | y | y
        · exact B.2.2.2.1 x j x0 y j1 (w.trans jp.symm)
        · exact q y
        · exact B.2.2.2.1 j x j0 y (by omega) (jp.trans w.symm))), if_pos jp]
      exact wyv_r I r c j0 j1
    · rw [sumI_0 _ (fun x x0 x1 => if_neg (fun w => z ⟨x, x0, by omega, w⟩))]
      omega
  have one : ∀ j, 0 ≤ j → j < gi h 13 1 → sumI (fun i => if π i = π j then fCj h r c i else 0) (gi h 13 1).toNat = fCj h r c j := by
    intro j j0 j1
    rw [sumI_1 (f := fun i => if π i = π j then fCj h r c i else 0) (a := j) _ j0 (by omega) (fun x x0 x1 q => if_neg (fun w => by
      rcases Int.lt_trichotomy x j with y | y | y
      · exact B.2.2.2.1 x j x0 y j1 w
      · exact q y
      · exact B.2.2.2.1 j x j0 y (by omega) w.symm)), if_pos rfl]
  intro m
  induction m with
  | zero =>
    intro p H w8 w9 p0 pm f
    refine ⟨H, ?_, f⟩
    rw [b259_45, if_neg (by omega), show p = 10 by omega]
    rfl
  | succ m ih =>
    intro p H w8 w9 p0 pm f
    obtain ⟨c1, c2, c3, c4, c5⟩ := cell H f
    have ss := sumI_s (f := fun p => sumI (fun j => if π j = p then fCj h r c j else 0) (gi h 13 1).toNat) p0
    have sr := sumI_r (f := fun p => sumI (fun j => if π j = p then fCj h r c j else 0) (gi h 13 1).toNat) (M := 999999) (by omega) p.toNat (fun z _ _ => inr z)
    have x000 : (p.toNat : Int) ≤ 9 := by omega
    have sb : sumI (fun p => sumI (fun j => if π j = p then fCj h r c j else 0) (gi h 13 1).toNat) p.toNat ≤ 8999991 := by
      have : (p.toNat : Int) * 999999 ≤ 9 * 999999 := Int.mul_le_mul_of_nonneg_right x000 (by omega)
      omega
    have on : ∀ (H2 : dm_H) (z : Int) (w8 w9 : Option dm_V), frM G0 H2 → z = f0 + sumI (fun p => sumI (fun j => if π j = p then fCj h r c j else 0) (gi h 13 1).toNat) (p + 1).toNat → ∃ H', dL (d - 1) 259 208 [lR 1 11 165, lI r, w2, w3, w4, lI c, lI z, lI p, w8, w9] [] H2 = rI (f0 + sumI (fun p => sumI (fun j => if π j = p then fCj h r c j else 0) (gi h 13 1).toNat) 10) H' ∧ frM G0 H' := by
      rintro H2 z w8 w9 f2 rfl
      rw [b259_208, ck_p (by omega) (by omega)]
      exact ih (p + 1) H2 w8 w9 (by omega) (by omega) f2
    have none0 : sumI (fun j => if π j = p then fCj h r c j else 0) (gi h 13 1).toNat = 0 → ∃ H', dL (d - 1) 259 88 [lR 1 11 165, lI r, w2, w3, w4, lI c, lI (f0 + sumI (fun p => sumI (fun j => if π j = p then fCj h r c j else 0) (gi h 13 1).toNat) p.toNat), lI p, w8, w9] [] H = rI (f0 + sumI (fun p => sumI (fun j => if π j = p then fCj h r c j else 0) (gi h 13 1).toNat) 10) H' ∧ frM G0 H' := by
      intro z
      rw [b259_88, b259_89, if_pos rfl, b259_156, if_pos rfl]
      refine on H _ _ _ f ?_
      rw [ss, z]
      omega
    rw [b259_45, if_pos (by omega), ix_p p0 (by omega), c4]
    by_cases z : gi h 174 p = 0
    · rw [if_pos z]
      refine none0 (sumI_0 _ (fun x x0 x1 => if_neg (fun w => ?_)))
      have := (B.2.2.1 x x0 (by omega)).2.2.2.2.1
      rw [w] at this
      exact this z
    rw [if_neg z]
    obtain ⟨j, j0, j1, jp⟩ := B.2.2.2.2.1 p p0 (by omega) z
    have R := B.2.2.1 j j0 j1
    have S := R.2.2.2.2.2.1
    have o := one j j0 j1
    rw [jp] at o S
    have s1 := S.1
    rw [s179 (by omega) p 0 H s1 (by omega), bk_v, Int.add_zero, c1, S.2.1, b259_69]
    by_cases k3 : gi h (gr h 14 j) 1 = 3
    · rw [if_pos k3]
      refine none0 ?_
      rw [o]
      unfold fCj
      rw [if_neg (fun q => q.1 k3)]
    rw [if_neg k3, s179 (by omega) p 1 H s1 (by omega), bk_v, c1, S.2.2.1, b259_80]
    by_cases kr : gi h (gr h 14 j) 2 = r
    case neg =>
      rw [if_neg kr]
      refine none0 ?_
      rw [o]
      unfold fCj
      rw [if_neg (fun q => kr q.2)]
    have eo : fCj h r c j = wyv (cK h) (uR h (gr h 14 j)) (cW h (gr h 1 8)) c := by
      unfold fCj
      rw [if_pos ⟨k3, kr⟩]
    have hu := hU _ ⟨j, j0, j1, k3, rfl⟩
    have ew := wyv_e D hu V E c
    have U0 : UR (cK h) (gi h 4) (uR h (gr h 14 j)) p h := by
      have := RIN_UR I.1 R k3
      rw [jp] at this
      exact this
    have U := UR_c c1 c2 c3 U0
    have hcu : vcd (cK h (uR h (gr h 14 j)).2.1) c := by
      show vcd (cK h (gi h (gr h 14 j) 2)) c
      rw [kr]; exact hc
    have fr := wyv_r I r c j0 j1
    rw [if_pos kr, b259_89, if_neg (by decide), s179 (by omega) p 0 H s1 (by omega), bk_v, Int.add_zero, c1, S.2.1, b259_103]
    by_cases k0 : gi h (gr h 14 j) 1 = 0
    · rw [if_pos k0, s179 (by omega) p 5 H s1 (by omega), bk_v, c1, S.2.2.2.2.1, b259_114]
      have VH : VW (cK h) (gi h 4) (rW H) := by rw [c5]; exact Vr
      obtain ⟨H1, t1, t2, -, -, t3⟩ := s189u (d := d - 1) (by omega) D U hu VH
      have t1 : dF (d - 1) 189 [dR 1 11 165, dI (gi h (gr h 14 j) 4)] H = rV H1 := t1
      have eW1 : rW H1 = rW h := by rw [eqf_W (frM_f t2), c5]
      rw [c5] at t3
      have hlen : ((bnds (uR h (gr h 14 j)) (rW h)).length : Int) ≤ 999999 := by
        have GG := GWc I.1.1 (RIN_c R) Vr
        have bl := bnd_len (ρ := cR h (gr h 14 j)) (ω := rW h) (N := gi h (gr h 14 j) 4) (fun k k0 k1 z => by
          rcases GG.2 k k0 k1 with w | w | w
          · exact (Vr _ w.2.1.1 w.2.1.2).1
          · exact (Vr _ w.2.1.1 w.2.1.2).1
          · rcases w.1 with y | y <;> omega) (gi h (gr h 14 j) 4).toNat 0 v0 (by omega) (by have := GG.1; omega)
        have ba := abfc (RIN_c R)
        have e : (bnds (uR h (gr h 14 j)) (rW h)).length = (bnd (cR h (gr h 14 j)) (rW h) (gi h (gr h 14 j) 4).toNat 0 v0).length := rfl
        omega
      obtain ⟨H2, u1, u2⟩ := s259f (d := d) (by omega) (H0 := G0) (c := c) D hu Vr (show (uR h (gr h 14 j)).1 = 0 from k0) hcu r w2 w3 w4 (lI 1) w9 (bnds (uR h (gr h 14 j)) (rW h)) H1 (f0 + sumI (fun p => sumI (fun j => if π j = p then fCj h r c j else 0) (gi h 13 1).toNat) p.toNat) (UR_fr t2 U) eW1 (frM_trans f t2) (fun _ hv => hv) (by rw [eW1]; rw [eW1] at t3; exact t3) (by omega) (by omega)
      rw [t1, bk_n, u1]
      refine on H2 _ _ _ u2 ?_
      rw [ss, o, eo, ← ew]
      unfold wyv
      rw [if_pos (show (uR h (gr h 14 j)).1 = 0 from k0)]
      omega
    · have hk := R.2.1.1
      rw [if_neg k0]
      obtain ⟨H', y8, y9, u1, u2⟩ := s259g (d := d) (by omega) (H := H) (c := c) (x := f0 + sumI (fun p => sumI (fun j => if π j = p then fCj h r c j else 0) (gi h 13 1).toNat) p.toNat) D U hu (by rw [c5]; exact Vr) (show (uR h (gr h 14 j)).1 = 1 ∨ (uR h (gr h 14 j)).1 = 2 by show gi h (gr h 14 j) 1 = 1 ∨ gi h (gr h 14 j) 1 = 2; omega) (by
        rw [c5]
        intro c' m
        have h7 := hl (gi h (gr h 14 j) 2) hu.2.1.1 hu.2.1.2
        exact (gd.2 _ h7.1 h7.2).1.2 _ ⟨j, j0, j1, k3, rfl⟩ trivial rfl c' m) ⟨by omega, by omega⟩ r w2 w3 w4 w9
      rw [u1]
      refine on H' _ _ _ (frM_trans f u2) ?_
      rw [ss, o, eo, ← ew, c5]
      omega
theorem op_ways {d : Nat} (hd : 13 ≤ d) (I : IN0 π h) (S : still h (gr h 1 8)) (r a b c : Int) : ∃ k h1 v h2, dF d 146 [dR 1 10 1, dI r, dI a, dI b, dI c, dR 4 1 196] h = rI k h1 ∧ dF d 259 [dR 1 11 165, dI r, dI a, dI b, dI c] h1 = rI v h2 ∧ gi h2 165 0 = k ∧ (k = 0 → gl h2 0 = v) ∧ IN0 π h2 ∧ frZ h h2 ∧ rm h h2 := by
  have n6 := I.1.1.1
  obtain ⟨a1, a2, a3⟩ := thr_all I 1
  obtain ⟨b1, b2, b3⟩ := thr_all I 2
  obtain ⟨r1, r2, r3⟩ := s245 (d := d - 1) (H := sg h 6) (by omega) I (fun _ _ _ => rfl) r a b c
  have wr : ∀ (x : dm_O), dF (d - 1) 147 [dR 1 10 1, dI r, dI a, dI b, dI c] h = x → (∀ v h', x = rI v h' → dF d 146 [dR 1 10 1, dI r, dI a, dI b, dI c, dR 4 1 196] h = rI 0 (sl h' 0 v)) ∧ (∀ h', x = rX 0 h' → dF d 146 [dR 1 10 1, dI r, dI a, dI b, dI c, dR 4 1 196] h = rI 1 h') ∧ ∀ h', x = rX 1 h' → dF d 146 [dR 1 10 1, dI r, dI a, dI b, dI c, dR 4 1 196] h = rI 2 h' := by
    intro x e
    rw [f146 (by omega), b146_0, e]
    refine ⟨fun v h' ex => ?_, fun h' ex => ?_, fun h' ex => ?_⟩
    · rw [ex, bk_v, b146_12, ix_p (by omega) (by omega)]
    · rw [ex, bk_c (g := 17) (j := 6) (n := 2) (L' := [lR 1 10 1, lI r, lI a, lI b, lI c, lR 4 1 196, none]) rfl (fun f => rfl)]
      exact b146_19 _ _ _ _ _ _ _ _ _
    · rw [ex, bk_c (g := 21) (j := 6) (n := 2) (L' := [lR 1 10 1, lI r, lI a, lI b, lI c, lR 4 1 196, none]) rfl (fun f => rfl)]
      exact b146_23 _ _ _ _ _ _ _ _ _
  obtain ⟨w1, w2, w3⟩ := wr _ rfl
  have e172 : ∀ H, ∃ x, dF (d - 1) 172 [dI a, dI b, dI c] H = rI x H := fun H => ⟨_, by rw [f172 (by omega), b172_0]⟩
  rcases s72 (h := h) (d := d - 1 - 1) (by omega) r a b c n6 with ⟨y, e⟩ | ⟨y, y2, e⟩ | ⟨y, y2, e⟩
  · have c0 : dF (d - 1) 147 [dR 1 10 1, dI r, dI a, dI b, dI c] h = rX 0 (sg h 6) := by rw [f147 (by omega), b147_0, e, bk_x rfl]
    obtain ⟨x, ex⟩ := e172 (sg h 6)
    refine ⟨1, _, 0, _, w2 _ c0, ?_, thr0, fun q => by omega, a1, a2, a3⟩
    rw [f259 (by omega), b259_0, ex, bk_v, b259_7, r1 y, bk_v, b259_18, if_pos rfl]
  · have c0 : dF (d - 1) 147 [dR 1 10 1, dI r, dI a, dI b, dI c] h = rX 1 (sg h 6) := by rw [f147 (by omega), b147_0, e, bk_x rfl]
    obtain ⟨x, ex⟩ := e172 (sg h 6)
    refine ⟨2, _, 0, _, w3 _ c0, ?_, thr0, fun q => by omega, b1, b2, b3⟩
    rw [f259 (by omega), b259_0, ex, bk_v, b259_7, r2 y y2, bk_v, b259_18, if_pos rfl]
  have hr6 : 0 ≤ r ∧ r < 6 := by omega
  obtain ⟨z1, z2, z3⟩ := rows_z I r y.1 (by omega)
  have ha := wit_99 y2 (by omega) (by omega)
  have rz : 0 ≤ rsz h (gr h 1 8) r ∧ rsz h (gr h 1 8) r ≤ 32 := by omega
  have F := I.2.2.2.2.2.2.2.2.1
  have hQ : gr h 1 9 = 95 ∨ gr h 1 9 = 112 := I.2.2.2.2.2.2.2.2.2.1.2.1
  have hcd : vcd (cK h r) (a * 10000 + b * 100 + c) := by
    have hk := cK_c I.1.1 y.1 y.2
    rw [hk.1]
    exact vcd_w hk.2 y2
  by_cases hp : plc h (gr h 1 8) r (a * 10000 + b * 100 + c) = -1
  · have c0 : dF (d - 1) 147 [dR 1 10 1, dI r, dI a, dI b, dI c] h = rI 0 h := by
      rw [f147 (by omega), b147_0, e, bk_v, b147_9, s28 (by omega) hr6 rz, bk_v, b147_21, if_pos hp]
    have s := same_all (h' := si (sl h 0 0) 165 0 0) I (fun a i p _ => gi_t a i p) (fun _ _ => rfl)
    obtain ⟨-, -, q3⟩ := s245 (d := d - 1) (H := sl h 0 0) (by omega) I (fun _ _ _ => rfl) r a b c
    obtain ⟨x, ex⟩ := e172 (sl h 0 0)
    refine ⟨0, _, 0, _, w1 _ _ c0, ?_, thr0, fun _ => by rw [gl_si, gl_sl, if_pos rfl], s.1, s.2, rm_0 _ 0⟩
    rw [f259 (by omega), b259_0, ex, bk_v, b259_7, q3 y y2, hp, bk_v, b259_18, if_pos rfl]
  obtain ⟨g0, eg0⟩ : ∃ g0 : Int, g0 = if fpl (fL 9 h) (gi h 8 0) r (a * 10000 + b * 100 + c) = -1 then 0 else 1 := ⟨_, rfl⟩
  have g01 : g0 = 0 ∨ g0 = 1 := by rw [eg0]; split <;> omega
  obtain ⟨h', x1, x2⟩ := s147l (d := d - 1) (by omega) I S hr6 hcd g01 (lI a) (lI b) (lI c) (gi h 13 1).toNat 0 h none (by omega) (by have := I.2.2.1.1; omega) (fpx_refl h)
  have x1 : dL (d - 1 - 1) 147 51 [lR 1 10 1, lI r, lI a, lI b, lI c, lI (a * 10000 + b * 100 + c), lI g0, lI 0, none] [] h = rI (g0 + sumI (fCj h r (a * 10000 + b * 100 + c)) (gi h 13 1).toNat) h' := by
    have e0 : g0 + sumI (fCj h r (a * 10000 + b * 100 + c)) (0 : Int).toNat = g0 := by show g0 + 0 = g0; omega
    rw [e0] at x1
    exact x1
  generalize eV : g0 + sumI (fCj h r (a * 10000 + b * 100 + c)) (gi h 13 1).toNat = W at x1
  have c0 : dF (d - 1) 147 [dR 1 10 1, dI r, dI a, dI b, dI c] h = rI W h' := by
    rw [f147 (by omega), b147_0, e, bk_v, b147_9, s28 (by omega) hr6 rz, bk_v, b147_21, if_neg hp, s78 (by omega) r _ F.1.1, bk_v, b147_37]
    by_cases q : fpl (fL 9 h) (gi h 8 0) r (a * 10000 + b * 100 + c) = -1
    · rw [if_pos q] at eg0 ⊢
      rw [eg0] at x1
      rw [b147_46]; exact x1
    · rw [if_neg q] at eg0 ⊢
      rw [eg0] at x1
      rw [b147_46]; exact x1
  -- the reference
  have s0 := spare_all (h' := h') I (fun a i p q t _ _ => x2.1 a i p q t) x2.2.1
  obtain ⟨-, -, q3⟩ := s245 (d := d - 1) (h := h') (H := sl h' 0 W) (by omega) s0.1 (fun _ _ _ => rfl) r a b c
  have e3 : gi h' 3 r = gi h 3 r := x2.1 _ _ (by omega) (by omega) (by omega)
  have e20 : gi h' 2 0 = gi h 2 0 := x2.1 _ _ (by omega) (by omega) (by omega)
  have ep : plc h' (gr h' 1 8) r (a * 10000 + b * 100 + c) = plc h (gr h 1 8) r (a * 10000 + b * 100 + c) := by
    have := plc_eq (π := π) s0.1 (H := h') (fun _ => rfl) (fun _ => rfl) (r := r) (c := a * 10000 + b * 100 + c) (by omega)
    rw [← this]
    exact plc_eq I (fun i => x2.1 _ _ (by omega) (by omega) (by omega)) (fun i => x2.1 _ _ (by omega) (by omega) (by omega)) (by omega)
  rw [e3, e20, ep] at q3
  obtain ⟨G0, eG0⟩ : ∃ G0, G0 = si (sl h' 0 W) 165 0 0 := ⟨_, rfl⟩
  rw [← eG0] at q3
  have gG : ∀ a i, ¬ (a = 165 ∧ i = 0) → gi G0 a i = gi h' a i := fun a i q => by rw [eG0]; exact gi_t a i q
  have fG : ∀ a i, 144 ≤ a → ¬ (a = 165 ∧ i = 0) → gi G0 a i = gi h a i := fun a i q w => by rw [gG a i w, x2.1 a i (by omega) (by omega) (by omega)]
  obtain ⟨H2, u1, u2⟩ := s259l (d := d) (by omega) I hr6 hcd g01 (G0 := G0) (fun a i p q => fG a i (by omega) (by omega)) (lI a) (lI b) (lI c) 10 0 G0 none none (by omega) (by omega) (frM_refl G0)
  have u1 : dL (d - 1) 259 45 [lR 1 11 165, lI r, lI a, lI b, lI c, lI (a * 10000 + b * 100 + c), lI g0, lI 0, none, none] [] G0 = rI W H2 := by
    have e0 : g0 + sumI (fun p => sumI (fun j => if π j = p then fCj h r (a * 10000 + b * 100 + c) j else 0) (gi h 13 1).toNat) (0 : Int).toNat = g0 := by show g0 + 0 = g0; omega
    rw [e0, sumI_pi (f := fCj h r (a * 10000 + b * 100 + c)) (π := π) (n := gi h 13 1) (m := 10) I.2.2.1.1.1 (fun j j0 j1 => by
      have R := I.2.2.1.2.2.1 j j0 j1
      have q1 := R.2.2.2.2.2.1.1
      have q2 := R.2.2.2.2.1
      have J0 := I.2.2.2.1
      by_cases z : π j = 10
      · rw [z] at q2; exact absurd J0 q2
      · omega) (fun i j i0 ij j1 => I.2.2.1.2.2.2.1 i j i0 ij j1), eV] at u1
    exact u1
  have s := spare_all (h' := H2) I (fun a i p q t u w => by
    rw [u2.1 a i (by omega) (by omega) (by omega) (by omega), gG a i (by omega), x2.1 a i p q t]) (fun a i p => by
    rw [u2.2.1 a i, eG0]; exact x2.2.1 a i p)
  have ec : 10000 * a + 100 * b + c = a * 10000 + b * 100 + c := by omega
  have e5 : gi G0 165 5 = gi h 165 5 := fG _ _ (by omega) (by omega)
  have el : fL 168 G0 = fL 168 h := by
    funext p
    unfold fL
    rw [fG 168 p (by omega) (by omega), fG (168 + 1) p (by omega) (by omega), fG (168 + 2) p (by omega) (by omega), fG (168 + 3) p (by omega) (by omega)]
  refine ⟨0, _, W, H2, w1 _ _ c0, ?_, ?_, fun _ => ?_, s.1, s.2, rm_3 ?_ (ct_e (by rw [u2.1 _ _ (by omega) (by omega) (by omega) (by omega) , gG _ _ (by omega), x2.1 _ _ (by have hq : gr h 1 9 = 95 ∨ gr h 1 9 = 112 := I.2.2.2.2.2.2.2.2.2.1.2.1; omega) (by have hq : gr h 1 9 = 95 ∨ gr h 1 9 = 112 := I.2.2.2.2.2.2.2.2.2.1.2.1; omega) (by have hq : gr h 1 9 = 95 ∨ gr h 1 9 = 112 := I.2.2.2.2.2.2.2.2.2.1.2.1; omega) ]) (by rw [u2.1 _ _ (by omega) (by omega) (by omega) (by omega) , gG _ _ (by omega), x2.1 _ _ (by have hq : gr h 1 9 = 95 ∨ gr h 1 9 = 112 := I.2.2.2.2.2.2.2.2.2.1.2.1; omega) (by have hq : gr h 1 9 = 95 ∨ gr h 1 9 = 112 := I.2.2.2.2.2.2.2.2.2.1.2.1; omega) (by have hq : gr h 1 9 = 95 ∨ gr h 1 9 = 112 := I.2.2.2.2.2.2.2.2.2.1.2.1; omega) ]))⟩
  · rw [f259 (by omega), b259_0, s172 (by omega) _ ha.1 ha.2.1 ha.2.2, bk_v, b259_7, q3 y y2, bk_v, b259_18, if_neg hp, ec, s173 (by omega) r _ (by rw [e5, F.2.2.1]; exact F.1.1), bk_v, e5, el, fpl_same F, b259_31]
    by_cases q : fpl (fL 9 h) (gi h 8 0) r (a * 10000 + b * 100 + c) = -1
    · rw [if_pos q] at eg0 ⊢
      rw [eg0] at u1
      rw [b259_40]; exact u1
    · rw [if_neg q] at eg0 ⊢
      rw [eg0] at u1
      rw [b259_40]; exact u1
  · rw [u2.1 _ _ (by omega) (by omega) (by omega) (by omega), eG0, thr0]
  · have e : H2.2.2 = (sl h' 0 W).2.2 := by rw [u2.2.2, eG0]; rfl
    show H2.2.2.1 0 = _
    rw [e]
    show gl (sl h' 0 W) 0 = _
    rw [gl_sl, if_pos rfl]
  · rw [u2.2.2, eG0]
    show h'.2.2.2 = h.2.2.2
    rw [x2.2.2]
end OWY
