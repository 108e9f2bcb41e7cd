/-! COSTS: the reference goes through a rule -/
section RRL
variable {cl kd ly : Int → Int} {oc : Int → Int → Prop} {u : mU} {p : Int} {h Hs : dm_H} {S : (Int → Int → Int) → Prop}
theorem unc_o {X B : Int} (q : unc X B) : cst (if X = 1000000 then 1000000 else X + 1) = ocv B ∧ 0 ≤ (if X = 1000000 then 1000000 else X + 1) ∧ (X ≠ 1000000 → X + 1 ≤ 50000 ∧ 0 ≤ X) := by
  rcases q with ⟨rfl, rfl⟩ | ⟨q1, q2⟩
  · rw [if_pos rfl]
    exact ⟨rfl, by omega, fun z => absurd rfl z⟩
  · have hX : X ≠ 1000000 := by omega
    rw [if_neg hX]
    refine ⟨?_, by omega, fun _ => by omega⟩
    have hB : B ≠ 1000000 := by rw [← q2]; unfold m9; split <;> omega
    unfold ocv cst
    rw [if_neg hB, if_pos (by omega), ← q2]
    unfold m9
    repeat' split
    all_goals omega
theorem rC_v {ω : mW} (V : VW cl kd ω) (vc : vcR h) : vcf ω (rC h) := fun r x r0 r1 x0 x1 => vc _ (by omega) (by have := (V r r0 r1).1.2; omega)
theorem rC_le {ω : mW} (V : VW cl kd ω) {h h' : dm_H} (a : ∀ i, 0 ≤ i → i < 240 → gi h' 191 i ≤ gi h 191 i) : lef ω (rC h') (rC h) := fun r x r0 r1 x0 x1 => a _ (by omega) (by have := (V r r0 r1).1.2; omega)
/-- the state on the way through a rule -/
def RSt (S : (Int → Int → Int) → Prop) (ω : mW) (b : Int) (Hs H : dm_H) : Prop := frQ Hs H ∧ vcR H ∧ rmc b Hs H ∧ LBS S ω (rC H)
/-- an offer -/
theorem ofr_r {d : Nat} (hd : 2 ≤ d) {ω : mW} (V : VW cl kd ω) {H : dm_H} (eW : rW H = ω) {b : Int} (T : RSt S ω b Hs H) {r c Y : Int} (hr : 0 ≤ r ∧ r < 6) (hY : 0 ≤ Y) (hS : ∀ s, S s → ∀ x, plW ω r c x → s r x ≤ cst Y) : ∃ b' H', dF d 263 [dR 1 11 165, dI r, dI c, dI Y] H = rI b' H' ∧ (b' = 0 ∨ b' = 1) ∧ RSt S ω (dm_or b b') Hs H' ∧ (∀ a i, a ≠ 191 → gi H' a i = gi H a i) ∧ frQ H H' ∧ (∀ y, plW ω r c y → rC H' r y ≤ cst Y) ∧ (∀ i, 0 ≤ i → i < 240 → gi H' 191 i ≤ gi H 191 i) := by
  obtain ⟨t1, t2, t3, t4⟩ := T
  have V' := V
  rw [← eW] at V'
  obtain ⟨v1, v2, v3⟩ := V' r hr.1 hr.2
  obtain ⟨b', H', x1, x2, x3, x4, x5, x6, x7⟩ := s263 (d := d) (c := c) hd hr v1 (fun x y x0 xy y1 e => by
    obtain ⟨i, _, _, i2⟩ := v3 x y x0 xy y1
    have e : (rW H).2 r x = (rW H).2 r y := e
    exact i2 (by rw [e])) hY t2
  rw [eW] at x6 x7
  refine ⟨b', H', x1, x2.1, ⟨frQ_t t1 x5, x3, rmc_t t3 x2, fun s hs a y r0 r1 y0 y1 => ?_⟩, x4, x5, x6, x2.2.1⟩
  rcases x7 a y r0 r1 y0 (by have := (V a r0 r1).1.2; omega) with w | ⟨w, wp, we⟩
  · rw [w]; exact t4 s hs a y r0 r1 y0 y1
  · rw [we, w]; exact hS s hs y wp
theorem s264f {d : Nat} (hd : 9 ≤ d) {ω : mW} (D : DC cl kd) (R : RU cl kd ly oc u) (V : VW cl kd ω) (k0 : u.1 = 0) {pr : Int} (hpr : pr = 0 ∨ pr = 1) (SB : SBr pr S cl u ω) (vs : vcR Hs) (w6 w7 : Option dm_V) : ∀ (l : List mA) (H : dm_H) (b : Int) (w5 : Option dm_V), UR cl kd u p H → rW H = ω → RSt S ω b Hs H → (∀ v, v ∈ l → v ∈ bnds u ω) → Itr (rRl H p) (rW H) u.2.2.2.2 H l → ∃ b' He, dL (d - 1) 264 29 [lR 1 11 165, lI p, lI pr, lI b, lI u.2.1, w5, w6, w7] [] H = rI b' He ∧ RSt S ω b' Hs He ∧ (∀ i, 0 ≤ i → i < 240 → gi He 191 i ≤ gi H 191 i) ∧ ∀ v, v ∈ l → ∀ x, plW ω u.2.1 (hdc cl u v) x → rC He u.2.1 x ≤ ocv (bcv pr u.2.2.2.1 ω (rC Hs) v u.2.2.2.2.toNat) := by
  have D1 := (D u.2.1 R.2.1.1 R.2.1.2).1
  have GG := RU_GW D R V
  have hps : psr u.2.2.2.1 u.2.2.2.2.toNat := fun k q1 q2 q3 => by
    rcases GG.2 k q1 (by omega) with z | z | z
    · exact z.2.1
    · exact absurd (q3.symm.trans z.1) (by decide)
    · rcases z.1 with y | y
      · exact absurd (q3.symm.trans y) (by decide)
      · exact absurd (q3.symm.trans y.1) (by decide)
  intro l
  induction l with
  | nil =>
    intro H b w5 U eW T hl It
    have V' := V
    rw [← eW] at V'
    obtain ⟨H', a1, a2⟩ := (s190u (d := d - 1) (by omega) D U R V' It).1 rfl
    have f2 := frM_r a2
    have e191 : ∀ i, gi H' 191 i = gi H 191 i := fun i => a2.1 _ _ (by omega) (by omega) (by omega) (by omega)
    obtain ⟨t1, t2, t3, t4⟩ := T
    refine ⟨b, H', ?_, ⟨frQ_t t1 (frQ_M f2), fun i i0 i1 => by rw [e191]; exact t2 i i0 i1, ?_, fun s hs r x r0 r1 x0 x1 => by show _ ≤ gi H' 191 _; rw [e191]; exact t4 s hs r x r0 r1 x0 x1⟩, fun i _ _ => by rw [e191]; exact Int.le_refl _, fun v hv => by cases hv⟩
    · rw [b264_29, a1, bk_v, b264_34, if_pos rfl, z1_p t3.1]
    · have := rmc_t t3 (rmc_0 e191)
      rw [or01 t3.1 (Or.inl rfl)] at this
      rcases t3.1 with z | z
      · rw [z] at this ⊢; exact this
      · rw [z] at this ⊢; exact this
  | cons v l ih =>
    intro H b w5 U eW T hl It
    have V' := V
    rw [← eW] at V'
    obtain ⟨H', a1, a2, a3, a4⟩ := (s190u (d := d - 1) (by omega) D U R V' It).2 v l rfl
    have f2 := frM_r a2
    have U2 := UR_fr f2 U
    have eW2 : rW H' = ω := by rw [← eW]; exact eqf_W (frM_f f2)
    have V2 := V
    rw [← eW2] at V2
    have hv := hl v List.mem_cons_self
    have hJv : Jg u.2.2.2.1 u.2.2.2.2 v := bnds_J (RU_GW D R V) hv
    have hlast := hd_r R hJv (j := cl u.2.1 - 1) (by omega) (by omega)
    have ehd : gkv cl u v + tv v (u.2.2.1 (cl u.2.1 - 1)) * dm_unit (cl u.2.1 - 1) = hdc cl u v := (hcd_last D1).symm
    have e191 : ∀ i, gi H' 191 i = gi H 191 i := fun i => a2.1 _ _ (by omega) (by omega) (by omega) (by omega)
    obtain ⟨t1, t2, t3, t4⟩ := T
    have T2 : RSt S ω b Hs H' := ⟨frQ_t t1 (frQ_M f2), fun i i0 i1 => by rw [e191]; exact t2 i i0 i1, by
      have := rmc_t t3 (rmc_0 e191)
      rw [or01 t3.1 (Or.inl rfl)] at this
      rcases t3.1 with z | z
      · rw [z] at this ⊢; exact this
      · rw [z] at this ⊢; exact this, fun s hs r x r0 r1 x0 x1 => by show _ ≤ gi H' 191 _; rw [e191]; exact t4 s hs r x r0 r1 x0 x1⟩
    obtain ⟨X, y1, y2⟩ := s265 (d := d - 1) (by omega) D U2 R V2 a3 T2.2.1 hpr
    obtain ⟨o1, o2, o3⟩ := unc_o y2
    rw [eW2] at o1
    have vH := rC_v V T2.2.1
    have vS := rC_v V vs
    have mB := bcv_mono (pr := pr) (v := v) vH vS (rC_le V T2.2.2.1.2.1) hps
    have mo := ocv_mono (bcv_v (pr := pr) (v := v) vH hps) (bcv_v (pr := pr) (v := v) vS hps) mB
    obtain ⟨b', H2, z1, z2, z3, z4, z5, z6, z7⟩ := ofr_r (d := d - 1) (by omega) V eW2 T2 (r := u.2.1) (c := hdc cl u v) R.2.1 o2 (fun s hs x hx => by
      obtain ⟨c1, c2⟩ := SB s hs
      have erow : wrow cl u ω v = hdc cl u v := if_pos k0
      have ew : wcost pr cl u ω s v = bcv pr u.2.2.2.1 ω s v u.2.2.2.2.toNat := if_pos k0
      have := c2 v hv x (by rw [erow]; exact hx)
      rw [ew] at this
      rw [o1]
      exact Int.le_trans this (ocv_mono (bcv_v c1 hps) (bcv_v vH hps) (bcv_mono c1 vH (T2.2.2.2 s hs) hps)))
    have U3 := UR_q z5 U2
    have eW3 : rW H2 = ω := by rw [← eW2]; exact eqf_W (frQ_f z5)
    have It3 : Itr (rRl H2 p) (rW H2) u.2.2.2.2 H2 l := by
      rw [eqf_R (frQ_f z5), eqf_W (frQ_f z5)]
      exact Itr_cg (fun i _ => z4 _ _ (by omega)) (fun a i _ => z4 _ _ (by omega)) a4
    obtain ⟨b'', He, q1, q2, q3, q4⟩ := ih H2 (dm_or b b') (lI X) U3 eW3 z3 (fun w hw => hl w (List.mem_cons_of_mem _ hw)) It3
    refine ⟨b'', He, ?_, q2, fun i i0 i1 => by have := q3 i i0 i1; have := z7 i i0 i1; rw [e191] at this; omega, fun w hw x hx => ?_⟩
    · have e77 : ∀ (w3 : Option dm_V), dL (d - 1) 264 59 [lR 1 11 165, lI p, lI pr, w3, lI u.2.1, lI X, w6, w7] [dI (hdc cl u v), dI u.2.1, dR 1 11 165, dI b] H' = dL (d - 1) 264 77 [lR 1 11 165, lI p, lI pr, w3, lI u.2.1, lI X, w6, w7] [dI (if X = 1000000 then 1000000 else X + 1), dI (hdc cl u v), dI u.2.1, dR 1 11 165, dI b] H' := by
        intro w3
        rw [b264_59]
        by_cases q : X = 1000000
        · rw [if_pos q, if_pos q]
        · have := o3 q
          rw [if_neg q, if_neg q, ck_p (by omega) (by omega)]
      rw [b264_29, a1, bk_v, b264_34, if_neg (by decide), y1, bk_v, b264_43, s205k (by omega) D U2 R a3 hJv, bk_v, b264_56, s207k (by omega) D U2 R a3 hJv hlast, bk_v, ehd, e77, b264_77, z1, bk_v, b264_80, q1]
    · rcases List.mem_cons.mp hw with rfl | hw
      · have := z6 x hx
        have i0 := hx.1.1
        have i1 := hx.1.2
        have := q3 (40 * u.2.1 + x) (by have := R.2.1; omega) (by have := (V _ R.2.1.1 R.2.1.2).1.2; have := R.2.1; omega)
        have e1 : rC He u.2.1 x = gi He 191 (40 * u.2.1 + x) := rfl
        have e2 : rC H2 u.2.1 x = gi H2 191 (40 * u.2.1 + x) := rfl
        omega
      · exact q4 w hw x hx
end RRL
