/-! COSTS: rounds -/
section CRD
variable {h H : dm_H} {π : Int → Int}
theorem IN0_psR (I : IN0 π h) : psR (RLc h) := fun u hu => by
  obtain ⟨-, r1, r2, r3, -⟩ := (lay12 I).2.2 u hu
  refine ⟨r1, fun k k0 k1 q => ?_⟩
  rcases r3 k k0 (by omega) with z | z
  · exact z.2.1
  · rcases z.1 with y | y
    · omega
    · have := y.1; omega
/-- the offers of rules -/
def ogt (h Hs H : dm_H) (k : Int) : Prop := ∀ j, 0 ≤ j → j < k → gi h (gr h 14 j) 1 ≠ 3 → ∀ v, v ∈ bnds (uR h (gr h 14 j)) (cW h (gr h 1 8)) → ∀ x, plW (cW h (gr h 1 8)) (uR h (gr h 14 j)).2.1 (wrow (cK h) (uR h (gr h 14 j)) (cW h (gr h 1 8)) v) x → hF H (uR h (gr h 14 j)).2.1 x ≤ ocv (wcost 0 (cK h) (uR h (gr h 14 j)) (cW h (gr h 1 8)) (hF Hs) v) ∧ pF H (uR h (gr h 14 j)).2.1 x ≤ ocv (wcost 1 (cK h) (uR h (gr h 14 j)) (cW h (gr h 1 8)) (pF Hs) v)
theorem onW_v (I : IN0 π h) (o : onW h H) : vcf (cW h (gr h 1 8)) (hF H) ∧ vcf (cW h (gr h 1 8)) (pF H) := vcf_F o.2.2.1 (fun r x r0 r1 x0 x1 => by rw [o.1.1 2 0 (by omega)]; exact IN0_hn I r x r0 r1 x0 x1) (fun r r0 r1 => (I.2.2.2.2.2.2.2.2.2.2.2.2.2.2.2.1 r r0 r1).1.2)
/-- one round -/
theorem s153r {d : Nat} (hd : 11 ≤ d) (I : IN0 π h) (S : still h (gr h 1 8)) {Hs : dm_H} (os : onW h Hs) (w1 : Option dm_V) {n : Int} (hn : 0 ≤ n ∧ n < 1000000) : ∀ (m : Nat) (k : Int) (H : dm_H), 0 ≤ k → k + m = gi h 13 1 → onW h H → cmv (cW h (gr h 1 8)).1 Hs H → ogt h Hs H k → ∃ He w3, dL (d - 1) 153 122 [lR 1 0 144, w1, lI n, lI k] [] H = dL (d - 1) 153 102 [lR 1 0 144, w1, lI (n + 1), w3] [] He ∧ onW h He ∧ cmv (cW h (gr h 1 8)).1 Hs He ∧ ogt h Hs He (gi h 13 1) := by
  have V := I.2.2.2.2.2.2.2.2.2.2.2.2.2.2.2.1
  have h10 : gi h 13 1 ≤ 10 := by have := I.2.2.1.1; omega
  intro m
  induction m with
  | zero =>
    intro k H k0 km o c g
    refine ⟨H, lI k, ?_, o, c, by rw [show gi h 13 1 = k by omega]; exact g⟩
    rw [b153_122, o.1.1 13 1 (by omega), if_neg (by omega), ck_p (by omega) (by omega)]
  | succ m ih =>
    intro k H k0 km o c g
    have e14 : gr H 14 k = gr h 14 k := o.1.2.1 _ _ (by omega)
    obtain ⟨H6, eH6⟩ : ∃ H6, H6 = sr H 144 6 (gr h 14 k) := ⟨_, rfl⟩
    have g6 : gr H6 144 6 = gr h 14 k := by rw [eH6]; exact if_pos (e := gr H 144 6) (show (144 : Nat) = 144 ∧ (6 : Int) = 6 from ⟨rfl, rfl⟩)
    have gne : ∀ a i, ¬ (a = 144 ∧ i = 6) → gr H6 a i = gr H a i := fun a i q => by rw [eH6]; exact if_neg q
    have gi6 : ∀ a i, gi H6 a i = gi H a i := fun a i => by rw [eH6]; rfl
    have g5 : gr H6 144 5 = gr h 1 8 := by rw [gne _ _ (by omega)]; exact o.2.1
    have f6 : frO H H6 := ⟨fun a i _ => gi6 a i, fun a i q => gne a i (by omega), by rw [eH6]; rfl⟩
    have sm : smc H H6 := ⟨fun a i _ => gi6 a i, gi6 _ _, gi6 _ _⟩
    have ru := ru_r (I.2.2.1.2.2.1 k k0 (by omega)).1
    have e1 : gi H6 (gr h 14 k) 1 = gi h (gr h 14 k) 1 := by rw [gi6, o.1.1 _ _ (by omega)]
    have L6 : LBS (SH h) (cW h (gr h 1 8)) (hF H6) ∧ LBS (SP h) (cW h (gr h 1 8)) (pF H6) := ⟨fun s hs r x r0 r1 x0 x1 => by rw [(smc_F sm r1).1]; exact o.2.2.2.1 s hs r x r0 r1 x0 x1, fun s hs r x r0 r1 x0 x1 => by rw [(smc_F sm r1).2]; exact o.2.2.2.2 s hs r x r0 r1 x0 x1⟩
    have o6 : onW h H6 := ⟨frO_t o.1 f6, g5, smc_CC sm o.2.2.1, L6⟩
    have c6 : cmv (cW h (gr h 1 8)).1 Hs H6 := cmv_t c (smc_cmv sm)
    have keep : ∀ H', cmv (cW h (gr h 1 8)).1 H6 H' → ogt h Hs H' k := fun H' m j j0 j1 k3 v hv x hx => by
      have hu : RLc h (uR h (gr h 14 j)) := ⟨j, j0, by omega, k3, rfl⟩
      have r := ((IN0_psR I) _ hu).1
      have a := g j j0 j1 k3 v hv x hx
      have b := m.1 _ x r.1 r.2 hx.1.1 (by have := hx.1.2; have := (V _ r.1 r.2).1.2; omega)
      have c := smc_F sm (x := x) r.2
      exact ⟨by omega, by omega⟩
    have e0 : dL (d - 1) 153 122 [lR 1 0 144, w1, lI n, lI k] [] H = if gi h (gr h 14 k) 1 = 3 then dL (d - 1) 153 161 [lR 1 0 144, w1, lI n, lI k] [] H6 else dm_back (dL (d - 1) 153) dm_t153 158 [lR 1 0 144, w1, lI n, lI k] [] (dF (d - 1) 154 [dR 1 0 144] H6) := by
      rw [b153_122, o.1.1 13 1 (by omega), if_pos (by omega), ix_p k0 (by omega), e14, ← eH6, g6, e1]
    have hgo : ∀ H', frO H6 H' → gr H' 144 5 = gr h 1 8 → CC H' → cmv (cW h (gr h 1 8)).1 H6 H' → (LBS (SH h) (cW h (gr h 1 8)) (hF H') ∧ LBS (SP h) (cW h (gr h 1 8)) (pF H')) → ogt h Hs H' (k + 1) → ∃ He w3, dL (d - 1) 153 161 [lR 1 0 144, w1, lI n, lI k] [] H' = dL (d - 1) 153 102 [lR 1 0 144, w1, lI (n + 1), w3] [] He ∧ onW h He ∧ cmv (cW h (gr h 1 8)).1 Hs He ∧ ogt h Hs He (gi h 13 1) := by
      intro H' f' g' c' m' l' o'
      rw [b153_161, ck_p (by omega) (by omega)]
      exact ih (k + 1) H' (by omega) (by omega) ⟨frO_t o6.1 f', g', c', l'⟩ (cmv_t c6 m') o'
    rw [e0]
    by_cases k3 : gi h (gr h 14 k) 1 = 3
    · rw [if_pos k3]
      exact hgo H6 (frO_refl H6) g5 o6.2.2.1 (cmv_refl H6) L6 (fun j j0 j1 j3 => by
        by_cases e : j = k
        · rw [e] at j3; exact absurd k3 j3
        · exact keep H6 (cmv_refl H6) j j0 (by omega) j3)
    · rw [if_neg k3]
      have hu : RLc h (uR h (gr h 14 k)) := ⟨k, k0, by omega, k3, rfl⟩
      have hk := ((lay12 I).2.2 _ hu).1
      have hk : 0 ≤ gi h (gr h 14 k) 1 ∧ gi h (gr h 14 k) 1 ≤ 2 := hk
      have key : ∃ H', dF (d - 1) 154 [dR 1 0 144] H6 = rV H' ∧ LKr (SH h) (SP h) (cK h) (uR h (gr h 14 k)) (cW h (gr h 1 8)) H6 H' := by
        by_cases z : gi h (gr h 14 k) 1 = 0
        · exact s154f (d := d - 1) (by omega) I S o6.1 k0 (by omega) z g6 g5 o6.2.2.1 (SH_r hu) (SP_r hu) L6
        · exact s154g (d := d - 1) (by omega) I S o6.1 k0 (by omega) (by omega) g6 g5 o6.2.2.1 (SH_r hu) (SP_r hu) L6
      obtain ⟨H', y1, y2, y3, y4, y5, y6, y7⟩ := key
      obtain ⟨He, w3, z1, z2⟩ := hgo H' y2 (by rw [y3]; exact g5) y4 y5 y6 (fun j j0 j1 j3 v hv x hx => by
        by_cases e : j = k
        · subst e
          have a := y7 v hv x hx
          have vs := onW_v I os
          have v6 := onW_v I o6
          have le := lef_cmv (ω := cW h (gr h 1 8)) c6 (fun r r0 r1 => (V r r0 r1).1.2)
          have a0 := ocv_mono (wcost_v (pr := 0) (cl := cK h) (IN0_psR I) v6.1 hu v) (wcost_v (IN0_psR I) vs.1 hu v) (wcost_mono (pr := 0) (cl := cK h) (IN0_psR I) v6.1 vs.1 le.1 hu v)
          have a1 := ocv_mono (wcost_v (pr := 1) (cl := cK h) (IN0_psR I) v6.2 hu v) (wcost_v (IN0_psR I) vs.2 hu v) (wcost_mono (pr := 1) (cl := cK h) (IN0_psR I) v6.2 vs.2 le.2 hu v)
          exact ⟨Int.le_trans a.1 a0, Int.le_trans a.2 a1⟩
        · exact keep H' y5 j j0 (by omega) j3 v hv x hx)
      exact ⟨He, w3, by rw [y1, bk_n, z1], z2⟩
theorem fin9_le {ω : mW} {c f : Int → Int → Int} {k k' : Int} (hk : k' ≤ k) (a : fin9 ω c f k) : fin9 ω c f k' := fun r x r0 r1 x0 x1 q => a r x r0 r1 x0 x1 (by omega)
theorem fcH_r (r c a : Int) (q : fcH h r c a) : 0 ≤ a ∧ a ≤ 99 := by
  obtain ⟨i, _, _, _, z⟩ := q
  omega
theorem fcP_r (I : IN0 π h) (r c a : Int) (q : fcP h r c a) : 0 ≤ a ∧ a ≤ 99 := by
  obtain ⟨i, i1, _, _, z⟩ := q
  have := (I.2.2.2.2.2.2.2.2.1.2.2.2.2.1 i i1.1 i1.2).1
  omega
/-- the greatest stable heights, and prices -/
def GH_ (h : dm_H) (f : Int → Int → Int) : Prop := GSB 0 (cK h) (RLc h) (fcH h) (cW h (gr h 1 8)) f
def GP_ (h : dm_H) (f : Int → Int → Int) : Prop := GSB 1 (cK h) (RLc h) (fcP h) (cW h (gr h 1 8)) f
/-- a cost that falls though all are final is a new one -/
theorem nD_fall (I : IN0 π h) {Hs He : dm_H} {c0 c1 : Int → Int → Int} (g0 : GH_ h c0) (g1 : GP_ h c1) (os : onW h Hs) (oe : onW h He) (K0 : fin9 (cW h (gr h 1 8)) c0 (hF Hs) 9998) (K1 : fin9 (cW h (gr h 1 8)) c1 (pF Hs) 9998) (c : cmv (cW h (gr h 1 8)).1 Hs He) (z : gi Hs 144 13 = 0) (e : gi He 144 13 ≠ 0) : nD Hs < nD He := by
  rcases c.2.2 e with w | ⟨r, x, hr, hx, hs, w⟩
  · exact absurd z w
  have rg := IN0_hn I r x hr.1 hr.2 hx.1 hs
  have es : gi Hs 2 0 = gi h 2 0 := os.1.1 2 0 (by omega)
  have ee : gi He 2 0 = gi h 2 0 := oe.1.1 2 0 (by omega)
  have vs := os.2.2.1.1 r x hr.1 hr.2 hx.1 hx.2 (by rw [es]; exact rg)
  have ve := oe.2.2.1.1 r x hr.1 hr.2 hx.1 hx.2 (by rw [ee]; exact rg)
  have l0 := oe.2.2.2.1 c0 g0.1 r x hr.1 hr.2 hx.1 hs
  have l1 := oe.2.2.2.2 c1 g1.1 r x hr.1 hr.2 hx.1 hs
  have k0 := K0 r x hr.1 hr.2 hx.1 hs
  have k1 := K1 r x hr.1 hr.2 hx.1 hs
  have hkeep : ∀ r x, 0 ≤ r → r < 6 → 0 ≤ x → x < 32 → r < gi Hs 2 0 → gi Hs (145 + 1 + Int.toNat r) x ≠ -1 → gi He (145 + 1 + Int.toNat r) x ≠ -1 := fun r x r0 r1 x0 x1 rg z => by
    have v := os.2.2.1.1 r x r0 r1 x0 x1 rg
    have l := (c.1 r x r0 r1 x0 x1).1
    unfold c2v at v
    unfold hF kc at l
    rw [if_neg z] at l
    intro q
    rw [if_pos q] at l
    omega
  unfold c2v at vs ve
  have both : gi Hs (145 + 1 + Int.toNat r) x = -1 ∧ gi He (145 + 1 + Int.toNat r) x ≠ -1 := by
    unfold hF pF kc at w
    unfold hF kc at l0 k0
    unfold pF kc at l1 k1
    by_cases a : gi Hs (145 + 1 + Int.toNat r) x = -1
    · refine ⟨a, fun b => ?_⟩
      have a' : gi Hs (152 + 1 + Int.toNat r) x = -1 := by omega
      have b' : gi He (152 + 1 + Int.toNat r) x = -1 := by omega
      rw [if_pos a, if_pos b, if_pos a', if_pos b'] at w
      omega
    · have a' : gi Hs (152 + 1 + Int.toNat r) x ≠ -1 := by omega
      have b := hkeep r x hr.1 hr.2 hx.1 hx.2 (by rw [es]; exact rg) a
      have b' : gi He (152 + 1 + Int.toNat r) x ≠ -1 := by omega
      rw [if_neg a, if_neg b, if_neg a', if_neg b'] at w
      rw [if_neg b] at l0
      rw [if_neg b'] at l1
      rw [if_neg a] at k0
      rw [if_neg a'] at k1
      exfalso
      rcases w with w | w
      · have := k0 (by omega); omega
      · have := k1 (by omega); omega
  exact nD_lt (by rw [ee, es]) hkeep hr.1 hr.2 hx.1 hx.2 (by rw [es]; exact rg) both.1 both.2
end CRD
