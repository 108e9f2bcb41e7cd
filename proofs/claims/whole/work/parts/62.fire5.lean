/-! FIRE: a rule with groups -/
section FIRE5
variable {P : Nat} {hB : dm_H} {oc : Int → Int → Prop} {ft : Int → Int → Prop} {RL : mU → Prop} {L : Int}
variable (P hB L) in
/-- rows of lower layers are old -/
def oldl (h : dm_H) : Prop := ∀ r, 0 ≤ r → r < 6 → gi hB 7 r < L → ∀ x, 0 ≤ x → x < rsz h P r → rst h P r x = 0
theorem oldl_gro {s : Int} {h h' : dm_H} (o : oldl P hB L h) (I : RI P hB ft RL s L h) {ft' : Int → Int → Prop} (I' : RI P hB ft' RL s L h') (g : gro (cK hB) (gi hB 4) P s h h') : oldl P hB L h' := by
  intro r r0 r1 l x x0 x1
  obtain ⟨a1, a2⟩ := I.2.2.2.2.1 r r0 r1 (by omega)
  obtain ⟨b1, b2⟩ := I'.2.2.2.2.1 r r0 r1 (by omega)
  have hx : x < rsz h P r := by rw [a1, ← b1]; exact x1
  rw [gro_old g ⟨r0, r1⟩ (fun x => by rw [a2, b2]) x x0 hx]
  exact o r r0 r1 l x x0 hx
theorem RI_ft {A : Nat} (hr : ru A) (hp : rw_ P) {s : Int} {h : dm_H} {ft' : Int → Int → Prop} (hf : ∀ r c, ft r c → ft' r c) (k : RI P hB ft RL s L h) : RI P hB ft' RL s L h := by
  obtain ⟨k1, k2, k3, k4, k5, k6⟩ := k
  refine ⟨k1, k2, k3, fun Dm ω' cn => k4 Dm ω' (cnd_ft hf cn), k5, ?_⟩
  rcases k6 with z | ⟨z, z2⟩
  · exact Or.inl z
  · exact Or.inr ⟨z, fun ω' cn => z2 ω' (cnd_ft hf cn)⟩
theorem RI_5 {s : Int} {h : dm_H} (hp : rw_ P) (k : RI P hB ft RL s L h) (t : tmp P hB ft RL L) : RI P hB ft RL s L (si h P 5 1) := by
  obtain ⟨k1, k2, k3, k4, k5, k6⟩ := k
  have ez : ∀ r, rsz (si h P 5 1) P r = rsz h P r := fun r => by unfold rsz; rw [gi_sin (by omega)]
  have ew : ∀ r x, rws (si h P 5 1) P r x = rws h P r x := fun r x => by unfold rws; rw [gi_sin (by omega)]
  have et : ∀ r x, rst (si h P 5 1) P r x = rst h P r x := fun r x => by unfold rst; rw [gi_sin (by omega)]
  have eW : smW (cW h P) (cW (si h P 5 1) P) := fun r r0 r1 => ⟨ez r, ew r⟩
  refine ⟨frR_trans k1 ⟨fun a i p1 p2 p3 => by rw [gi_si, if_neg p2], fun _ _ _ _ _ => rfl, rfl⟩, smW_VW eW k2, fun r r0 r1 => ?_, fun Dm ω' cn r r0 r1 q l c hc => k4 Dm ω' cn r r0 r1 q l c ((smW_in eW ⟨r0, r1⟩).mp hc), fun r r0 r1 q => ?_, Or.inr ⟨gi_sis, t⟩⟩
  · obtain ⟨a1, a2⟩ := k3 r r0 r1
    rw [gi_sin (by omega), ez]
    exact ⟨a1, fun x x0 x1 => by rw [et]; exact a2 x x0 x1⟩
  · obtain ⟨a1, a2⟩ := k5 r r0 r1 q
    exact ⟨by rw [ez]; exact a1, fun x => by rw [ew]; exact a2 x⟩
theorem gro_5 {cl kd : Int → Int} {s : Int} {h : dm_H} : gro cl kd P s h (si h P 5 1) := by
  intro r r0 r1
  have e1 : rsz (si h P 5 1) P r = rsz h P r := by unfold rsz; rw [gi_sin (by omega)]
  rw [e1, gi_sin (by omega)]
  exact ⟨Int.le_refl _, fun x _ _ => Or.inl ⟨by unfold rws; rw [gi_sin (by omega)], by unfold rst; rw [gi_sin (by omega)]⟩, fun x _ _ _ => by omega, Int.le_refl _, Or.inl rfl⟩
theorem fire_g {A : Nat} (hp : rw_ P) (K : RK hB) (R : RP hB oc RL A) (hk : gi hB A 1 = 1 ∨ gi hB A 1 = 2) (hL : gi hB 7 (gi hB A 2) = L) (hAny : ∀ k, 0 ≤ k → k < gi hB A 4 → gi hB (A + 2) k = 0 → gi hB (A + 6) k = 0 → ∀ i, 0 ≤ i → i < gi hB (A + 4) k → tm hB A k i ≠ -1) {h : dm_H} (I : RI P hB ft RL 1 L h) (o : oldl P hB L h) (r6 : gr h 143 6 = A) (r5 : gr h 143 5 = P) (h7 : gi h 143 7 = 0) {d : Nat} (hd : 9 ≤ d) :
    ∃ h' ft', dF d 61 [dR 1 1 143] h = rV h' ∧ (∀ r c, ft r c → ft' r c) ∧ RI P hB ft' RL 1 L h' ∧ frR P h h' ∧ gro (cK hB) (gi hB 4) P 1 h h' ∧ (gr h' 143 6 = A ∧ gr h' 143 5 = P ∧ gi h' 143 7 = 0) ∧ (gi h' P 5 ≠ 0 → tmp P hB ft RL L) ∧ (gi h' P 5 = 0 → ft' = ft ∧ gi h P 5 = 0 ∧ flc P hB 1 h h' ∧ ∀ c, mkd (cK hB) (uR hB A) (cW h P) c → cov (cK hB) (gi hB 4) (cW h' P) (gi hB A 2) c) := by
  have hP : P = 95 ∨ P = 112 := hp
  have hru := R.1
  obtain ⟨e1, e2, e3, e4, e5, e6⟩ := frR_e hru hp I.1
  have eA : ∀ i, gi h A i = gi hB A i := fun i => e1 A (by omega) i
  have D := RK_D K
  have hr6 : 0 ≤ gi hB A 2 ∧ gi hB A 2 < 6 := R.2.1.2.1
  have d1 := (D _ hr6.1 hr6.2).1
  -- the heap that the step begins with
  have f1 : frR P h (grb (bgn h A P 140) A) := frR_trans frR_b frR_g
  have m1 : smP P h (grb (bgn h A P 140) A) := smP_tr (smP_b hp) (smP_g hp)
  have I1 := RI_P hru hp I f1 m1
  have hg : ∀ a i, a ≠ 140 → gi (grb (bgn h A P 140) A) a i = gi (bgn h A P 140) a i := fun a i ha => grb_gi (by omega)
  have hgr : ∀ a i, a ≠ 140 → gr (grb (bgn h A P 140) A) a i = gr (bgn h A P 140) a i := fun a i ha => by rw [grb_gr, if_neg (by omega)]
  obtain ⟨j2, j3, j4, j5, j9, j10⟩ := bgn_j h A P 140
  obtain ⟨b6, b7, b8⟩ := bgn_gr h A P 140
  have hva : va (grb (bgn h A P 140) A) 138 = v0 := by
    refine Eq.trans ?_ (bgn_va h A P 140)
    funext x; unfold va; rw [hg _ _ (by decide)]
  have k6 : gr (grb (bgn h A P 140) A) 143 6 = A := by rw [hgr _ _ (by decide), bgn_gn (by decide)]; exact r6
  have k5 : gr (grb (bgn h A P 140) A) 143 5 = P := by rw [hgr _ _ (by decide), bgn_gn (by decide)]; exact r5
  have k1 : gr (grb (bgn h A P 140) A) 140 1 = A := by rw [grb_gr, if_pos ⟨rfl, rfl⟩]
  have k7 : gi (grb (bgn h A P 140) A) 143 7 = 0 := by rw [hg _ _ (by decide), bgn_gi (by decide) (by decide)]; exact h7
  have k8 : gi (grb (bgn h A P 140) A) 143 8 = gi h 143 8 := by rw [hg _ _ (by decide), bgn_gi (by decide) (by decide)]
  have z2 : gi (grb (bgn h A P 140) A) 140 2 = 0 := by unfold grb; rw [gi_sij (by decide), gi_sis]
  have z3 : gi (grb (bgn h A P 140) A) 140 3 = 0 := by unfold grb; rw [gi_sis]
  have q2 : gi (grb (bgn h A P 140) A) 137 2 = 0 ∧ gi (grb (bgn h A P 140) A) 137 4 = 1000000 ∧ gi (grb (bgn h A P 140) A) 137 5 = 0 ∧ gi (grb (bgn h A P 140) A) 137 9 = 0 ∧ gi (grb (bgn h A P 140) A) 137 10 = -1 := by
    rw [hg _ _ (by decide), hg _ _ (by decide), hg _ _ (by decide), hg _ _ (by decide), hg _ _ (by decide)]
    exact ⟨j2, j4, j5, j9, j10⟩
  have q6 : gr (grb (bgn h A P 140) A) 137 6 = A ∧ gr (grb (bgn h A P 140) A) 137 7 = P ∧ gr (grb (bgn h A P 140) A) 137 8 = 140 := by
    rw [hgr _ _ (by decide), hgr _ _ (by decide), hgr _ _ (by decide)]
    exact ⟨b6, b7, b8⟩
  have hpre : dF d 61 [dR 1 1 143] h = dL (d - 1) 61 51 [lR 1 1 143, none] [] (grb (bgn h A P 140) A) := by
    rw [f61 (by omega), b61_0, if_pos h7, r6, eA, if_neg (by omega), r5, s20 (by omega), bk_n, b61_40, bgn_gn (by decide), r6, s62 (by omega), bk_n]
  generalize grb (bgn h A P 140) A = h1 at *
  obtain ⟨g1, g2, g3, g4, g5, g6⟩ := frR_e hru hp I1.1
  have gA : ∀ i, gi h1 A i = gi hB A i := fun i => g1 A (by omega) i
  have W : SW A P (gi hB A 4) 0 h1 := by
    have := SW_of (P := P) (h := h1) (rd := 0) D hru hp (by omega) (by rw [g2]; exact R.2.1)
    rw [gA] at this
    exact this
  have hsub : ∀ k, 0 ≤ k → k < gi hB A 4 → gi hB (A + 2) k = 0 → (0 ≤ gi hB (A + 3) k ∧ gi hB (A + 3) k < 6) ∧ gi hB 7 (gi hB (A + 3) k) < L ∧ gi hB (A + 4) k = cK hB (gi hB (A + 3) k) := by
    intro k k0 k1 q
    rcases R.2.1.2.2.2.1 k k0 k1 with ⟨_, s1, s2, _, _, _, s6⟩ | ⟨s, _⟩
    · have l : gi hB 7 (gi hB (A + 3) k) < gi hB 7 (gi hB A 2) := s6 (fun z => by have z : gi hB A 1 = 0 := z.2.1; omega)
      exact ⟨s1, by omega, s2⟩
    · have s : gi hB (A + 2) k = 2 ∨ (gi hB (A + 2) k = 3 ∧ _) := s
      omega
  have hst : stl h1 A P (gi hB A 4) := by
    intro k k0 k1 q x x0 x1
    rw [g1 (A + 2) (by omega)] at q
    obtain ⟨y1, y2, _⟩ := hsub k k0 k1 q
    rw [g1 (A + 3) (by omega)] at x1 ⊢
    have ez : rsz h1 P (gi hB (A + 3) k) = rsz h P (gi hB (A + 3) k) := m1 _ _ (by omega) (by omega)
    have et : rst h1 P (gi hB (A + 3) k) x = rst h P (gi hB (A + 3) k) x := m1 _ _ (by omega) (by omega)
    rw [et]
    rw [ez] at x1
    exact o _ y1.1 y1.2 y2 x x0 x1
  have hAW : AW h1 A P (gi hB A 4) := by
    intro k k0 k1 q
    rw [g1 (A + 2) (by omega)] at q
    obtain ⟨y1, y2, y3⟩ := hsub k k0 k1 q
    have ht : tm h1 A k = tm hB A k := funext (fun i => g1 (A + 5) (by omega) _)
    rw [g1 (A + 6) (by omega), g1 (A + 4) (by omega), g1 (A + 3) (by omega), ht]
    refine ⟨fun z => hAny k k0 k1 q z, fun e p e0 ep p1 => ?_⟩
    obtain ⟨i, i0, i1, i2⟩ := (I1.2.1 _ y1.1 y1.2).2.2 e p e0 ep p1
    refine ⟨i, i0, ?_, i2⟩
    rw [y3]
    unfold kwd at i1
    split at i1 <;> omega
  have G1 : GW (cR h1 A) (cW h1 P) (gi hB A 4) := by
    have := RU_GW D R.2.1 I1.2.1
    rw [g3]
    exact this
  have GH1 : GH A (gi hB A 4) h1 := by
    refine ⟨⟨k1, by rw [gA, g4, g2]; exact R.2.2.2.2.1, fun i => rfl, rfl, by rw [g2]; exact hk, by rw [g4, g2]; exact d1⟩, (gA 4).symm, by rw [gA]; exact R.2.2.2.2.2.1.1, fun i i0 i1 => ?_⟩
    rw [g4, gA] at i1
    rw [g1 (A + 1) (by omega), g3, gA]
    exact ⟨(R.2.1.2.2.2.2.2.1 i i0 i1).1, R.2.2.2.2.2.1.2 i i0 i1⟩
  have J1 : Js A P 140 (gi hB A 4) 0 (-1) h1 h1 := ⟨q6.1, q6.2.1, q6.2.2, gA 4, fun _ => rfl, fun _ => rfl, fun _ => rfl, fun _ => rfl, fun _ => rfl, q2.2.2.2.1, q2.2.2.2.2, fun r r0 r1 => (I1.2.1 r r0 r1).1, fun r p r0 r1 p0 p1 => ((I1.2.1 r r0 r1).2.1 p p0 p1).1⟩
  obtain ⟨h2, t1, t2, t3, t4⟩ := grp_step (d := d - 1) W hst hAW q2.2.2.2.1 q2.2.2.2.2 q2.2.1 (by rw [g3]; exact R.2.2.2.2.2.2) GH1 G1 (v0_J (cR h1 A)) J1 hva q2.2.2.1 q2.1 z2 (by omega)
  rw [g4, g2, g3] at t4
  have m2 : smP P h1 h2 := fun a i p q => t2.1 a i (by omega) (by omega) (by omega) (by omega)
  have I2 := RI_P hru hp I1 (frR_C hp t2 t3) m2
  obtain ⟨u1, u2, u3, u4, u5, u6⟩ := frR_e hru hp I2.1
  have uA : ∀ i, gi h2 A i = gi hB A i := fun i => u1 A (by omega) i
  have V1 := I1.2.1
  have hω : ∀ r, 0 ≤ r → r < 6 → gi hB 7 r < L → ∀ c, inW (cW h1 P) r c ↔ inW (cW hB P) r c := by
    intro r r0 r1 l c
    obtain ⟨a1, a2⟩ := I1.2.2.2.2.1 r r0 r1 (by omega)
    show (∃ x, 0 ≤ x ∧ x < rsz h1 P r ∧ rws h1 P r x = c) ↔ (∃ x, 0 ≤ x ∧ x < rsz hB P r ∧ rws hB P r x = c)
    rw [a1]
    constructor
    · rintro ⟨x, x0, x1, x2⟩; exact ⟨x, x0, x1, by rw [← a2]; exact x2⟩
    · rintro ⟨x, x0, x1, x2⟩; exact ⟨x, x0, x1, by rw [a2]; exact x2⟩
  have hk0 : gi hB A 1 ≠ 0 := by omega
  have GB := RU_GW D R.2.1 V1
  have hbB : ∀ {v}, v ∈ bnd (cR hB A) (cW h1 P) (gi hB A 4).toNat 0 v0 → v ∈ bnds (uR hB A) (cW h1 P) := fun h => h
  have hkey : ∀ v, v ∈ bnds (uR hB A) (cW h1 P) → vcd (cK hB (gi hB A 2) - 1) (gkv (cK hB) (uR hB A) v) ∧ 0 ≤ gam (cK hB) (uR hB A) v := by
    intro v hv
    have J := bnds_J GB hv
    have hh := fun j j0 j1 => hd_r R.2.1 J (j := j) j0 j1
    exact ⟨(hcd_cv (n := cK hB (gi hB A 2) - 1) (by omega) (fun j j0 j1 => hh j j0 (by show j < cK hB (gi hB A 2); omega))).2, (gam_r d1.1 hh).1⟩
  have hGx : ∀ l, (∀ w, w ∈ l → w ∈ bnds (uR hB A) (cW h1 P)) → GR (cK hB) (uR hB A) l h2 → (0 ≤ gi h2 140 2 ∧ gi h2 140 2 ≤ 32) ∧ ∀ x, 0 ≤ x → x < gi h2 140 2 → vcd (cK hB (gi hB A 2) - 1) (gi h2 141 x) ∧ 0 ≤ gi h2 142 x ∧ gi h2 142 x ≤ 99 := by
    intro l hl G
    refine ⟨G.1, fun x x0 x1 => ?_⟩
    obtain ⟨⟨v, v1, v2⟩, v3⟩ := G.2.2.1 x x0 x1
    rw [v3, ← v2]
    exact ⟨(hkey v (hl v v1)).1, m99_r (gsm_nn (fun w hw => (hkey w (hl w hw)).2))⟩
  have K2 : RK h2 := by
    unfold RK
    rw [u1 2 (by omega)]
    refine ⟨K.1, fun r r0 r1 => ?_⟩
    rw [u1 3 (by omega), u1 4 (by omega), u1 5 (by omega)]
    exact K.2 r r0 r1
  have hrel : 0 ≤ gi h2 A 2 ∧ gi h2 A 2 < gi h2 2 0 := by rw [uA, u1 2 (by omega)]; exact ⟨hr6.1, R.2.2.2.1⟩
  have hL2 : gi h2 7 (gi h2 A 2) = L := by rw [uA, u6]; exact hL
  have hn2 : gi h2 A 3 = cK hB (gi hB A 2) ∧ cK hB (gi hB A 2) = cK h2 (gi h2 A 2) := by rw [uA, uA, u4]; exact ⟨R.2.2.2.2.1, rfl⟩
  have hcg : ∀ {ft' : Int → Int → Prop} {Dm ω'}, cnd P h2 ft' RL Dm ω' L ↔ cnd P hB ft' RL Dm ω' L := cnd_cg u4 u5 u6 (fun r r0 r1 q => I2.2.2.2.2.1 r r0 r1 (by omega))
  have w6 : gr h2 143 6 = A := by rw [t2.2.1]; exact k6
  have w5 : gr h2 143 5 = P := by rw [t2.2.1]; exact k5
  have w1 : gr h2 140 1 = A := by rw [t2.2.1]; exact k1
  have w7 : gi h2 143 7 = 0 := by rw [t3 143 7 (by omega) (by omega) (by omega) (by omega)]; exact k7
  have hP5 : gi h2 P 5 = gi h P 5 := by rw [m2 P 5 (by omega) (by omega), m1 P 5 (by omega) (by omega)]
  have m12 := smP_tr m1 m2
  have hg2 : ∀ {hh}, inv P h2 ft RL 1 L hh → gro (cK hB) (gi hB 4) P 1 h hh := fun i => by
    have := i.2.2.2.1
    rw [u4, u5] at this
    exact gro_trans (gro_P m12) this
  have e8 : gi h2 143 8 = gi h 143 8 := by rw [t3 143 8 (by omega) (by omega) (by omega) (by omega)]; exact k8
  have hrun : ∀ h', dF (d - 1) 63 [dR 1 1 143] h2 = rV h' → dF d 61 [dR 1 1 143] h = rV h' := by
    intro h' e
    rw [hpre, b61_51, t1, bk_n, b61_59, e, bk_n, b61_63]
  rcases t4 with ⟨G, e3'⟩ | ⟨e3', T, l, hl, G⟩
  · obtain ⟨x1, x2⟩ := hGx _ (fun w hw => hw) G
    obtain ⟨h', y1, y2, y3⟩ := s63 (d := d - 1) (ft := ft) (RL := RL) (n := cK hB (gi hB A 2)) (by omega) hru hp K2 hrel hL2 hn2 w6 w5 w1 x1 x2 (by
      intro x x0 xn Dm ω' cn hD
      rw [u4, u5, uA]
      rw [uA] at hD
      obtain ⟨⟨v, v1, v2⟩, v3⟩ := G.2.2.1 x x0 xn
      have := grp_cov K R hk0 hL V1 hω (hcg.mp cn) hD (hbB v1)
      rw [v3, ← v2]
      exact this) (RI_inv hru hp I2)
    rcases y3 with ⟨_, i', c'⟩ | ⟨q, _⟩
    · refine ⟨h', ft, hrun h' y1, fun _ _ q => q, inv_RI hru hp I2 i', frR_trans f1 (frR_trans (frR_C hp t2 t3) (frR_D y2)), hg2 i', ⟨by rw [y2.2.1]; exact w6, by rw [y2.2.1]; exact w5, by rw [y2.1 143 7 (by omega) (by omega) (by omega) (by omega) (by omega) (by omega)]; exact w7⟩, fun z => ((inv_RI hru hp I2 i').2.2.2.2.2.resolve_left z).2, fun z => ?_⟩
      obtain ⟨c1, c2⟩ := c' z
      have hfl : flc P hB 1 h2 h' := by
        have := i'.2.2.2.2.2.2.2
        rw [u4, u5] at this
        exact this
      refine ⟨rfl, by rw [← hP5]; exact c1, flc_trans (flc_P hp m12 e8) hfl, fun c hc => ?_⟩
      have eW : smW (cW h1 P) (cW h P) := fun r r0 r1 => ⟨(m1 _ _ (by omega) (by omega)).symm, fun x => (m1 _ _ (by omega) (by omega)).symm⟩
      have hc1 : mkd (cK hB) (uR hB A) (cW h1 P) c := by
        refine mkd_cg (RU_GW D R.2.1 I.2.1) GB (fun k q0 q1 q c => ?_) hc
        have hs : 0 ≤ gi hB (A + 3) k ∧ gi hB (A + 3) k < 6 := (RP_sub K R q0 q1 q).1
        exact smW_in eW hs
      rcases hc1 with ⟨q, _⟩ | ⟨_, v, v1, v2⟩
      · exact absurd q hk0
      · obtain ⟨x, x0, xn, xk⟩ := G.2.2.2 v v1
        have := c2 x x0 xn
        rw [u4, u5, uA] at this
        rw [v2]
        unfold grow
        obtain ⟨_, v3⟩ := G.2.2.1 x x0 xn
        rw [← xk]
        rw [v3] at this
        exact this
    · rw [e3', z3] at q; exact absurd rfl q
  · have hT := tmg_tmp (ft := ft) K R hk0 hL V1 hω T
    obtain ⟨x1, x2⟩ := hGx l hl G
    have hf : ∀ r c, ft r c → (fun r c => ft r c ∨ (r = gi hB A 2 ∧ ∃ x, 0 ≤ x ∧ x < gi h2 140 2 ∧ c = gi h2 141 x + gi h2 142 x * dm_unit (cK hB (gi hB A 2) - 1))) r c := fun _ _ q => Or.inl q
    have I2' := RI_ft hru hp hf I2
    obtain ⟨h', y1, y2, y3⟩ := s63 (d := d - 1) (ft := fun r c => ft r c ∨ (r = gi hB A 2 ∧ ∃ x, 0 ≤ x ∧ x < gi h2 140 2 ∧ c = gi h2 141 x + gi h2 142 x * dm_unit (cK hB (gi hB A 2) - 1))) (RL := RL) (n := cK hB (gi hB A 2)) (by omega) hru hp K2 hrel hL2 hn2 w6 w5 w1 x1 x2 (by
      intro x x0 xn Dm ω' cn hD
      exact cn.2.2.2.1 _ _ hrel.1 (by rw [uA]; exact hr6.2) hD hL2 (Or.inr ⟨uA 2, x, x0, xn, rfl⟩)) (RI_inv hru hp I2')
    rcases y3 with ⟨q, _⟩ | ⟨_, c1, hh, i', eh⟩
    · rw [e3'] at q; omega
    · refine ⟨h', _, hrun h' y1, hf, ?_, frR_trans f1 (frR_trans (frR_C hp t2 t3) (frR_D y2)), ?_, ⟨by rw [y2.2.1]; exact w6, by rw [y2.2.1]; exact w5, by rw [y2.1 143 7 (by omega) (by omega) (by omega) (by omega) (by omega) (by omega)]; exact w7⟩, fun _ => hT, fun z => ?_⟩
      · rw [eh]
        exact RI_5 hp (inv_RI hru hp I2' i') (fun ω' cn => hT ω' (cnd_ft hf cn))
      · rw [eh]
        have := i'.2.2.2.1
        rw [u4, u5] at this
        exact gro_trans (gro_trans (gro_P m12) this) gro_5
      · rw [c1] at z; omega
end FIRE5
