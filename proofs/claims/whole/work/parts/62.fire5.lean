/-! FIRE: a rule with groups -/
section FIRE5
variable {P : Nat} {hB : dm_H} {oc : Int → Int → Prop} {ft : Int → Int → Prop} {RL : mU → Prop} {L : Int}
variable (P hB L) in
/-- rows of lower layers are old -/
def oldl (h : dm_H) : Prop := ∀ r, 0 ≤ r → r < 6 → gi hB 7 r < L → ∀ x, 0 ≤ x → x < rsz h P r → rst h P r x = 0
theorem oldl_gro {s : Int} {h h' : dm_H} (o : oldl P hB L h) (I : RI P hB ft RL s L h) {ft' : Int → Int → Prop} (I' : RI P hB ft' RL s L h') (g : gro (cK hB) (gi hB 4) P s h h') : oldl P hB L h' := by
  intro r r0 r1 l x x0 x1
  obtain ⟨a1, a2⟩ := I.2.2.2.2.1 r r0 r1 (by omega)
  obtain ⟨b1, b2⟩ := I'.2.2.2.2.1 r r0 r1 (by omega)
  have hx : x < rsz h P r := by rw [a1, ← b1]; exact x1
  rw [gro_old g ⟨r0, r1⟩ (fun x => by rw [a2, b2]) x x0 hx]
  exact o r r0 r1 l x x0 hx
theorem RI_ft {A : Nat} (hr : ru A) (hp : rw_ P) {s : Int} {h : dm_H} {ft' : Int → Int → Prop} (hf : ∀ r c, ft r c → ft' r c) (k : RI P hB ft RL s L h) : RI P hB ft' RL s L h := by
  obtain ⟨k1, k2, k3, k4, k5, k6⟩ := k
  refine ⟨k1, k2, k3, fun Dm ω' cn => k4 Dm ω' (cnd_ft hf cn), k5, ?_⟩
  rcases k6 with z | ⟨z, z2⟩
  · exact Or.inl z
  · exact Or.inr ⟨z, fun ω' cn => z2 ω' (cnd_ft hf cn)⟩
theorem fire_g {A : Nat} (hp : rw_ P) (K : RK hB) (R : RP hB oc RL A) (hk : gi hB A 1 = 1 ∨ gi hB A 1 = 2) (hL : gi hB 7 (gi hB A 2) = L) (hAny : ∀ k, 0 ≤ k → k < gi hB A 4 → gi hB (A + 2) k = 0 → gi hB (A + 6) k = 0 → ∀ i, 0 ≤ i → i < gi hB (A + 4) k → tm hB A k i ≠ -1) {h : dm_H} (I : RI P hB ft RL 1 L h) (o : oldl P hB L h) (r6 : gr h 143 6 = A) (r5 : gr h 143 5 = P) (h7 : gi h 143 7 = 0) {d : Nat} (hd : 9 ≤ d) :
    ∃ h' ft', dF d 61 [dR 1 1 143] h = rV h' ∧ (∀ r c, ft r c → ft' r c) ∧ RI P hB ft' RL 1 L h' ∧ frR P h h' ∧ (gr h' 143 6 = A ∧ gr h' 143 5 = P ∧ gi h' 143 7 = 0) ∧ (gi h' P 5 = 0 → ft' = ft ∧ gi h P 5 = 0 ∧ ∀ c, mkd (cK hB) (uR hB A) (cW h P) c → cov (cK hB) (gi hB 4) (cW h' P) (gi hB A 2) c) := by
  have hP : P = 95 ∨ P = 112 := hp
  have hru := R.1
  obtain ⟨e1, e2, e3, e4, e5, e6⟩ := frR_e hru hp I.1
  have eA : ∀ i, gi h A i = gi hB A i := fun i => e1 A (by omega) i
  have D := RK_D K
  have hr6 : 0 ≤ gi hB A 2 ∧ gi hB A 2 < 6 := R.2.1.2.1
  have d1 := (D _ hr6.1 hr6.2).1
  -- the heap that the step begins with
  have f1 : frR P h (grb (bgn h A P 140) A) := frR_trans frR_b frR_g
  have m1 : smP P h (grb (bgn h A P 140) A) := smP_tr (smP_b hp) (smP_g hp)
  have I1 := RI_P hru hp I f1 m1
  have hg : ∀ a i, a ≠ 140 → gi (grb (bgn h A P 140) A) a i = gi (bgn h A P 140) a i := fun a i ha => grb_gi (by omega)
  have hgr : ∀ a i, a ≠ 140 → gr (grb (bgn h A P 140) A) a i = gr (bgn h A P 140) a i := fun a i ha => by rw [grb_gr, if_neg (by omega)]
  obtain ⟨j2, j3, j4, j5, j9, j10⟩ := bgn_j h A P 140
  obtain ⟨b6, b7, b8⟩ := bgn_gr h A P 140
  have hva : va (grb (bgn h A P 140) A) 138 = v0 := by
    refine Eq.trans ?_ (bgn_va h A P 140)
    funext x; unfold va; rw [hg _ _ (by decide)]
  have k6 : gr (grb (bgn h A P 140) A) 143 6 = A := by rw [hgr _ _ (by decide), bgn_gn (by decide)]; exact r6
  have k5 : gr (grb (bgn h A P 140) A) 143 5 = P := by rw [hgr _ _ (by decide), bgn_gn (by decide)]; exact r5
  have k1 : gr (grb (bgn h A P 140) A) 140 1 = A := by rw [grb_gr, if_pos ⟨rfl, rfl⟩]
  have k7 : gi (grb (bgn h A P 140) A) 143 7 = 0 := by rw [hg _ _ (by decide), bgn_gi (by decide) (by decide)]; exact h7
  have z2 : gi (grb (bgn h A P 140) A) 140 2 = 0 := by unfold grb; rw [gi_sij (by decide), gi_sis]
  have z3 : gi (grb (bgn h A P 140) A) 140 3 = 0 := by unfold grb; rw [gi_sis]
  have q2 : gi (grb (bgn h A P 140) A) 137 2 = 0 ∧ gi (grb (bgn h A P 140) A) 137 4 = 1000000 ∧ gi (grb (bgn h A P 140) A) 137 5 = 0 ∧ gi (grb (bgn h A P 140) A) 137 9 = 0 ∧ gi (grb (bgn h A P 140) A) 137 10 = -1 := by
    rw [hg _ _ (by decide), hg _ _ (by decide), hg _ _ (by decide), hg _ _ (by decide), hg _ _ (by decide)]
    exact ⟨j2, j4, j5, j9, j10⟩
  have q6 : gr (grb (bgn h A P 140) A) 137 6 = A ∧ gr (grb (bgn h A P 140) A) 137 7 = P ∧ gr (grb (bgn h A P 140) A) 137 8 = 140 := by
    rw [hgr _ _ (by decide), hgr _ _ (by decide), hgr _ _ (by decide)]
    exact ⟨b6, b7, b8⟩
  have hpre : dF d 61 [dR 1 1 143] h = dL (d - 1) 61 51 [lR 1 1 143, none] [] (grb (bgn h A P 140) A) := by
    rw [f61 (by omega), b61_0, if_pos h7, r6, eA, if_neg (by omega), r5, s20 (by omega), bk_n, b61_40, bgn_gn (by decide), r6, s62 (by omega), bk_n]
  generalize grb (bgn h A P 140) A = h1 at *
  obtain ⟨g1, g2, g3, g4, g5, g6⟩ := frR_e hru hp I1.1
  have gA : ∀ i, gi h1 A i = gi hB A i := fun i => g1 A (by omega) i
  have W : SW A P (gi hB A 4) 0 h1 := by
    have := SW_of (P := P) (h := h1) (rd := 0) D hru hp (by omega) (by rw [g2]; exact R.2.1)
    rw [gA] at this
    exact this
  have hsub : ∀ k, 0 ≤ k → k < gi hB A 4 → gi hB (A + 2) k = 0 → (0 ≤ gi hB (A + 3) k ∧ gi hB (A + 3) k < 6) ∧ gi hB 7 (gi hB (A + 3) k) < L ∧ gi hB (A + 4) k = cK hB (gi hB (A + 3) k) := by
    intro k k0 k1 q
    rcases R.2.1.2.2.2.1 k k0 k1 with ⟨_, s1, s2, _, _, _, s6⟩ | ⟨s, _⟩
    · have l : gi hB 7 (gi hB (A + 3) k) < gi hB 7 (gi hB A 2) := s6 (fun z => by have z : gi hB A 1 = 0 := z.2.1; omega)
      exact ⟨s1, by omega, s2⟩
    · have s : gi hB (A + 2) k = 2 ∨ (gi hB (A + 2) k = 3 ∧ _) := s
      omega
  have hst : stl h1 A P (gi hB A 4) := by
    intro k k0 k1 q x x0 x1
    rw [g1 (A + 2) (by omega)] at q
    obtain ⟨y1, y2, _⟩ := hsub k k0 k1 q
    rw [g1 (A + 3) (by omega)] at x1 ⊢
    have ez : rsz h1 P (gi hB (A + 3) k) = rsz h P (gi hB (A + 3) k) := m1 _ _ (by omega) (by omega)
    have et : rst h1 P (gi hB (A + 3) k) x = rst h P (gi hB (A + 3) k) x := m1 _ _ (by omega) (by omega)
    rw [et]
    rw [ez] at x1
    exact o _ y1.1 y1.2 y2 x x0 x1
  have hAW : AW h1 A P (gi hB A 4) := by
    intro k k0 k1 q
    rw [g1 (A + 2) (by omega)] at q
    obtain ⟨y1, y2, y3⟩ := hsub k k0 k1 q
    have ht : tm h1 A k = tm hB A k := funext (fun i => g1 (A + 5) (by omega) _)
    rw [g1 (A + 6) (by omega), g1 (A + 4) (by omega), g1 (A + 3) (by omega), ht]
    refine ⟨fun z => hAny k k0 k1 q z, fun e p e0 ep p1 => ?_⟩
    obtain ⟨i, i0, i1, i2⟩ := (I1.2.1 _ y1.1 y1.2).2.2 e p e0 ep p1
    refine ⟨i, i0, ?_, i2⟩
    rw [y3]
    unfold kwd at i1
    split at i1 <;> omega
  have G1 : GW (cR h1 A) (cW h1 P) (gi hB A 4) := by
    have := RU_GW D R.2.1 I1.2.1
    rw [g3]
    exact this
  have GH1 : GH A (gi hB A 4) h1 := by
    refine ⟨⟨k1, by rw [gA, g4, g2]; exact R.2.2.2.2.1, fun i => rfl, rfl, by rw [g2]; exact hk, by rw [g4, g2]; exact d1⟩, (gA 4).symm, by rw [gA]; exact R.2.2.2.2.2.1.1, fun i i0 i1 => ?_⟩
    rw [g4, gA] at i1
    rw [g1 (A + 1) (by omega), g3, gA]
    exact ⟨(R.2.1.2.2.2.2.2.1 i i0 i1).1, R.2.2.2.2.2.1.2 i i0 i1⟩
  have J1 : Js A P 140 (gi hB A 4) 0 (-1) h1 h1 := ⟨q6.1, q6.2.1, q6.2.2, gA 4, fun _ => rfl, fun _ => rfl, fun _ => rfl, fun _ => rfl, fun _ => rfl, q2.2.2.2.1, q2.2.2.2.2, fun r r0 r1 => (I1.2.1 r r0 r1).1, fun r p r0 r1 p0 p1 => ((I1.2.1 r r0 r1).2.1 p p0 p1).1⟩
  obtain ⟨h2, t1, t2, t3, t4⟩ := grp_step (d := d - 1) W hst hAW q2.2.2.2.1 q2.2.2.2.2 q2.2.1 (by rw [g3]; exact R.2.2.2.2.2.2) GH1 G1 (v0_J (cR h1 A)) J1 hva q2.2.2.1 q2.1 z2 (by omega)
  sorry
end FIRE5
