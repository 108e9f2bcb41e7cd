/-! WHAT A RULE MAKES, covered -/
theorem vcd_le {n a b : Int} (hn : 1 ≤ n ∧ n ≤ 3) (ha : vcd n a) (hb : vcd n b) (e : ∀ i, 0 ≤ i → i < n - 1 → cv i a = cv i b) (l : cv (n - 1) a ≤ cv (n - 1) b) : a ≤ b := by
  have a0 := ha.1
  have b0 := hb.1
  rcases (show n = 1 ∨ n = 2 ∨ n = 3 by omega) with q | q | q
  · rw [q] at ha hb l
    have a1 := ha.2 1 (by omega) (by omega) (by omega)
    have a2 := ha.2 2 (by omega) (by omega) (by omega)
    have b1 := hb.2 1 (by omega) (by omega) (by omega)
    have b2 := hb.2 2 (by omega) (by omega) (by omega)
    have l : cv 0 a ≤ cv 0 b := l
    unfold cv at a1 a2 b1 b2 l
    simp at a1 a2 b1 b2 l
    omega
  · rw [q] at ha hb l e
    have a2 := ha.2 2 (by omega) (by omega) (by omega)
    have b2 := hb.2 2 (by omega) (by omega) (by omega)
    have e0 := e 0 (by omega) (by omega)
    have l : cv 1 a ≤ cv 1 b := l
    unfold cv at a2 b2 l e0
    simp at a2 b2 l e0
    omega
  · rw [q] at l e
    have e0 := e 0 (by omega) (by omega)
    have e1 := e 1 (by omega) (by omega)
    have l : cv 2 a ≤ cv 2 b := l
    unfold cv at l e0 e1
    simp at l e0 e1
    omega
section CLO3
variable {cl kd ly : Int → Int} {oc : Int → Int → Prop}
/-- the bindings of a rule -/
noncomputable def bnds (u : mU) (ω : mW) : List mA := bnd u.2.2.2.1 ω u.2.2.2.2.toNat 0 v0
/-- the row that a binding makes -/
def hdc (cl : Int → Int) (u : mU) (v : mA) : Int := hcd u.2.2.1 v (cl u.2.1).toNat 0 0
theorem bnd_J {u : mU} {ω : mW} (G : GW u.2.2.2.1 ω u.2.2.2.2) : ∀ (n : Nat) (k : Int) (v w : mA), 0 ≤ k → k + n = u.2.2.2.2 → Jg u.2.2.2.1 k v → w ∈ bnd u.2.2.2.1 ω n k v → Jg u.2.2.2.1 u.2.2.2.2 w := by
  intro n
  induction n with
  | zero =>
    intro k v w k0 kN hJ hw
    have hw := List.mem_singleton.mp (show w ∈ [v] from hw)
    rw [hw, ← show k = u.2.2.2.2 by omega]
    exact hJ
  | succ n ih =>
    intro k v w k0 kN hJ hw
    obtain ⟨x, hx, hwx⟩ := List.mem_flatMap.mp (show w ∈ (opt u.2.2.2.1 ω k v).flatMap (fun w => bnd u.2.2.2.1 ω n (k + 1) w) from hw)
    exact ih (k + 1) x w (by omega) (by omega) (opt_J G ⟨k0, by omega⟩ hJ hx).1 hwx
theorem bnds_J {u : mU} {ω : mW} (G : GW u.2.2.2.1 ω u.2.2.2.2) {w : mA} (hw : w ∈ bnds u ω) : Jg u.2.2.2.1 u.2.2.2.2 w :=
  bnd_J G _ 0 v0 w (by omega) (by have := G.1.1; omega) (v0_J _) hw
theorem hd_r {u : mU} (R : RU cl kd ly oc u) {w : mA} (hJ : Jg u.2.2.2.1 u.2.2.2.2 w) {j : Int} (j0 : 0 ≤ j) (j1 : j < cl u.2.1) : 0 ≤ tv w (u.2.2.1 j) ∧ tv w (u.2.2.1 j) ≤ 99 := by
  obtain ⟨r1, r2, r3, r4, r5, r6, r7⟩ := R
  exact tv_g hJ (r6 j j0 j1).1 (r6 j j0 j1).2
theorem hd_cv {u : mU} (D : DC cl kd) (R : RU cl kd ly oc u) {w : mA} (hJ : Jg u.2.2.2.1 u.2.2.2.2 w) : (∀ i, 0 ≤ i → i < cl u.2.1 → cv i (hdc cl u w) = tv w (u.2.2.1 i)) ∧ vcd (cl u.2.1) (hdc cl u w) := by
  have hd := (D _ R.2.1.1 R.2.1.2).1
  exact hcd_cv (by omega) (fun j j0 j1 => hd_r R hJ j0 j1)
/-- a binding that is ahead makes a row that is as good -/
theorem hd_cvr {u : mU} (D : DC cl kd) (R : RU cl kd ly oc u) (hu : u.1 = 0) {w w' : mA} (J : Jg u.2.2.2.1 u.2.2.2.2 w) (J' : Jg u.2.2.2.1 u.2.2.2.2 w') (w2 : cle (crs kd oc u.2.2.2.1 u.2.1 u.2.2.2.2.toNat) w' w) : cvr cl kd u.2.1 (hdc cl u w') (hdc cl u w) := by
  obtain ⟨c1, c2⟩ := hd_cv D R J
  obtain ⟨d1, d2⟩ := hd_cv D R J'
  have hd := D _ R.2.1.1 R.2.1.2
  have hlast := R.2.2.2.2.2.2 hu
  have hkey : ∀ i, 0 ≤ i → i < kwd cl kd u.2.1 → cv i (hdc cl u w') = cv i (hdc cl u w) := by
    intro i i0 i1
    have i2 : i < cl u.2.1 ∧ (kd u.2.1 ≠ 0 → i < cl u.2.1 - 1) := by
      unfold kwd at i1
      split at i1
      · rename_i q; exact ⟨i1, fun z => absurd q z⟩
      · exact ⟨by omega, fun _ => i1⟩
    rw [c1 i i0 i2.1, d1 i i0 i2.1]
    rcases hlast i i0 i2.1 with q | ⟨q1, q2, _⟩
    · exact tv_st w2 q
    · have := i2.2 q1; omega
  have hval : kd u.2.1 ≠ 0 → (∀ i, 0 ≤ i → i < cl u.2.1 - 1 → cv i (hdc cl u w') = cv i (hdc cl u w)) ∧ (kd u.2.1 = 1 → cv (cl u.2.1 - 1) (hdc cl u w') ≤ cv (cl u.2.1 - 1) (hdc cl u w)) ∧ (kd u.2.1 = 2 → cv (cl u.2.1 - 1) (hdc cl u w) ≤ cv (cl u.2.1 - 1) (hdc cl u w')) := by
    intro hk
    refine ⟨fun i i0 i1 => hkey i i0 (by unfold kwd; rw [if_neg hk]; exact i1), fun q => ?_, fun q => ?_⟩
    · rw [c1 _ (by omega) (by omega), d1 _ (by omega) (by omega)]
      have t := tv_le w2 (u.2.2.1 (cl u.2.1 - 1))
      rcases hlast (cl u.2.1 - 1) (by omega) (by omega) with z | ⟨_, _, z⟩
      · rw [t.1 z]; exact Int.le_refl _
      · rw [if_pos q] at z
        exact t.2.1 z
    · rw [c1 _ (by omega) (by omega), d1 _ (by omega) (by omega)]
      have t := tv_le w2 (u.2.2.1 (cl u.2.1 - 1))
      rcases hlast (cl u.2.1 - 1) (by omega) (by omega) with z | ⟨_, _, z⟩
      · rw [t.1 z]; exact Int.le_refl _
      · rw [if_neg (by omega)] at z
        exact t.2.2 z
  refine ⟨hkey, fun q => ?_, fun q => ?_⟩
  · obtain ⟨v1, v2, _⟩ := hval (by omega)
    exact vcd_le hd.1 d2 c2 v1 (v2 q)
  · obtain ⟨v1, _, v3⟩ := hval (by omega)
    exact vcd_le hd.1 c2 d2 (fun i i0 i1 => (v1 i i0 i1).symm) (v3 q)
/-- what follows, is covered -/
theorem mkF_cov {u : mU} {ω ω' : mW} {Dm : Int → Prop} (D : DC cl kd) (R : RU cl kd ly oc u) (hu : u.1 = 0) (V : VW cl kd ω) (V' : VW cl kd ω') (HD : ∀ k, 0 ≤ k → k < u.2.2.2.2 → (u.2.2.2.1.1 k = 0 ∨ u.2.2.2.1.1 k = 1) → Dm (u.2.2.2.1.2.1 k))
    (A1 : ∀ r, 0 ≤ r → r < 6 → Dm r → ly r < ly u.2.1 → ∀ c, inW ω r c ↔ inW ω' r c) (A2 : ∀ r, 0 ≤ r → r < 6 → Dm r → ly r ≤ ly u.2.1 → ∀ c, inW ω r c → cov cl kd ω' r c) {w : mA} (hw : w ∈ bnds u ω) :
    ∃ w', w' ∈ bnds u ω' ∧ cvr cl kd u.2.1 (hdc cl u w') (hdc cl u w) := by
  have G := RU_GW D R V
  obtain ⟨w', w1, w2, J, J'⟩ := mono_bnd D R hu V V' HD A1 A2 u.2.2.2.2.toNat 0 v0 v0 w (by omega) (by have := G.1.1; omega) (v0_J _) (v0_J _) (fun s _ h => absurd rfl h) (cle_refl _ _) hw
  exact ⟨w', w1, hd_cvr D R hu J J' w2⟩
end CLO3
