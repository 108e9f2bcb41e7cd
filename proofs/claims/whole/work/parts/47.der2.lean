/-! THE DERIVATION'S STEP -/
theorem hcd_cg {t : Int → Int} {v w : mA} : ∀ {n : Nat} {i z : Int}, (∀ j, i ≤ j → j < i + n → tv w (t j) = tv v (t j)) → hcd t w n i z = hcd t v n i z
  | 0, _, _, _ => rfl
  | n + 1, i, z, h => by
    show hcd t w n (i + 1) (z + dm_unit i * tv w (t i)) = hcd t v n (i + 1) (z + dm_unit i * tv v (t i))
    rw [h i (by omega) (by omega), hcd_cg (fun j j0 j1 => h j (by omega) (by omega))]
theorem gro_q {cl kd : Int → Int} {P : Nat} {s : Int} (hp : rw_ P) {h h' : dm_H} (a : Jq P h h') : gro cl kd P s h h' := by
  intro r r0 r1
  have e := Jq_W hp a r r0 r1
  have e1 : rsz h' P r = rsz h P r := e.1
  have e2 : ∀ x, rws h' P r x = rws h P r x := e.2
  rw [e1, Jq_l hp a]
  exact ⟨Int.le_refl _, fun x _ _ => Or.inl ⟨e2 x, Jq_t hp a ⟨r0, r1⟩ x⟩, fun x _ _ _ => by omega, Int.le_refl _, Or.inl rfl⟩
/-- how many bindings there can be -/
def abf (ρ : mR) : Nat → Int → Int
  | 0, _ => 1
  | n + 1, k => (if ρ.1 k = 0 then 32 else 1) * abf ρ n (k + 1)
theorem abf_pos (ρ : mR) : ∀ (n : Nat) (k : Int), 1 ≤ abf ρ n k
  | 0, _ => Int.le_refl _
  | n + 1, k => by
    have := abf_pos ρ n (k + 1)
    show 1 ≤ (if ρ.1 k = 0 then 32 else 1) * abf ρ n (k + 1)
    split <;> omega
section DST
variable {A P : Nat} {h0 : dm_H} {oc : Int → Int → Prop} {ft : Int → Int → Prop} {RL : mU → Prop} {s N rd na : Int}
variable (A P h0 oc RL s N rd) in
/-- what is known as a rule is looked at -/
def DW : Prop := SW A P N rd h0 ∧ RK h0 ∧ RU (cK h0) (gi h0 4) (gi h0 7) oc (uR h0 A) ∧ gi h0 A 1 = 0 ∧ RL (uR h0 A) ∧ gi h0 A 2 < gi h0 2 0 ∧ gi h0 A 3 = cK h0 (gi h0 A 2) ∧ N = gi h0 A 4 ∧ (gr h0 143 6 = A ∧ gr h0 143 5 = P) ∧ (0 ≤ gi h0 143 7 ∧ gi h0 143 7 + 1 = s ∧ s ≤ 1000000 ∧ rd < s) ∧ (gi h0 A 7 ≤ N ∧ ∀ i, 0 ≤ i → i < cK h0 (gi h0 A 2) → slot (gi h0 (A + 1) i) ≠ -1 → kng (cR h0 A) (gi h0 A 7) (slot (gi h0 (A + 1) i))) ∧ gi h0 137 4 = 1000000
theorem ru_g {A : Nat} (hr : ru A) : (15 ≤ A ∧ A + 7 ≤ 94) ∨ A = 129 := by unfold ru at hr; omega
/-- the rule's own cells stay -/
theorem frD_A {h : dm_H} (hr : ru A) (hp : rw_ P) (f : frD P h0 h) : ∀ a, (A ≤ a ∧ a ≤ A + 7) ∨ (2 ≤ a ∧ a ≤ 14) → ∀ i, gi h a i = gi h0 a i := by
  have := ru_g hr
  unfold rw_ at hp
  exact fun a ha i => f.1 a i (by omega) (by omega) (by omega) (by omega) (by omega) (by omega)
theorem frD_K {h : dm_H} (hr : ru A) (hp : rw_ P) (f : frD P h0 h) (K : RK h0) : RK h ∧ cK h = cK h0 ∧ gi h 4 = gi h0 4 := by
  have e := fun a ha => frD_A hr hp f a (Or.inr ha)
  refine ⟨?_, ?_, funext (e 4 (by omega))⟩
  · unfold RK
    rw [e 2 (by omega)]
    refine ⟨K.1, fun r r0 r1 => ?_⟩
    rw [e 3 (by omega), e 4 (by omega), e 5 (by omega)]
    exact K.2 r r0 r1
  · funext r
    unfold cK
    rw [e 3 (by omega)]
theorem hdc_known (W : DW A P h0 oc RL s N rd) {k : Int} (hk : gi h0 A 7 ≤ k) {v w : mA} (hJ : Jg (cR h0 A) k v) (hl : lev v w) : hdc (cK h0) (uR h0 A) w = hdc (cK h0) (uR h0 A) v := by
  obtain ⟨w1, w2, w3, w4, w5, w6, w7, w8, w9, w10, w11, w12⟩ := W
  have D := RK_D w2 _ w3.2.1.1 w3.2.1.2
  refine hcd_cg (fun j j0 j1 => lev_tv hl (fun q => hJ.2.2 _ q ?_))
  obtain ⟨z, z0, z1, z2⟩ := w11.2 j j0 (by have e : (uR h0 A).2.1 = gi h0 A 2 := rfl; rw [e] at j1; rw [e] at D; omega) q
  exact ⟨z, z0, by omega, z2⟩
/-- the head's terms are known -/
theorem hdc_rd (W : DW A P h0 oc RL s N rd) {k : Int} (hk : gi h0 A 7 ≤ k) {v : mA} (hJ : Jg (cR h0 A) k v) {j : Int} (j0 : 0 ≤ j) (j1 : j < cK h0 (gi h0 A 2)) : 0 ≤ tv v (gi h0 (A + 1) j) ∧ tv v (gi h0 (A + 1) j) ≤ 99 := by
  obtain ⟨w1, w2, w3, w4, w5, w6, w7, w8, w9, w10, w11, w12⟩ := W
  refine tv_g hJ (w3.2.2.2.2.2.1 j j0 j1).1 (fun q => ?_)
  obtain ⟨z, z0, z1, z2⟩ := w11.2 j j0 j1 q
  exact ⟨z, z0, by omega, z2⟩
theorem s32 {d : Nat} (hd : 3 ≤ d) (W : DW A P h0 oc RL s N rd) {L : Int} {h : dm_H} {k : Int} {v : mA} (I : inv P h0 ft RL s L h) (va_ : va h 138 = v) (hJ : Jg (cR h0 A) k v) (hkN : k ≤ N) :
    (k < gi h0 A 7 → dF d 32 [dR 1 1 143, dI k] h = rI 1 h) ∧
    (gi h0 A 7 ≤ k → k < N → ∃ g, (g = 0 ∨ g = 1) ∧ dF d 32 [dR 1 1 143, dI k] h = rI g h ∧ (g = 0 → cov (cK h0) (gi h0 4) (cW h P) (gi h0 A 2) (hdc (cK h0) (uR h0 A) v))) ∧
    (k = N → ∃ b h1, pt (cK h0) (gi h0 4) P s (gi h0 A 2) (hdc (cK h0) (uR h0 A) v) b h h1 ∧ dF d 32 [dR 1 1 143, dI k] h = rI 0 (if gi h1 P 5 = 0 then (if b = 0 then h1 else si h1 143 8 1) else si (if b = 0 then h1 else si h1 143 8 1) 137 5 1)) := by
  have W0 := W
  obtain ⟨w1, w2, w3, w4, w5, w6, w7, w8, w9, w10, w11, w12⟩ := W0
  obtain ⟨k1, k2, k3, k4, k5, k6, k7, k8⟩ := I
  have hru := w1.1
  have hrw := w1.2.1
  have eA := fun a ha => frD_A hru hrw k1 a (Or.inl ha)
  obtain ⟨K, ec, ek⟩ := frD_K hru hrw k1 w2
  have er6 : gr h 143 6 = A := by rw [k1.2.1]; exact w9.1
  have er5 : gr h 143 5 = P := by rw [k1.2.1]; exact w9.2
  have hP : P = 95 ∨ P = 112 := hrw
  have er7 : gi h 143 7 = gi h0 143 7 := k1.1 143 7 (by omega) (by omega) (by omega) (by omega) (by omega) (by omega)
  have D := RK_D w2
  have hr6 : 0 ≤ gi h0 A 2 ∧ gi h0 A 2 < 6 := w3.2.1
  have d1 := (D _ hr6.1 hr6.2).1
  have hu := (w2.2 _ hr6.1 hr6.2).2 w6
  have hcode : gi h0 A 7 ≤ k → dF (d - 1) 26 [dR 1 8 A, dR 2 8 138, dI (cK h0 (gi h0 A 2))] h = rI (hdc (cK h0) (uR h0 A) v) h ∧ vcd (cK h0 (gi h0 A 2)) (hdc (cK h0) (uR h0 A) v) := by
    intro hk
    have hh := fun j j0 j1 => hdc_rd W hk hJ (j := j) j0 j1
    have e1 : gi h (A + 1) = gi h0 (A + 1) := funext (eA _ (by omega))
    have := s26 (d := d - 1) (by omega) A (cK h0 (gi h0 A 2)) h (by omega) (fun i i0 i1 => by rw [va_, e1]; exact hh i i0 i1)
    rw [va_, e1] at this
    exact ⟨this, (hcd_cv (by omega) hh).2⟩
  have hhead : gi h0 A 7 ≤ k → dF d 32 [dR 1 1 143, dI k] h = dL (d - 1) 32 34 [lR 1 1 143, lI k, none] [dI (hdc (cK h0) (uR h0 A) v)] h := by
    intro hk
    rw [f32 (by omega), b32_0, er6, eA A (by omega), if_neg (by omega), eA A (by omega), w7, (hcode hk).1, bk_v]
  refine ⟨fun q => ?_, fun q q2 => ?_, fun q => ?_⟩
  · rw [f32 (by omega), b32_0, er6, eA A (by omega), if_pos q]
  · obtain ⟨c1, c2⟩ := hcode q
    have hk1 : 1 ≤ gi h 5 (gi h0 A 2) := by
      have e5 : gi h 5 (gi h0 A 2) = gi h0 5 (gi h0 A 2) := frD_A hru hrw k1 5 (Or.inr (by omega)) _
      rw [e5, hu.2]
      split
      · omega
      · have := (w2.2 _ hr6.1 hr6.2).1.1
        rcases (show gi h0 3 (gi h0 A 2) = 1 ∨ gi h0 3 (gi h0 A 2) = 2 ∨ gi h0 3 (gi h0 A 2) = 3 by omega) with z | z | z <;> rw [z]
        · show 1 ≤ dm_unit 0 * 100; rw [dm_unit0]; omega
        · show 1 ≤ dm_unit 1 * 100; rw [dm_unit1]; omega
        · show 1 ≤ dm_unit 2 * 100; rw [dm_unit2]; omega
    obtain ⟨v1, v2, v3⟩ := k2 _ hr6.1 hr6.2
    have rk : rok h P (gi h0 A 2) := ⟨hr6, hk1, v1, fun x x0 x1 => (v2 x x0 x1).1.1⟩
    rw [hhead q, b32_34, er6, eA A (by omega), if_pos (by omega), er5, eA A (by omega), s33 (by omega) rk _ c2.1.1, bk_v, b32_61, z1_p (@bi_01 _ (Classical.propDecidable _))]
    refine ⟨_, @bi_01 _ (Classical.propDecidable _), rfl, fun z => ?_⟩
    have hw : ¬ wnt h P (gi h0 A 2) (hdc (cK h0) (uR h0 A) v) := by
      intro y
      rw [@bi_1 _ (Classical.propDecidable _) y] at z
      omega
    have hin := (riv_r h P (gi h0 A 2) (hdc (cK h0) (uR h0 A) v) v1.1).resolve_left (fun y => hw (Or.inl y.1))
    have hbt : ¬ btr (gi h 4 (gi h0 A 2)) (hdc (cK h0) (uR h0 A) v) (rws h P (gi h0 A 2) (riv h P (gi h0 A 2) (hdc (cK h0) (uR h0 A) v))) := fun y => hw (Or.inr y)
    rw [ek] at hbt
    have hky := (key_iff (n := cK h0 (gi h0 A 2)) (k := gi h0 4 (gi h0 A 2)) (ku := gi h 5 (gi h0 A 2)) d1 (by
      rw [show gi h 5 (gi h0 A 2) = gi h0 5 (gi h0 A 2) from frD_A hru hrw k1 5 (Or.inr (by omega)) _, RK_c w2 hr6.1 w6]
      exact hu.2) (v2 _ hin.1.1 hin.1.2) c2).mp hin.2
    refine ⟨_, ⟨_, hin.1.1, hin.1.2, rfl⟩, hky, fun y => ?_, fun y => ?_⟩
    · unfold btr at hbt
      show rws h P (gi h0 A 2) _ ≤ _
      omega
    · unfold btr at hbt
      show _ ≤ rws h P (gi h0 A 2) _
      omega
  · have q1 : gi h0 A 7 ≤ k := by omega
    obtain ⟨c1, c2⟩ := hcode q1
    have hn2 : gi h 2 0 = gi h0 2 0 := frD_A hru hrw k1 2 (Or.inr (by omega)) _
    obtain ⟨b, h1, e1, e2⟩ := s36p (d := d - 1) (by omega) hrw (r := gi h0 A 2) (c := hdc (cK h0) (uR h0 A) v) (s := s) K ⟨hr6.1, by rw [hn2]; exact w6⟩ (by rw [ec, ek]; exact k2) k3 (by rw [ec]; exact c2)
    rw [ec, ek] at e2
    have hf := e2.2.1
    have f5 : gr h1 143 5 = P := by rw [hf.2.1]; exact er5
    refine ⟨b, h1, e2, ?_⟩
    rw [hhead q1, b32_34, er6, eA A (by omega), if_neg (by omega), er7, ck_p (by omega) (by omega), er5, eA A (by omega), show gi h0 143 7 + 1 = s by omega, e1, bk_v, b32_83]
    by_cases b0 : b = 0
    · rw [if_pos b0, if_pos b0, b32_91, f5]
      by_cases t0 : gi h1 P 5 = 0
      · rw [if_pos t0, if_pos t0, b32_108]
      · rw [if_neg t0, if_neg t0, f37 (by omega), b37_0, bk_n, b32_108]
    · rw [if_neg b0, if_neg b0, b32_91, show gr (si h1 143 8 1) 143 5 = P from f5, gi_sin (by omega)]
      by_cases t0 : gi h1 P 5 = 0
      · rw [if_pos t0, if_pos t0, b32_108]
      · rw [if_neg t0, if_neg t0, f37 (by omega), b37_0, bk_n, b32_108]
end DST
