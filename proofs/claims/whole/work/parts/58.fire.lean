/-! A RULE FIRES: what goes from rule to rule -/
section RUN
variable {P : Nat} {hB : dm_H} {oc : Int → Int → Prop} {ft : Int → Int → Prop} {RL : mU → Prop} {s L : Int}
theorem SW_of {A : Nat} {h : dm_H} {rd : Int} {cl kd ly : Int → Int} (D : DC cl kd) (hr : ru A) (hp : rw_ P) (hrd : 0 ≤ rd ∧ rd ≤ 2000000) (R : RU cl kd ly oc (uR h A)) : SW A P (gi h A 4) rd h := by
  obtain ⟨r1, r2, r3, r4, r5, r6, r7⟩ := R
  refine ⟨hr, hp, r3, hrd, fun k k0 k1 => ?_⟩
  rcases r4 k k0 k1 with ⟨z, z1, z2, z3, z4⟩ | ⟨z, z1⟩
  · have z2 : gi h (A + 4) k = cl (gi h (A + 3) k) := z2
    have d := (D _ z1.1 z1.2).1
    have d : 1 ≤ cl (gi h (A + 3) k) ∧ cl (gi h (A + 3) k) ≤ 3 := d
    exact Or.inl ⟨z, z1, by omega⟩
  · rcases z with z | ⟨z, z3, z4, z5⟩
    · exact Or.inr (Or.inl z)
    · refine Or.inr (Or.inr ⟨z, ?_, z1⟩)
      have z3 : 100 ≤ tm h A k 2 ∧ tm h A k 2 ≤ 107 := z3
      have := slot_v (t := tm h A k 2) z3
      omega
/-- cells that stay while a run goes on -/
theorem frR_e {A : Nat} (hr : ru A) (hp : rw_ P) {h : dm_H} (f : frR P hB h) : (∀ a, (A ≤ a ∧ a ≤ A + 7) ∨ (2 ≤ a ∧ a ≤ 14) → ∀ i, gi h a i = gi hB a i) ∧ uR h A = uR hB A ∧ cR h A = cR hB A ∧ cK h = cK hB ∧ gi h 4 = gi hB 4 ∧ gi h 7 = gi hB 7 := by
  have hA := ru_g hr
  have hP : P = 95 ∨ P = 112 := hp
  have e : ∀ a, (A ≤ a ∧ a ≤ A + 7) ∨ (2 ≤ a ∧ a ≤ 14) → ∀ i, gi h a i = gi hB a i := fun a ha i => f.1 a i (by omega) (by omega) (by omega)
  have ec : cR h A = cR hB A := by
    unfold cR
    rw [show gi h (A + 2) = gi hB (A + 2) from funext (e _ (by omega)), show gi h (A + 3) = gi hB (A + 3) from funext (e _ (by omega)), show gi h (A + 4) = gi hB (A + 4) from funext (e _ (by omega)), show (fun k => tm h A k) = (fun k => tm hB A k) from funext (fun k => funext (fun i => e _ (by omega) _))]
  refine ⟨e, ?_, ec, ?_, funext (e 4 (by omega)), funext (e 7 (by omega))⟩
  · unfold uR
    rw [ec, e A (by omega), e A (by omega), e A (by omega), show gi h (A + 1) = gi hB (A + 1) from funext (e _ (by omega))]
  · funext r
    unfold cK
    rw [e 3 (by omega)]
theorem cnd_cg {h : dm_H} (ec : cK h = cK hB) (e4 : gi h 4 = gi hB 4) (e7 : gi h 7 = gi hB 7) (el : ∀ r, 0 ≤ r → r < 6 → gi hB 7 r < L → rsz h P r = rsz hB P r ∧ ∀ x, rws h P r x = rws hB P r x) {Dm : Int → Prop} {ω' : mW} : cnd P h ft RL Dm ω' L ↔ cnd P hB ft RL Dm ω' L := by
  have hi : ∀ r, 0 ≤ r → r < 6 → gi hB 7 r < L → ∀ c, inW (cW h P) r c ↔ inW (cW hB P) r c := by
    intro r r0 r1 l c
    obtain ⟨a1, a2⟩ := el r r0 r1 l
    show (∃ x, 0 ≤ x ∧ x < rsz h P r ∧ rws h P r x = c) ↔ (∃ x, 0 ≤ x ∧ x < rsz hB P r ∧ rws hB P r x = c)
    rw [a1]
    constructor
    · rintro ⟨x, x0, x1, x2⟩; exact ⟨x, x0, x1, by rw [← a2]; exact x2⟩
    · rintro ⟨x, x0, x1, x2⟩; exact ⟨x, x0, x1, by rw [a2]; exact x2⟩
  unfold cnd
  rw [ec, e4, e7]
  constructor
  · rintro ⟨c1, c2, c3, c4⟩
    exact ⟨c1, c2, fun r r0 r1 q l c => by rw [← hi r r0 r1 l c]; exact c3 r r0 r1 q l c, c4⟩
  · rintro ⟨c1, c2, c3, c4⟩
    exact ⟨c1, c2, fun r r0 r1 q l c => by rw [hi r r0 r1 l c]; exact c3 r r0 r1 q l c, c4⟩
variable (P hB ft RL s L) in
/-- what holds all along a layer, from rule to rule -/
def RI (h : dm_H) : Prop := frR P hB h ∧ VW (cK hB) (gi hB 4) (cW h P) ∧ stp_ P s h ∧ snd_ P hB ft RL L h ∧ (∀ r, 0 ≤ r → r < 6 → gi hB 7 r ≠ L → rsz h P r = rsz hB P r ∧ ∀ x, rws h P r x = rws hB P r x) ∧ (gi h P 5 = 0 ∨ (gi h P 5 = 1 ∧ tmp P hB ft RL L))
/-- the two have the same in the store at P -/
def smP (P : Nat) (h h' : dm_H) : Prop := ∀ a i, P ≤ a → a ≤ P + 16 → gi h' a i = gi h a i
theorem RI_P {A : Nat} (hr : ru A) (hp : rw_ P) {h h' : dm_H} (k : RI P hB ft RL s L h) (f : frR P h h') (e : smP P h h') : RI P hB ft RL s L h' := by
  obtain ⟨k1, k2, k3, k4, k5, k6⟩ := k
  have ez : ∀ r, rsz h' P r = rsz h P r := fun r => e _ _ (by omega) (by omega)
  have ew : ∀ r, 0 ≤ r → r < 6 → ∀ x, rws h' P r x = rws h P r x := fun r r0 r1 x => e _ _ (by omega) (by omega)
  have et : ∀ r, 0 ≤ r → r < 6 → ∀ x, rst h' P r x = rst h P r x := fun r r0 r1 x => e _ _ (by omega) (by omega)
  have eW : smW (cW h P) (cW h' P) := fun r r0 r1 => ⟨ez r, ew r r0 r1⟩
  refine ⟨frR_trans k1 f, smW_VW eW k2, fun r r0 r1 => ?_, fun Dm ω' cn r r0 r1 q l c hc => k4 Dm ω' cn r r0 r1 q l c ((smW_in eW ⟨r0, r1⟩).mp hc), fun r r0 r1 q => ?_, by rw [e P 5 (by omega) (by omega)]; exact k6⟩
  · obtain ⟨a1, a2⟩ := k3 r r0 r1
    rw [e (P + 16) r (by omega) (by omega), ez]
    exact ⟨a1, fun x x0 x1 => by rw [et r r0 r1]; exact a2 x x0 x1⟩
  · obtain ⟨a1, a2⟩ := k5 r r0 r1 q
    exact ⟨by rw [ez]; exact a1, fun x => by rw [ew r r0 r1]; exact a2 x⟩
/-- to the invariant of one joining -/
theorem RI_inv {A : Nat} (hr : ru A) (hp : rw_ P) {h : dm_H} (k : RI P hB ft RL s L h) : inv P h ft RL s L h := by
  obtain ⟨k1, k2, k3, k4, k5, k6⟩ := k
  obtain ⟨e1, e2, e3, e4, e5, e6⟩ := frR_e hr hp k1
  have cg : ∀ {Dm ω'}, cnd P h ft RL Dm ω' L ↔ cnd P hB ft RL Dm ω' L := cnd_cg e4 e5 e6 (fun r r0 r1 q => k5 r r0 r1 (by omega))
  refine ⟨frD_refl P h, by rw [e4, e5]; exact k2, k3, gro_refl P s h, ?_, fun r _ _ _ => ⟨rfl, fun _ => rfl⟩, ?_, Or.inl ⟨rfl, fun r _ _ => ⟨rfl, fun _ => rfl⟩⟩⟩
  · intro Dm ω' cn r r0 r1 q l c hc
    rw [e4, e5]
    rw [e6] at l
    exact k4 Dm ω' (cg.mp cn) r r0 r1 q l c hc
  · rcases k6 with z | ⟨z, z2⟩
    · exact Or.inl z
    · exact Or.inr ⟨z, fun ω' cn => z2 ω' (cg.mp cn)⟩
/-- and back -/
theorem inv_RI {A : Nat} (hr : ru A) (hp : rw_ P) {h h' : dm_H} (k : RI P hB ft RL s L h) (i : inv P h ft RL s L h') : RI P hB ft RL s L h' := by
  obtain ⟨k1, k2, k3, k4, k5, k6⟩ := k
  obtain ⟨i1, i2, i3, i4, i5, i6, i7, i8⟩ := i
  obtain ⟨e1, e2, e3, e4, e5, e6⟩ := frR_e hr hp k1
  have cg : ∀ {Dm ω'}, cnd P h ft RL Dm ω' L ↔ cnd P hB ft RL Dm ω' L := cnd_cg e4 e5 e6 (fun r r0 r1 q => k5 r r0 r1 (by omega))
  rw [e4, e5] at i2
  rw [e6] at i6
  refine ⟨frR_trans k1 (frR_D i1), i2, i3, ?_, fun r r0 r1 q => ?_, ?_⟩
  · intro Dm ω' cn r r0 r1 q l c hc
    have := i5 Dm ω' (cg.mpr cn) r r0 r1 q (by rw [e6]; exact l) c hc
    rw [e4, e5] at this
    exact this
  · obtain ⟨a1, a2⟩ := i6 r r0 r1 q
    obtain ⟨b1, b2⟩ := k5 r r0 r1 q
    exact ⟨by rw [a1, b1], fun x => by rw [a2, b2]⟩
  · rcases i7 with z | ⟨z, z2⟩
    · exact Or.inl z
    · exact Or.inr ⟨z, fun ω' cn => z2 ω' (cg.mpr cn)⟩
variable (hB oc RL) in
/-- a rule that stands in the book -/
def RP (A : Nat) : Prop := ru A ∧ RU (cK hB) (gi hB 4) (gi hB 7) oc (uR hB A) ∧ RL (uR hB A) ∧ gi hB A 2 < gi hB 2 0 ∧ gi hB A 3 = cK hB (gi hB A 2) ∧ (gi hB A 7 ≤ gi hB A 4 ∧ ∀ i, 0 ≤ i → i < cK hB (gi hB A 2) → slot (gi hB (A + 1) i) ≠ -1 → kng (cR hB A) (gi hB A 7) (slot (gi hB (A + 1) i))) ∧ abf (cR hB A) (gi hB A 4).toNat 0 ≤ 999999
/-- a FOLLOWS rule is gone through once, from the heap that has it all set -/
theorem join_F {A : Nat} (hp : rw_ P) (K : RK hB) (R : RP hB oc RL A) (hk : gi hB A 1 = 0) (hL : gi hB 7 (gi hB A 2) = L) {h : dm_H} (I : RI P hB ft RL s L h) {rd na : Int} (hrd : 0 ≤ rd ∧ rd < s ∧ s ≤ 1000000) (r6 : gr h 143 6 = A) (r5 : gr h 143 5 = P) (h7 : 0 ≤ gi h 143 7 ∧ gi h 143 7 + 1 = s) (j6 : gr h 137 6 = A ∧ gr h 137 7 = P ∧ gr h 137 8 = 143) (jv : va h 138 = v0) (jj : gi h 137 2 = 0 ∧ gi h 137 4 = 1000000 ∧ gi h 137 5 = 0 ∧ gi h 137 9 = rd ∧ gi h 137 10 = na) {d : Nat} (hd : 8 ≤ d) :
    ∃ h', dF d 22 [dR 1 5 137, dI 0] h = rV h' ∧ RI P hB ft RL s L h' ∧ frD P h h' ∧ gro (cK hB) (gi hB 4) P s h h' ∧ ((gi h' 143 8 = gi h 143 8 ∧ smW (cW h P) (cW h' P)) ∨ (gi h' 143 8 = 1 ∧ (s = 1 ∨ wgh (cK hB) (gi hB 4) (cW h P) < wgh (cK hB) (gi hB 4) (cW h' P)))) ∧ (gi h' P 5 = 0 → gi h P 5 = 0 ∧ ∀ w, vbq A P h' (Qr rd na) (gi hB A 4).toNat 0 v0 w → cov (cK hB) (gi hB 4) (cW h' P) (gi hB A 2) (hdc (cK hB) (uR hB A) w)) := by
  obtain ⟨a1, a2, a3, a4, a5, a6, a7⟩ := R
  obtain ⟨e1, e2, e3, e4, e5, e6⟩ := frR_e a1 hp I.1
  have eA := fun i => e1 A (by omega) i
  have ei := RI_inv a1 hp I
  have hK : RK h := by
    unfold RK
    rw [e1 2 (by omega)]
    refine ⟨K.1, fun r r0 r1 => ?_⟩
    rw [e1 3 (by omega), e1 4 (by omega), e1 5 (by omega)]
    exact K.2 r r0 r1
  have W : SW A P (gi hB A 4) rd h := by
    have := SW_of (P := P) (h := h) (rd := rd) (RK_D K) a1 hp (by omega) (by rw [e2]; exact a2)
    rw [eA] at this
    exact this
  have DWh : DW A P h oc RL s (gi hB A 4) rd := by
    refine ⟨W, hK, by rw [e4, e5, e6, e2]; exact a2, by rw [eA]; exact hk, by rw [e2]; exact a3, by rw [eA, e1 2 (by omega)]; exact a4, by rw [eA, eA, e4]; exact a5, by rw [eA], ⟨r6, r5⟩, ⟨h7.1, h7.2, hrd.2.2, hrd.2.1⟩, ⟨by rw [eA]; exact a6.1, fun i i0 i1 q => ?_⟩, jj.2.1⟩
    rw [e1 (A + 1) (by omega)] at q
    rw [e1 (A + 1) (by omega), e3, eA]
    rw [eA, e4] at i1
    exact a6.2 i i0 i1 q
  have J : Js A P 143 (gi hB A 4) rd na h h := ⟨j6.1, j6.2.1, j6.2.2, eA 4, fun _ => rfl, fun _ => rfl, fun _ => rfl, fun _ => rfl, fun _ => rfl, jj.2.2.2.1, jj.2.2.2.2, fun r r0 r1 => (I.2.1 r r0 r1).1, fun r p r0 r1 p0 p1 => ((I.2.1 r r0 r1).2.1 p p0 p1).1⟩
  have hL' : gi h 7 (gi h A 2) = L := by rw [eA, e6]; exact hL
  have hPS : PS A P h oc ft RL (gi hB A 4) (gi h 7 (gi h A 2)) 0 v0 := by
    intro Dm ω' cn hD
    refine ⟨v0, fun w hw => ?_, v0_J _, cle_refl _ _⟩
    rw [show gi hB A 4 - 0 = gi h A 4 by rw [eA]; omega] at hw
    exact hw
  obtain ⟨h', q1, q2, q3, q4⟩ := der_step (ft := ft) (na := na) (t0 := gi h P 5) DWh (by rw [e3]; exact a7) (v0_J (cR h A)) J jv (by rw [hL']; exact ei) hPS (fun s _ z => absurd rfl z) jj.2.2.1 rfl jj.1 hd
  rw [hL'] at q2
  refine ⟨h', q1, inv_RI a1 hp I q2, q2.1, by rw [e4, e5] at q3; exact q3, ?_, fun z => ?_⟩
  · have := q2.2.2.2.2.2.2.2
    rw [e4, e5] at this
    exact this
  · obtain ⟨y1, y2⟩ := q4 z
    refine ⟨y1, fun w hw => ?_⟩
    have hj : ∀ i, i = 9 ∨ i = 10 → gi h' 137 i = gi h 137 i := fun i hi => by
      have hP : P = 95 ∨ P = 112 := hp
      exact q2.1.1 137 i (by omega) (by omega) (by omega) (by omega) (by omega) (by omega)
    have := y2 w (vb_vbq (fun j hj i => frD_A a1 hp q2.1 _ (Or.inl (by omega)) i) (by rw [hj 9 (by omega)]; exact jj.2.2.2.1) (by rw [hj 10 (by omega)]; exact jj.2.2.2.2) _ 0 v0 w hw)
    rw [e4, e5, eA, e2] at this
    exact this
end RUN
