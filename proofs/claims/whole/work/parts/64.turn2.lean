/-! A TURN -/
section TURN2
variable {P : Nat} {hB : dm_H} {oc : Int → Int → Prop} {RL : mU → Prop} {L : Int}
variable (hB oc RL) in
/-- the book -/
def BK : Prop := (0 ≤ gi hB 13 1 ∧ gi hB 13 1 ≤ 10) ∧ ∀ j, 0 ≤ j → j < gi hB 13 1 → ru (gr hB 14 j) ∧ (gi hB (gr hB 14 j) 1 = 3 ∨ ((gi hB (gr hB 14 j) 1 = 0 ∨ gi hB (gr hB 14 j) 1 = 1 ∨ gi hB (gr hB 14 j) 1 = 2) ∧ RP hB oc RL (gr hB 14 j) ∧ ∀ k, 0 ≤ k → k < gi hB (gr hB 14 j) 4 → gi hB (gr hB 14 j + 2) k = 0 → gi hB (gr hB 14 j + 6) k = 0 → ∀ i, 0 ≤ i → i < gi hB (gr hB 14 j + 4) k → tm hB (gr hB 14 j) k i ≠ -1))
variable (P hB) in
/-- the rule at A has been looked at in round r -/
def dn (A : Nat) (r : Int) (hs h : dm_H) : Prop := (gi hB A 1 = 0 → (r = 0 → ∀ w, vbq A P h (Qr 0 (-1)) (gi hB A 4).toNat 0 v0 w → cov (cK hB) (gi hB 4) (cW h P) (gi hB A 2) (hdc (cK hB) (uR hB A) w)) ∧ (0 < r → ∀ na, 0 ≤ na → na < gi hB A 4 → gi hB (A + 2) na = 0 → ∀ w, vbq A P h (Qr r na) (gi hB A 4).toNat 0 v0 w → cov (cK hB) (gi hB 4) (cW h P) (gi hB A 2) (hdc (cK hB) (uR hB A) w))) ∧ (gi hB A 1 ≠ 0 → r = 0 → ∀ c, mkd (cK hB) (uR hB A) (cW hs P) c → cov (cK hB) (gi hB 4) (cW h P) (gi hB A 2) c)
theorem dn_gro {A : Nat} (hp : rw_ P) (K : RK hB) (R : RP hB oc RL A) (hL : gi hB 7 (gi hB A 2) = L) {r s : Int} (hr : 0 ≤ r ∧ r < s) {ft : Int → Int → Prop} {hs h h' : dm_H} (I : RI P hB ft RL s L h) (I' : RI P hB ft RL s L h') (g : gro (cK hB) (gi hB 4) P s h h') (k : dn P hB A r hs h) : dn P hB A r hs h' := by
  have hN := R.2.1.2.2.1
  have hN : 0 ≤ gi hB A 4 ∧ gi hB A 4 ≤ 4 := hN
  have hr6 : 0 ≤ gi hB A 2 ∧ gi hB A 2 < 6 := R.2.1.2.1
  refine ⟨fun q => ⟨fun z w hw => ?_, fun z na n0 n1 n2 w hw => ?_⟩, fun q z c hc => gro_cov g hr6 (k.2 q z c hc)⟩
  · exact gro_cov g hr6 ((k.1 q).1 z w (vbq_mono hp K R hL I I' g (fun k t ht => by have := Qr_lt ht; omega) _ 0 v0 w (by omega) (by omega) hw))
  · exact gro_cov g hr6 ((k.1 q).2 z na n0 n1 n2 w (vbq_mono hp K R hL I I' g (fun k t ht => by have := Qr_lt ht; omega) _ 0 v0 w (by omega) (by omega) hw))
/-- one rule, whatever it is -/
theorem fire {A : Nat} (hp : rw_ P) (K : RK hB) (R : RP hB oc RL A) (hk : gi hB A 1 = 0 ∨ gi hB A 1 = 1 ∨ gi hB A 1 = 2) (hL : gi hB 7 (gi hB A 2) = L) (hAny : ∀ k, 0 ≤ k → k < gi hB A 4 → gi hB (A + 2) k = 0 → gi hB (A + 6) k = 0 → ∀ i, 0 ≤ i → i < gi hB (A + 4) k → tm hB A k i ≠ -1) {r s : Int} (hr : 0 ≤ r ∧ r + 1 = s ∧ s ≤ 1000000) {ft : Int → Int → Prop} {h : dm_H} (I : RI P hB ft RL s L h) (o : oldl P hB L h) (r6 : gr h 143 6 = A) (r5 : gr h 143 5 = P) (h7 : gi h 143 7 = r) {d : Nat} (hd : 9 ≤ d) :
    ∃ h' ft', dF d 61 [dR 1 1 143] h = rV h' ∧ (∀ r c, ft r c → ft' r c) ∧ RI P hB ft' RL s L h' ∧ frR P h h' ∧ gro (cK hB) (gi hB 4) P s h h' ∧ (gr h' 143 6 = A ∧ gr h' 143 5 = P ∧ gi h' 143 7 = r) ∧ (gi h' P 5 ≠ 0 → tmp P hB ft RL L) ∧ (gi h' P 5 = 0 → ft' = ft ∧ gi h P 5 = 0 ∧ flc P hB s h h' ∧ dn P hB A r h h') := by
  obtain ⟨e1, -, -, -, -, -⟩ := frR_e R.1 hp I.1
  by_cases k0 : gi hB A 1 = 0
  · by_cases z : r = 0
    · subst z
      have s1 : s = 1 := by omega
      subst s1
      obtain ⟨h', q1, q2, q3, q4, q5, q6, q7⟩ := fire_0 hp K R k0 hL I r6 r5 h7 hd
      exact ⟨h', ft, q1, fun _ _ q => q, q2, q3, q4, q6, fun z => (q2.2.2.2.2.2.resolve_left z).2, fun y => ⟨rfl, (q7 y).1, q5, fun _ => ⟨fun _ => (q7 y).2, fun w => by omega⟩, fun w => absurd k0 w⟩⟩
    · obtain ⟨h', q1, q2, q3, q4, q5, q6, q7⟩ := fire_r hp K R k0 hL (r := r) (by omega) I r6 r5 h7 hd
      exact ⟨h', ft, q1, fun _ _ q => q, q2, q3, q4, q6, fun z => (q2.2.2.2.2.2.resolve_left z).2, fun y => ⟨rfl, (q7 y).1, q5, fun _ => ⟨fun w => absurd w z, fun _ => (q7 y).2⟩, fun w => absurd k0 w⟩⟩
  · by_cases z : r = 0
    · subst z
      have s1 : s = 1 := by omega
      subst s1
      obtain ⟨h', ft', q1, q2, q3, q4, q5, q6, q7⟩ := fire_g hp K R (by omega) hL hAny I o r6 r5 h7 hd
      exact ⟨h', ft', q1, q2, q3, q4, q5, q6, q7.1, fun y => ⟨(q7.2 y).1, (q7.2 y).2.1, (q7.2 y).2.2.1, fun w => absurd w k0, fun _ _ => (q7.2 y).2.2.2⟩⟩
    · refine ⟨h, ft, ?_, fun _ _ q => q, I, frR_refl P h, gro_refl P s h, ⟨r6, r5, h7⟩, fun z => (I.2.2.2.2.2.resolve_left z).2, fun y => ⟨rfl, y, flc_refl h, fun w => absurd w k0, fun _ w => absurd w z⟩⟩
      rw [f61 (by omega), b61_0, if_neg (by omega), r6, e1 A (by omega), if_neg k0]
end TURN2
