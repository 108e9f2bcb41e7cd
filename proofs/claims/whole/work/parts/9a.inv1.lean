/-! THE INVARIANT: relations and the draft -/
/-- the relations of both -/
def IRel (h : dm_H) : Prop := RK h ∧ gi h 165 1 = gi h 2 0 ∧ (∀ r, gi h 166 r = gi h 3 r ∧ gi h 167 r = gi h 4 r) ∧ ∀ r, gi h 2 0 ≤ r → r < 6 → gi h 3 r = 0 ∧ gi h 4 r = 0
/-- the shape of a rule at A -/
def DSH (A : Nat) (h : dm_H) : Prop := (0 ≤ gi h A 1 ∧ gi h A 1 ≤ 3) ∧ (0 ≤ gi h A 4 ∧ gi h A 4 ≤ 4) ∧ (gi h A 1 = 3 → gi h A 2 = -1 ∧ gi h A 3 = 0) ∧ (gi h A 1 ≠ 3 → (0 ≤ gi h A 2 ∧ gi h A 2 < gi h 2 0) ∧ gi h A 3 = gi h 3 (gi h A 2)) ∧
  (∀ i, 0 ≤ i → i < gi h A 3 → 0 ≤ gi h (A + 1) i ∧ gi h (A + 1) i ≤ 107) ∧ (∀ i, gi h A 3 ≤ i → i < 3 → gi h (A + 1) i = 0) ∧ (∀ k, 0 ≤ k → k < gi h A 4 → LSH (cK h) (gi h 2 0) (cR h A) k) ∧ (∀ k, 0 ≤ k → k < gi h A 4 → gi h (A + 6) k = 0 → ∀ i, 0 ≤ i → i < 3 → tm h A k i ≠ -1) ∧ (gi h A 5 = atc (cR h A) (gi h A 4).toNat ∧ gi h A 5 ≤ 3) ∧ (-1 ≤ gi h A 6 ∧ gi h A 6 < gi h A 4) ∧ ∀ k, 0 ≤ k → k < gi h A 4 → (gi h (A + 2) k = 0 ∨ gi h (A + 2) k = 1) → k ≤ gi h A 6
theorem cK_c {h : dm_H} (K : RK h) {r : Int} (r0 : 0 ≤ r) (r1 : r < gi h 2 0) : cK h r = gi h 3 r ∧ 1 ≤ gi h 3 r ∧ gi h 3 r ≤ 3 := by
  have a := K.2 r r0 (by have := K.1; omega)
  have b := a.2 r1
  unfold cK
  rw [if_neg (by omega)]
  exact ⟨rfl, b.1, a.1.1⟩
/-- the two drafts are the same -/
def IDr (h : dm_H) : Prop := gi h 165 16 = gi h 1 11 ∧ (gi h 1 11 = 0 ∨ gi h 1 11 = 1) ∧ ru (gr h 1 10) ∧ (gi h 1 11 = 1 → DSH (gr h 1 10) h ∧ SR h (gr h 1 10) 10 ∧ RX h 10 (gi h (gr h 1 10) 4))
/-- the shape's congruence -/
theorem DSH_cg {A : Nat} {h h' : dm_H} (e : ∀ a i, A ≤ a → a ≤ A + 6 → ¬ (a = A ∧ i = 7) → gi h' a i = gi h a i) (e2 : gi h' 2 0 = gi h 2 0) (e3 : ∀ i, gi h' 3 i = gi h 3 i) (D : DSH A h) : DSH A h' := by
  have c : cR h' A = cR h A := by
    unfold cR
    rw [show gi h' (A + 2) = gi h (A + 2) from funext (fun i => e _ i (by omega) (by omega) (by omega)), show gi h' (A + 3) = gi h (A + 3) from funext (fun i => e _ i (by omega) (by omega) (by omega)), show gi h' (A + 4) = gi h (A + 4) from funext (fun i => e _ i (by omega) (by omega) (by omega))]
    have : (fun k => tm h' A k) = fun k => tm h A k := by
      funext k i
      exact e (A + 5) _ (by omega) (by omega) (by omega)
    rw [this]
  have cc : cK h' = cK h := by unfold cK; simp only [e3]
  have ea : ∀ i, i ≠ 7 → gi h' A i = gi h A i := fun i hi => e A i (by omega) (by omega) (by omega)
  have et : ∀ k i, tm h' A k i = tm h A k i := fun k i => e (A + 5) _ (by omega) (by omega) (by omega)
  obtain ⟨d1, d2, d3, d4, d5, d6, d7, d8, d9, d10, d11⟩ := D
  unfold DSH
  rw [c, cc, ea 1 (by omega), ea 2 (by omega), ea 3 (by omega), ea 4 (by omega), ea 5 (by omega), ea 6 (by omega), e2]
  refine ⟨d1, d2, d3, fun q => by rw [e3]; exact d4 q, fun i i0 i1 => by rw [e (A + 1) i (by omega) (by omega) (by omega)]; exact d5 i i0 i1, fun i i0 i1 => by rw [e (A + 1) i (by omega) (by omega) (by omega)]; exact d6 i i0 i1, d7, fun k k0 k1 z i i0 i1 => ?_, d9, d10, fun k k0 k1 z => ?_⟩
  · rw [e (A + 6) k (by omega) (by omega) (by omega)] at z
    rw [et]; exact d8 k k0 k1 z i i0 i1
  · rw [e (A + 2) k (by omega) (by omega) (by omega)] at z
    exact d11 k k0 k1 z
/-- the two rules' congruence -/
theorem SR_cg {A : Nat} {p : Int} {h h' : dm_H} (e : ∀ a i, A ≤ a → a ≤ A + 5 → ¬ (a = A ∧ i = 7) → gi h' a i = gi h a i) (e2 : ∀ i, 38 * p ≤ i → i < 38 * p + 38 → gi h' 172 i = gi h 172 i) (e3 : ∀ i, gi h' 166 i = gi h 166 i) (S : SR h A p) (hN : gi h A 4 ≤ 4) : SR h' A p := by
  obtain ⟨s1, s2, s3, s4, s5, s6, s7⟩ := S
  have ea : ∀ i, i ≠ 7 → gi h' A i = gi h A i := fun i hi => e A i (by omega) (by omega) (by omega)
  have el : ∀ k w, 0 ≤ k → k < gi h A 4 → 0 ≤ w → w < 8 → lq h' p k w = lq h p k w := fun k w k0 k1 w0 w1 => e2 _ (by omega) (by omega)
  refine ⟨s1, by rw [e2 _ (by omega) (by omega), ea 1 (by omega)]; exact s2, by rw [e2 _ (by omega) (by omega), ea 2 (by omega)]; exact s3, fun i i0 i1 => by rw [e2 _ (by omega) (by omega), e (A + 1) i (by omega) (by omega) (by omega)]; exact s4 i i0 i1, by rw [e2 _ (by omega) (by omega), ea 4 (by omega)]; exact s5, ?_, fun k k0 k1 => by rw [ea 4 (by omega)] at k1; rw [el k 0 k0 k1 (by omega) (by omega)]; exact s7 k k0 k1⟩
  rw [ea 4 (by omega)]
  intro k k0 k1
  obtain ⟨q1, q2, q3, q4⟩ := s6 k k0 k1
  have w0 := el k 0 k0 k1 (by omega) (by omega)
  have w1 := el k 1 k0 k1 (by omega) (by omega)
  have w2 := el k 2 k0 k1 (by omega) (by omega)
  refine ⟨?_, ?_, ?_, fun i i0 i1 => ?_⟩
  · show rsrt h' p k = gi h' (A + 2) k
    rw [e _ k (by omega) (by omega) (by omega)]
    unfold rsrt
    rw [w0, w2]; exact q1
  · show rsbj h' p k = gi h' (A + 3) k
    rw [e _ k (by omega) (by omega) (by omega)]
    unfold rsbj
    rw [w0, w1, w2]; exact q2
  · show rwid h' p k = gi h' (A + 4) k
    rw [e _ k (by omega) (by omega) (by omega)]
    unfold rwid
    rw [w0, w1, e3]; exact q3
  · have := q4 i i0 i1
    show (if lq h' p k 0 = 2 ∧ i = 2 then lq h' p k 1 else lq h' p k (3 + i)) = gi h' (A + 5) (k * 3 + i)
    rw [w0, w1, el k (3 + i) k0 k1 (by omega) (by omega), e (A + 5) _ (by omega) (by omega) (by omega)]
    exact this
theorem RX_cg {p N : Int} {h h' : dm_H} (e2 : ∀ i, 38 * p ≤ i → i < 38 * p + 38 → gi h' 172 i = gi h 172 i) (hN : N ≤ 4) (X : RX h p N) : RX h' p N := by
  intro k k0 k1
  have el : ∀ w, 0 ≤ w → w < 8 → lq h' p k w = lq h p k w := fun w w0 w1 => e2 _ (by omega) (by omega)
  rw [el 0 (by omega) (by omega), el 2 (by omega) (by omega), el 5 (by omega) (by omega)]
  exact X k k0 k1
