/-! THE BOOKS: what is there of both -/
/-- a rule of the class, and its place in the reference -/
def RIN (A : Nat) (p : Int) (h : dm_H) : Prop := ru A ∧ DSH A h ∧ SAFE (cR h A) (gi h A 4) (gi h A 1) (gi h A 3) (gi h (A + 1)) ∧ ((0 ≤ gi h A 7 ∧ gi h A 7 ≤ gi h A 4) ∧ ∀ i, 0 ≤ i → i < gi h A 3 → slot (gi h (A + 1) i) ≠ -1 → kng (cR h A) (gi h A 7) (slot (gi h (A + 1) i))) ∧ gi h 174 p ≠ 0 ∧ SR h A p ∧ RX h p (gi h A 4)
/-- the books; place π j of the reference is the class's rule j -/
def BKS (π : Int → Int) (h : dm_H) : Prop := (0 ≤ gi h 13 1 ∧ gi h 13 1 ≤ 10) ∧ ((∀ j, 0 ≤ j → j < 10 → ru (gr h 14 j)) ∧ (∀ i j, 0 ≤ i → i < j → j < 10 → gr h 14 i ≠ gr h 14 j) ∧ ∀ j, 0 ≤ j → j < 10 → gr h 14 j ≠ gr h 1 10) ∧ (∀ j, 0 ≤ j → j < gi h 13 1 → RIN (gr h 14 j) (π j) h) ∧ (∀ i j, 0 ≤ i → i < j → j < gi h 13 1 → π i ≠ π j) ∧ (∀ p, 0 ≤ p → p ≤ 10 → gi h 174 p ≠ 0 → ∃ j, 0 ≤ j ∧ j < gi h 13 1 ∧ π j = p) ∧ ∀ p, 0 ≤ p → p ≤ 10 → gi h 174 p = 0 ∨ gi h 174 p = 1
section BKD
variable {h : dm_H} {π : Int → Int}
theorem DC_of (K : RK h) : DC (cK h) (gi h 4) := by
  intro r r0 r1
  have a := K.2 r r0 r1
  unfold cK
  refine ⟨?_, a.1.2⟩
  split <;> omega
theorem RIN_G1 (K : RK h) {A : Nat} {p : Int} (R : RIN A p h) (h3 : gi h A 1 ≠ 3) : G1 (cK h) (gi h 2 0) (uR h A) := by
  obtain ⟨r1, ⟨d1, d2, d3, d4, d5, d6, d7, d8, d9, d10, d11⟩, r3, r4, r5, r6, r7⟩ := R
  have hr := (d4 h3).1
  have hc := cK_c K hr.1 hr.2
  have ec : gi h A 3 = cK h (gi h A 2) := by rw [(d4 h3).2, hc.1]
  have h6 := K.1
  rw [ec] at r3 d5
  refine ⟨by show 0 ≤ gi h A 1 ∧ gi h A 1 ≤ 2; omega, hr, ⟨⟨by show 0 ≤ gi h A 2 ∧ gi h A 2 < 6; omega, d2, fun k k0 k1 ha => ?_⟩, ⟨by show 0 ≤ cK h (gi h A 2) ∧ cK h (gi h A 2) ≤ 3; omega, fun i i0 i1 => ?_⟩, d7, fun k k0 k1 => r3.2.1 k k0 k1⟩, r3, d5⟩
  · have := d7 k k0 k1
    have ha : (cR h A).1 k = 0 ∨ (cR h A).1 k = 1 := ha
    show 0 ≤ (cR h A).2.1 k ∧ (cR h A).2.1 k < 6
    rcases this with q | q | q
    · have := q.2.1; omega
    · omega
    · omega
  · have := d5 i i0 i1
    show -1 ≤ gi h (A + 1) i ∧ gi h (A + 1) i ≤ 107
    omega
theorem RIN_UR (I : IRel h) {A : Nat} {p : Int} (R : RIN A p h) (h3 : gi h A 1 ≠ 3) : UR (cK h) (gi h 4) (uR h A) p h := by
  obtain ⟨I1, I2, I3, I4⟩ := I
  obtain ⟨r1, ⟨d1, d2, d3, d4, d5, d6, d7, d8, d9, d10, d11⟩, r3, r4, r5, r6, r7⟩ := R
  have hr := (d4 h3).1
  have hc := cK_c I1 hr.1 hr.2
  exact ⟨r6.1, r6.2.1, r6.2.2.1, r6.2.2.2.1, r6.2.2.2.2.1, r6.2.2.2.2.2.1, SR_RF r6, by show gi h 166 (gi h A 2) = cK h (gi h A 2); rw [(I3 _).1, hc.1], (I3 _).2⟩
theorem BKS_G1 (K : RK h) (B : BKS π h) : ∀ u, RLc h u → G1 (cK h) (gi h 2 0) u := by
  rintro u ⟨j, j0, j1, j2, rfl⟩
  exact RIN_G1 K (B.2.2.1 j j0 j1) j2
theorem BKS_CB (K : RK h) (B : BKS π h) : CB h := by
  refine ⟨B.1, K.1, fun j j0 j1 => ?_⟩
  obtain ⟨r1, ⟨d1, d2, d3, d4, d5, d6, d7, d8, d9, d10, d11⟩, -⟩ := B.2.2.1 j j0 j1
  refine ⟨r1, d2, fun q => (d4 q).1, fun k k0 k1 ha => ?_⟩
  have ha : (cR h (gr h 14 j)).1 k = 0 ∨ (cR h (gr h 14 j)).1 k = 1 := ha
  show 0 ≤ (cR h (gr h 14 j)).2.1 k ∧ (cR h (gr h 14 j)).2.1 k < gi h 2 0
  rcases d7 k k0 k1 with q | q | q
  · exact q.2.1
  · omega
  · omega
/-- the class's rule of a place -/
noncomputable def Uπ (π : Int → Int) (h : dm_H) (p : Int) : mU := @dite _ (∃ j, 0 ≤ j ∧ j < gi h 13 1 ∧ π j = p) (Classical.propDecidable _) (fun z => uR h (gr h 14 (Classical.choose z))) (fun _ => uR h 0)
theorem Uπ_at (B : BKS π h) {j : Int} (j0 : 0 ≤ j) (j1 : j < gi h 13 1) : Uπ π h (π j) = uR h (gr h 14 j) := by
  have z : ∃ i, 0 ≤ i ∧ i < gi h 13 1 ∧ π i = π j := ⟨j, j0, j1, rfl⟩
  unfold Uπ
  rw [dif_pos z]
  obtain ⟨c0, c1, c2⟩ := Classical.choose_spec z
  have : Classical.choose z = j := by
    generalize Classical.choose z = i at c0 c1 c2
    clear z
    rcases Int.lt_trichotomy i j with q | q | q
    · exact absurd c2 (B.2.2.2.1 i j c0 q j1)
    · exact q
    · exact absurd c2.symm (B.2.2.2.1 j i j0 q c1)
  rw [this]
theorem BKS_HBr (I : IRel h) (B : BKS π h) : HBr (cK h) (gi h 4) (RLc h) (Uπ π h) h := by
  refine ⟨fun p p0 p1 h1 h2 => ?_, fun u hu => ?_⟩
  · obtain ⟨j, j0, j1, rfl⟩ := B.2.2.2.2.1 p p0 p1 h1
    have R := B.2.2.1 j j0 j1
    have e : gi h 172 (38 * π j) = gi h (gr h 14 j) 1 := R.2.2.2.2.2.1.2.1
    rw [Uπ_at B j0 j1]
    exact ⟨⟨j, j0, j1, by omega, rfl⟩, RIN_UR I R (by omega)⟩
  · obtain ⟨j, j0, j1, j2, rfl⟩ := hu
    have R := B.2.2.1 j j0 j1
    have e : gi h 172 (38 * π j) = gi h (gr h 14 j) 1 := R.2.2.2.2.2.1.2.1
    exact ⟨π j, R.2.2.2.2.2.1.1, R.2.2.2.2.1, by omega, (Uπ_at B j0 j1).symm⟩
/-- what a derivation needs of the class's book -/
theorem BKS_BK (K : RK h) (B : BKS π h) (hU : ∀ u, RLc h u → RU (cK h) (gi h 4) (gi h 7) (ocL (RLc h)) u) : BK h (ocL (RLc h)) (RLc h) := by
  refine ⟨B.1, fun j j0 j1 => ?_⟩
  obtain ⟨r1, ⟨d1, d2, d3, d4, d5, d6, d7, d8, d9, d10, d11⟩, r3, r4, r5, r6, r7⟩ := B.2.2.1 j j0 j1
  refine ⟨r1, ?_⟩
  by_cases h3 : gi h (gr h 14 j) 1 = 3
  · exact Or.inl h3
  right
  have hr := (d4 h3).1
  have hc := cK_c K hr.1 hr.2
  have ec : gi h (gr h 14 j) 3 = cK h (gi h (gr h 14 j) 2) := by rw [(d4 h3).2, hc.1]
  have hl : RLc h (uR h (gr h 14 j)) := ⟨j, j0, j1, h3, rfl⟩
  refine ⟨by omega, ⟨r1, hU _ hl, hl, hr.2, ec, ⟨r4.1.2, fun i i0 i1 => r4.2 i i0 (by omega)⟩, abf_le d2 (fun q => ?_)⟩, fun k k0 k1 _ h6 i i0 i1 => d8 k k0 k1 h6 i i0 ?_⟩
  · by_cases z : ∃ k, 0 ≤ k ∧ k < 4 ∧ (cR h (gr h 14 j)).1 k ≠ 0
    · exact z
    · have := atc_all (ρ := cR h (gr h 14 j)) 4 (fun k k0 k1 => Or.inl (by
        by_cases y : (cR h (gr h 14 j)).1 k = 0
        · exact y
        · exact absurd ⟨k, k0, k1, y⟩ z))
      have d91 := d9.1
      have d92 := d9.2
      rw [q, show (4 : Int).toNat = 4 from rfl, this] at d91
      clear z
      omega
  · have := LSH_w (d7 k k0 k1)
    have e : (cR h (gr h 14 j)).2.2.1 k = gi h (gr h 14 j + 4) k := rfl
    omega
end BKD
