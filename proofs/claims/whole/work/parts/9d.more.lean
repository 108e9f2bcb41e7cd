/-! A LITERAL MORE in both drafts -/
section MOR
variable {h : dm_H}
/-- a literal as both are told it -/
def LIT (n : Int) (cl : Int → Int) (s j w a b c s' x y c' : Int) : Prop :=
  ((s = 0 ∨ s = 1) ∧ (0 ≤ j ∧ j < n) ∧ w = cl j ∧ (1 ≤ w ∧ w ≤ 3) ∧ (-1 ≤ a ∧ a ≤ 107) ∧ (-1 ≤ b ∧ b ≤ 107) ∧ (-1 ≤ c ∧ c ≤ 107) ∧ (w ≤ 1 → b = 0) ∧ (w ≤ 2 → c = 0) ∧ s' = 0 ∧ x = j ∧ y = s ∧ c' = c) ∨
  (s = 2 ∧ (0 ≤ j ∧ j ≤ 3) ∧ w = 2 ∧ (0 ≤ a ∧ a ≤ 107) ∧ (0 ≤ b ∧ b ≤ 107) ∧ c = 0 ∧ s' = 1 ∧ y = j ∧ c' = 0) ∨
  (s = 3 ∧ (0 ≤ j ∧ j ≤ 5) ∧ w = 2 ∧ (0 ≤ a ∧ a ≤ 107) ∧ (0 ≤ b ∧ b ≤ 107) ∧ (100 ≤ c ∧ c ≤ 107) ∧ s' = 2 ∧ x = c ∧ y = j ∧ c' = 0)
theorem draft_more (R : IRel h) (I : IDr h) (hD : gi h 1 11 = 1) (h4 : gi h (gr h 1 10) 4 < 4) {s j w a b c s' x y c' : Int} {h1 h2 h3 : dm_H} (A : AP (gr h 1 10) s j w a b c h h1) (e1 : ∀ a i, ¬ (a = 165 ∧ i = 0) → gi h2 a i = gi h1 a i) (er1 : ∀ a i, gr h2 a i = gr h1 a i) (B : APr s' x y a b c' h2 h3) (hl : LIT (gi h 2 0) (cK h) s j w a b c s' x y c') (h5 : (s = 0 ∨ s = 1) → gi h (gr h 1 10) 5 < 3) : IDr h3 ∧ frDr h h3 := by
  obtain ⟨R1, R2, R3, R4⟩ := R
  obtain ⟨I1, I2, I3, I4⟩ := I
  obtain ⟨⟨D1, D2, D3, D4, D5, D6, D7, D8, D9, D10, D11⟩, S, X⟩ := I4 hD
  obtain ⟨dA, edA⟩ : ∃ dA, gr h 1 10 = dA := ⟨_, rfl⟩
  rw [edA] at I3 D1 D2 D3 D4 D5 D6 D7 D8 D9 D10 D11 S X h4 A h5
  have hA : 15 ≤ dA ∧ dA + 7 < 137 := by unfold ru at I3; omega
  obtain ⟨fA, a1, a2, a3, ⟨a4, a5⟩, a6, a7, a8, a9, a10, a11, a12, a13⟩ := A
  obtain ⟨N, eN⟩ : ∃ N, gi h dA 4 = N := ⟨_, rfl⟩
  rw [eN] at a2 a5 a6 a7 a8 a9 a10 a11 a12 a13 D2 D7 D8 D9 D10 D11 h4 X
  have g1 : ∀ a i, ¬ (dA ≤ a ∧ a ≤ dA + 7) → gi h1 a i = gi h a i := fA.1
  have g2 : ∀ a i, ¬ (dA ≤ a ∧ a ≤ dA + 7) → ¬ (a = 165 ∧ i = 0) → gi h2 a i = gi h a i := fun a i p q => by rw [e1 a i q, g1 a i p]
  obtain ⟨b1, b2, b3, b4, b5, b6, b7, b8, b9, b10, b11⟩ := B
  have s385 : gi h 172 385 = N := by have := S.2.2.2.2.1; rw [eN] at this; exact this
  have h385 : gi h2 172 385 = N := by rw [g2 _ _ (by omega) (by omega)]; exact s385
  rw [h385] at b4 b5 b6 b7 b8 b9 b10 b11
  have g3 : ∀ a i, a ≠ 172 → ¬ (a = 165 ∧ i = 0) → gi h3 a i = gi h1 a i := fun a i p q => by rw [b1 a i p, e1 a i q]
  have g4 : ∀ a i, a ≠ 172 → ¬ (dA ≤ a ∧ a ≤ dA + 7) → ¬ (a = 165 ∧ i = 0) → gi h3 a i = gi h a i := fun a i p q r => by rw [g3 a i p r, g1 a i q]
  have g7 : ∀ i, i ≠ 385 → ¬ (386 + 8 * N ≤ i ∧ i ≤ 391 + 8 * N) → gi h3 172 i = gi h 172 i := fun i p q => by rw [b5 i p q, g2 _ _ (by omega) (by omega)]
  have er : ∀ a i, gr h3 a i = gr h a i := fun a i => by rw [b2, er1, fA.2.1]
  have eA : ∀ q i, q ≤ 7 → gi h3 (dA + q) i = gi h1 (dA + q) i := fun q i hq => g3 _ _ (by omega) (by omega)
  have eA0 : ∀ i, gi h3 dA i = gi h1 dA i := fun i => eA 0 i (by omega)
  have h20 : gi h3 2 0 = gi h 2 0 := g4 _ _ (by omega) (by omega) (by omega)
  have h3c : ∀ i, gi h3 3 i = gi h 3 i := fun i => g4 _ _ (by omega) (by omega) (by omega)
  have hcK : cK h3 = cK h := by unfold cK; simp only [h3c]
  have htm : ∀ k i, tm h3 dA k i = tm h1 dA k i := fun k i => eA 5 _ (by omega)
  have hold : ∀ k, 0 ≤ k → k < N → (cR h3 dA).1 k = (cR h dA).1 k ∧ (cR h3 dA).2.1 k = (cR h dA).2.1 k ∧ (cR h3 dA).2.2.1 k = (cR h dA).2.2.1 k ∧ ∀ i, 0 ≤ i → i < 3 → (cR h3 dA).2.2.2 k i = (cR h dA).2.2.2 k i := by
    intro k k0 k1
    obtain ⟨q1, q2, q3, q4, q5⟩ := a6 k (by omega)
    exact ⟨by show gi h3 (dA + 2) k = _; rw [eA 2 k (by omega)]; exact q1, by show gi h3 (dA + 3) k = _; rw [eA 3 k (by omega)]; exact q2, by show gi h3 (dA + 4) k = _; rw [eA 4 k (by omega)]; exact q3, fun i i0 i1 => by show tm h3 dA k i = _; rw [htm]; exact q5 i i0 i1⟩
  have n1 : (cR h3 dA).1 N = s := by show gi h3 (dA + 2) N = s; rw [eA 2 N (by omega)]; exact a7
  have n2 : (cR h3 dA).2.1 N = j := by show gi h3 (dA + 3) N = j; rw [eA 3 N (by omega)]; exact a8
  have n3 : (cR h3 dA).2.2.1 N = w := by show gi h3 (dA + 4) N = w; rw [eA 4 N (by omega)]; exact a9
  have n4 : (cR h3 dA).2.2.2 N 0 = a ∧ (cR h3 dA).2.2.2 N 1 = b ∧ (cR h3 dA).2.2.2 N 2 = c := ⟨by show tm h3 dA N 0 = a; rw [htm]; exact a11, by show tm h3 dA N 1 = b; rw [htm]; exact a12, by show tm h3 dA N 2 = c; rw [htm]; exact a13⟩
  have N4 : gi h3 dA 4 = N + 1 := by rw [eA0]; exact a2
  have el : ∀ k z, 0 ≤ k → k < N → 0 ≤ z → z < 8 → lq h3 10 k z = lq h 10 k z := fun k z k0 k1 z0 z1 => g7 _ (by omega) (by omega)
  have LN : LSH (cK h) (gi h 2 0) (cR h3 dA) N := by
    unfold LSH
    rw [n1, n2, n3]
    rcases hl with ⟨p1, p2, p3, p4, p5, p6, p7, p8, p9, _⟩ | ⟨p1, p2, p3, p4, p5, p6, _⟩ | ⟨p1, p2, p3, p4, p5, p6, _⟩
    · refine Or.inl ⟨p1, p2, p3, p4, fun i i0 i1 => ?_, fun i i0 i1 => ?_⟩
      · rcases (show i = 0 ∨ i = 1 ∨ i = 2 by omega) with e | e | e
        · rw [e, n4.1]; exact p5
        · rw [e, n4.2.1]; exact p6
        · rw [e, n4.2.2]; exact p7
      · rcases (show i = 1 ∨ i = 2 by omega) with e | e
        · rw [e, n4.2.1]; exact p8 (by omega)
        · rw [e, n4.2.2]; exact p9 (by omega)
    · refine Or.inr (Or.inl ⟨p1, p2, p3, fun i i0 i1 => ?_, by rw [n4.2.2]; exact p6⟩)
      rcases (show i = 0 ∨ i = 1 by omega) with e | e
      · rw [e, n4.1]; exact p4
      · rw [e, n4.2.1]; exact p5
    · refine Or.inr (Or.inr ⟨p1, p2, p3, fun i i0 i1 => ?_, by rw [n4.2.2]; exact p6⟩)
      rcases (show i = 0 ∨ i = 1 by omega) with e | e
      · rw [e, n4.1]; exact p4
      · rw [e, n4.2.1]; exact p5
  have hlit : ∀ k, 0 ≤ k → k < N + 1 → LSH (cK h) (gi h 2 0) (cR h3 dA) k := by
    intro k k0 k1
    by_cases z : k = N
    · rw [z]; exact LN
    · have L := D7 k k0 (by omega)
      obtain ⟨q1, q2, q3, q4⟩ := hold k k0 (by omega)
      unfold LSH at L ⊢
      rw [q1, q2, q3]
      rcases L with ⟨p1, p2, p3, p4, p5, p6⟩ | ⟨p1, p2, p3, p4, p5⟩ | ⟨p1, p2, p3, p4, p5⟩
      · exact Or.inl ⟨p1, p2, p3, p4, fun i i0 i1 => by rw [q4 i i0 i1]; exact p5 i i0 i1, fun i i0 i1 => by rw [q4 i (by omega) i1]; exact p6 i i0 i1⟩
      · exact Or.inr (Or.inl ⟨p1, p2, p3, fun i i0 i1 => by rw [q4 i i0 (by omega)]; exact p4 i i0 i1, by rw [q4 2 (by omega) (by omega)]; exact p5⟩)
      · exact Or.inr (Or.inr ⟨p1, p2, p3, fun i i0 i1 => by rw [q4 i i0 (by omega)]; exact p4 i i0 i1, by rw [q4 2 (by omega) (by omega)]; exact p5⟩)
  have hat : atc (cR h3 dA) (N + 1).toNat = atc (cR h dA) N.toNat + (if s = 0 ∨ s = 1 then 1 else 0) := by
    rw [show (N + 1).toNat = N.toNat + 1 by omega]
    show atc (cR h3 dA) N.toNat + (if (cR h3 dA).1 (N.toNat : Int) = 0 ∨ (cR h3 dA).1 (N.toNat : Int) = 1 then 1 else 0) = _
    rw [atc_cg (ρ := cR h dA) (ρ' := cR h3 dA) N.toNat (fun k k0 k1 => (hold k k0 (by omega)).1), show (N.toNat : Int) = N by omega, n1]
  refine ⟨⟨by rw [g4 _ _ (by omega) (by omega) (by omega), g4 _ _ (by omega) (by omega) (by omega)]; exact I1, by rw [g4 _ _ (by omega) (by omega) (by omega)]; exact I2, by rw [er, edA]; exact I3, fun _ => ?_⟩, fun x i p1 p2 p3 p4 => ?_, er⟩
  · rw [er, edA]
    refine ⟨⟨?_, ?_, fun q => ?_, fun q => ?_, fun i i0 i1 => ?_, fun i i0 i1 => ?_, fun k k0 k1 => ?_, fun k k0 k1 q i i0 i1 => ?_, ?_, ?_, fun k k0 k1 q => ?_⟩, ?_, ?_⟩
    · rw [eA0, a1 1 (by omega)]; exact D1
    · rw [N4]; omega
    · rw [eA0, a1 1 (by omega)] at q
      rw [eA0, eA0, a1 2 (by omega), a1 3 (by omega)]; exact D3 q
    · rw [eA0, a1 1 (by omega)] at q
      rw [eA0, eA0, a1 2 (by omega), a1 3 (by omega), h20, h3c]; exact D4 q
    · rw [eA0, a1 3 (by omega)] at i1
      rw [eA 1 i (by omega), a3]; exact D5 i i0 i1
    · rw [eA0, a1 3 (by omega)] at i0
      rw [eA 1 i (by omega), a3]; exact D6 i i0 i1
    · rw [N4] at k1
      rw [hcK, h20]; exact hlit k k0 k1
    · rw [N4] at k1
      rw [eA 6 k (by omega)] at q
      rw [htm]
      by_cases z : k = N
      · rw [z] at q ⊢
        obtain ⟨t1, t2, t3⟩ := a10 q
        rcases (show i = 0 ∨ i = 1 ∨ i = 2 by omega) with e | e | e
        · rw [e, a11]; exact t1
        · rw [e, a12]; exact t2
        · rw [e, a13]; exact t3
      · obtain ⟨q1, q2, q3, q4, q5⟩ := a6 k z
        rw [q4] at q
        rw [q5 i i0 i1]; exact D8 k k0 (by omega) q i i0 i1
    · rw [N4, eA0, a4, hat, D9.1]
      refine ⟨rfl, ?_⟩
      rw [← D9.1]
      split
      · rename_i z
        have := h5 z
        omega
      · have := D9.2; omega
    · rw [N4, eA0, a5]
      split <;> omega
    · rw [N4] at k1
      rw [eA0, a5]
      rw [eA 2 k (by omega)] at q
      by_cases z : k = N
      · rw [z, a7] at q
        rw [if_pos q]; omega
      · obtain ⟨q1, _⟩ := a6 k z
        rw [q1] at q
        have := D11 k k0 (by omega) q
        split <;> omega
    · obtain ⟨S1, S2, S3, S4, S5, S6, S7⟩ := S
      rw [eN] at S6 S7
      refine ⟨S1, ?_, ?_, fun i i0 i1 => ?_, ?_, ?_, fun k k0 k1 => ?_⟩
      · rw [g7 _ (by omega) (by omega), eA0, a1 1 (by omega)]; exact S2
      · rw [g7 _ (by omega) (by omega), eA0, a1 2 (by omega)]; exact S3
      · rw [g7 _ (by omega) (by omega), eA 1 i (by omega), a3]; exact S4 i i0 i1
      · rw [N4, show (38 : Int) * 10 + 5 = 385 by omega, b4]
      · rw [N4]
        intro k k0 k1
        by_cases z : k = N
        · rw [z, n1, n2, n3]
          have hw : rwid h3 10 N = w := by
            unfold rwid
            rcases hl with p | p | p
            · rw [b6, p.2.2.2.2.2.2.2.2.2.1, if_pos rfl, b7, p.2.2.2.2.2.2.2.2.2.2.1, g4 _ _ (by omega) (by omega) (by omega), (R3 j).1, p.2.2.1]
              exact (cK_c R1 p.2.1.1 p.2.1.2).1.symm
            · rw [b6, if_neg (by omega)]; omega
            · rw [b6, if_neg (by omega)]; omega
          refine ⟨?_, ?_, hw, fun i i0 i1 => ?_⟩
          · show rsrt h3 10 N = s
            unfold rsrt
            rw [b6, b8]
            rcases hl with p | p | p
            · rw [if_pos (by omega)]
              split <;> omega
            · rw [if_neg (by omega), if_pos (by omega)]; omega
            · rw [if_neg (by omega), if_neg (by omega)]; omega
          · show rsbj h3 10 N = j
            unfold rsbj
            rw [b6, b7, b8]
            rcases hl with p | p | p
            · rw [if_pos (by omega)]; omega
            · rw [if_neg (by omega)]; omega
            · rw [if_neg (by omega)]; omega
          · show (if lq h3 10 N 0 = 2 ∧ i = 2 then lq h3 10 N 1 else lq h3 10 N (3 + i)) = (cR h3 dA).2.2.2 N i
            rcases (show i = 0 ∨ i = 1 ∨ i = 2 by omega) with e | e | e
            · rw [e, n4.1, if_neg (by omega), show (3 : Int) + 0 = 3 by omega, b9]
            · rw [e, n4.2.1, if_neg (by omega), show (3 : Int) + 1 = 4 by omega, b10]
            · rw [e, n4.2.2, show (3 : Int) + 2 = 5 by omega, b11, b6, b7]
              rcases hl with p | p | p
              · rw [if_neg (by omega)]; omega
              · rw [if_neg (by omega)]; omega
              · rw [if_pos (by omega)]; omega
        · obtain ⟨q1, q2, q3, q4⟩ := S6 k k0 (by omega)
          obtain ⟨r1, r2, r3, r4⟩ := hold k k0 (by omega)
          have w0 := el k 0 k0 (by omega) (by omega) (by omega)
          have w1 := el k 1 k0 (by omega) (by omega) (by omega)
          have w2 := el k 2 k0 (by omega) (by omega) (by omega)
          refine ⟨?_, ?_, ?_, fun i i0 i1 => ?_⟩
          · rw [r1, ← q1]
            show rsrt h3 10 k = rsrt h 10 k
            unfold rsrt
            rw [w0, w2]
          · rw [r2, ← q2]
            show rsbj h3 10 k = rsbj h 10 k
            unfold rsbj
            rw [w0, w1, w2]
          · rw [r3, ← q3]
            show rwid h3 10 k = rwid h 10 k
            unfold rwid
            rw [w0, w1, g4 _ _ (by omega) (by omega) (by omega)]
          · rw [r4 i i0 i1, ← q4 i i0 i1]
            show (if lq h3 10 k 0 = 2 ∧ i = 2 then lq h3 10 k 1 else lq h3 10 k (3 + i)) = if lq h 10 k 0 = 2 ∧ i = 2 then lq h 10 k 1 else lq h 10 k (3 + i)
            rw [w0, w1, el k (3 + i) k0 (by omega) (by omega) (by omega)]
      · rw [N4] at k1
        by_cases z : k = N
        · rw [z, b6]
          rcases hl with p | p | p <;> omega
        · rw [el k 0 k0 (by omega) (by omega) (by omega)]
          exact S7 k k0 (by omega)
    · rw [N4]
      intro k k0 k1
      by_cases z : k = N
      · rw [z, b6, b8, b11]
        rcases hl with p | p | p <;> omega
      · rw [el k 0 k0 (by omega) (by omega) (by omega), el k 2 k0 (by omega) (by omega) (by omega), el k 5 k0 (by omega) (by omega) (by omega)]
        exact X k k0 (by omega)
  · rw [edA] at p1
    by_cases z : x = 172
    · rw [z]
      exact g7 i (fun e => p2 ⟨z, by omega, by omega⟩) (fun e => p2 ⟨z, by omega, by omega⟩)
    · by_cases y : dA ≤ x ∧ x ≤ dA + 7
      · have : x = dA ∧ i = 0 := by
          by_cases v : x = dA ∧ i = 0
          · exact v
          · exact absurd ⟨y.1, y.2, v⟩ p1
        rw [this.1, this.2, eA0, a1 0 (by omega)]
      · exact g4 x i z y (fun q => p4 ⟨q.1, Or.inl q.2⟩)
end MOR
