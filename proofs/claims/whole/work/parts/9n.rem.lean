/-! A RULE GOES from both books -/
section REM
def rmi (g n j : Int) : Int := if j < g ∨ n ≤ j then j else if j < n - 1 then j + 1 else g
variable {h h' : dm_H} {π : Int → Int}
theorem remA_f {α : Type} (f : Int → α) (g n j : Int) : remA f g n j = f (rmi g n j) := by
  unfold remA rmi
  repeat' split
  all_goals rfl
theorem remA_r {g n j : Int} (hg : 0 ≤ g ∧ g < n) : (0 ≤ j ∧ j < n - 1 → (0 ≤ rmi g n j ∧ rmi g n j < n ∧ rmi g n j ≠ g)) ∧ (0 ≤ j ∧ j < 10 → n ≤ 10 → 0 ≤ rmi g n j ∧ rmi g n j < 10) ∧ (n ≤ j → rmi g n j = j) ∧ rmi g n (n - 1) = g := by
  unfold rmi
  refine ⟨fun q => ?_, fun q1 q2 => ?_, fun q => ?_, ?_⟩
  · split
    · omega
    · rw [if_pos q.2]; omega
  · repeat' split
    all_goals omega
  · rw [if_pos (by omega)]
  · rw [if_neg (by omega), if_neg (by omega)]
theorem remA_ne {g n i j : Int} (hg : 0 ≤ g ∧ g < n) (hij : i < j) : rmi g n i ≠ rmi g n j := by
  unfold rmi
  repeat' split
  all_goals omega
theorem remA_mono {g n i j : Int} (hg : 0 ≤ g ∧ g < n) (hij : i < j) (hj : j < n - 1) : rmi g n i < rmi g n j := by
  unfold rmi
  repeat' split
  all_goals omega
theorem remA_sur {g n i : Int} (hg : 0 ≤ g ∧ g < n) (hi : 0 ≤ i ∧ i < n) (hn : i ≠ g) : ∃ j, 0 ≤ j ∧ j < n - 1 ∧ rmi g n j = i := by
  by_cases z : i < g
  · refine ⟨i, hi.1, by omega, ?_⟩
    unfold rmi
    rw [if_pos (by omega)]
  · refine ⟨i - 1, by omega, by omega, ?_⟩
    unfold rmi
    rw [if_neg (by omega), if_pos (by omega)]
    omega
theorem addr_ne (B : BKS π h) {i j : Int} (i0 : 0 ≤ i ∧ i < 10) (j0 : 0 ≤ j ∧ j < 10) (hij : i ≠ j) : gr h 14 i ≠ gr h 14 j := by
  rcases Int.lt_or_gt_of_ne hij with q | q
  · exact B.2.1.2.1 i j i0.1 q j0.2
  · exact fun e => B.2.1.2.1 j i j0.1 q i0.2 e.symm
theorem BKS_rem {g n : Int} (B : BKS π h) (en : gi h 13 1 = n) (hg : 0 ≤ g ∧ g < n) (e13 : gi h' 13 1 = n - 1) (er : ∀ j, 0 ≤ j → j < 10 → gr h' 14 j = remA (gr h 14) g n j) (er2 : gr h' 1 10 = gr h 1 10) (eA : ∀ A, ru A → ∀ a i, A ≤ a → a ≤ A + 6 → gi h' a i = gi h a i) (e2 : gi h' 2 0 = gi h 2 0) (e3 : ∀ a i, a = 3 ∨ a = 166 ∨ a = 172 → gi h' a i = gi h a i) (e174 : ∀ p, 0 ≤ p → p ≤ 10 → gi h' 174 p = if p = π g then 0 else gi h 174 p) : BKS (remA π g n) h' := by
  have B' := B
  obtain ⟨b1, ⟨b2, b3, b4⟩, b5, b6, b7, b8⟩ := B
  rw [en] at b1 b5 b6 b7
  have hne : ∀ i, 0 ≤ i → i < n → i ≠ g → π i ≠ π g := by
    intro i i0 i1 hi
    rcases Int.lt_or_gt_of_ne hi with q | q
    · exact b6 i g i0 q hg.2
    · exact fun e => b6 g i hg.1 q i1 e.symm
  refine ⟨by rw [e13]; omega, ⟨fun j j0 j1 => ?_, fun i j i0 ij j1 => ?_, fun j j0 j1 => ?_⟩, fun j j0 j1 => ?_, fun i j i0 ij j1 => ?_, fun p p0 p1 q => ?_, fun p p0 p1 => ?_⟩
  · have r := (remA_r (j := j) hg).2.1 ⟨j0, j1⟩ b1.2
    rw [er j j0 j1, remA_f]; exact b2 _ r.1 r.2
  · have r := (remA_r (j := i) hg).2.1 ⟨i0, by omega⟩ b1.2
    have s := (remA_r (j := j) hg).2.1 ⟨by omega, j1⟩ b1.2
    rw [er i i0 (by omega), er j (by omega) j1, remA_f (gr h 14), remA_f (gr h 14)]
    exact addr_ne B' r s (remA_ne hg ij)
  · have r := (remA_r (j := j) hg).2.1 ⟨j0, j1⟩ b1.2
    rw [er j j0 j1, er2, remA_f]; exact b4 _ r.1 r.2
  · rw [e13] at j1
    obtain ⟨s1, s2, s3⟩ := (remA_r (j := j) hg).1 ⟨j0, j1⟩
    rw [er j j0 (by omega), remA_f (gr h 14), remA_f π]
    obtain ⟨r1, r2, r3, r4, r5, r6, r7⟩ := b5 _ s1 s2
    have c := RIc_cg (h := h) (h' := h') r1 (fun a i p q _ => eA _ r1 a i p q) e2 (fun i => e3 3 i (by omega)) ⟨r1, r2, r3, r4⟩
    refine ⟨r1, c.2.1, c.2.2.1, c.2.2.2, ?_, SR_cg (fun a i p q _ => eA _ r1 a i p (by omega)) (fun i _ _ => e3 _ _ (by omega)) (fun i => e3 _ _ (by omega)) r6 r2.2.1.2, ?_⟩
    · rw [e174 _ r6.1.1 r6.1.2, if_neg (hne _ s1 s2 s3)]; exact r5
    · rw [eA _ r1 _ _ (by omega) (by omega)]
      exact RX_cg (fun i _ _ => e3 _ _ (by omega)) r2.2.1.2 r7
  · rw [e13] at j1
    obtain ⟨s1, s2, s3⟩ := (remA_r (j := j) hg).1 ⟨by omega, j1⟩
    obtain ⟨t1, t2, t3⟩ := (remA_r (j := i) hg).1 ⟨i0, by omega⟩
    rw [remA_f π, remA_f π]
    exact b6 _ _ t1 (remA_mono hg ij j1) s2
  · rw [e174 p p0 p1] at q
    by_cases z : p = π g
    · rw [if_pos z] at q; exact absurd rfl q
    · rw [if_neg z] at q
      obtain ⟨i, i0, i1, i2⟩ := b7 p p0 p1 q
      obtain ⟨j, j0, j1, j2⟩ := remA_sur hg ⟨i0, i1⟩ (fun w => z (by rw [← i2, w]))
      exact ⟨j, j0, by rw [e13]; exact j1, by rw [remA_f, j2]; exact i2⟩
  · rw [e174 p p0 p1]
    split
    · exact Or.inl rfl
    · exact b8 p p0 p1
theorem INm_rem {g n : Int} (B : BKS π h) (M : INm π h) (en : gi h 13 1 = n) (hg : 0 ≤ g ∧ g < n) (e13 : gi h' 13 1 = n - 1) (er : ∀ j, 0 ≤ j → j < 10 → gr h' 14 j = remA (gr h 14) g n j) (eA : ∀ A, ru A → gi h' A 0 = gi h A 0) (e3 : gi h' 13 3 = gi h 13 3) (e15 : gi h' 165 15 = gi h 165 15) (e173 : ∀ i, gi h' 173 i = gi h 173 i) : INm (remA π g n) h' := by
  obtain ⟨m1, m2, m3⟩ := M
  have b1 := B.1
  rw [en] at m3 b1
  unfold INm
  rw [e3, e15, e13]
  refine ⟨m1, m2, fun j j0 j1 => ?_⟩
  obtain ⟨s1, s2, s3⟩ := (remA_r (j := j) hg).1 ⟨j0, j1⟩
  have r := B.2.1.1 _ s1 (by omega)
  rw [er j j0 (by omega), remA_f (gr h 14), remA_f π, eA _ r, e173]
  obtain ⟨q1, q2, q3⟩ := m3 _ s1 s2
  refine ⟨q1, q2, fun i i0 i1 => ?_⟩
  obtain ⟨t1, t2, t3⟩ := (remA_r (j := i) hg).1 ⟨i0, by omega⟩
  rw [er i i0 (by omega), remA_f (gr h 14), eA _ (B.2.1.1 _ t1 (by omega))]
  exact q3 _ t1 (remA_mono hg i1 j1)
/-- the rules without one are among the rules -/
theorem RLc_rem {g n : Int} (en : gi h 13 1 = n) (hn : n ≤ 10) (hA : ∀ j, 0 ≤ j → j < n → ru (gr h 14 j)) (hg : 0 ≤ g ∧ g < n) (k : hBk h h' (remA (gr h 14) g n) (n - 1)) : ∀ u, RLc h' u → RLc h u := by
  obtain ⟨k1, k2, k3, k4, k5⟩ := k
  rintro u ⟨j, j0, j1, j2, j3⟩
  rw [k2] at j1
  obtain ⟨s1, s2, s3⟩ := (remA_r (j := j) hg).1 ⟨j0, j1⟩
  rw [k4 j j0 (by omega), remA_f] at j2 j3
  have r := ru_r (hA _ s1 s2)
  refine ⟨_, s1, by rw [en]; exact s2, by rw [← k1 _ _ (by omega)]; exact j2, ?_⟩
  rw [j3]
  exact (uR_cg (fun a i p q _ => k1 a i (by omega))).1
theorem CBS_rem {g n : Int} (C : CBS h) (en : gi h 13 1 = n) (hg : 0 ≤ g ∧ g < n) (k : hBk h h' (remA (gr h 14) g n) (n - 1)) : CBS h' := by
  obtain ⟨k1, k2, k3, k4, k5⟩ := k
  obtain ⟨c1, c2⟩ := C
  rw [en] at c1 c2
  refine ⟨by rw [k2]; omega, fun j j0 j1 => ?_⟩
  rw [k2] at j1
  obtain ⟨s1, s2, s3⟩ := (remA_r (j := j) hg).1 ⟨j0, j1⟩
  rw [k4 j j0 (by omega), remA_f]
  have R := c2 _ s1 s2
  have r := ru_r R.1
  exact RIc_cg R.1 (fun a i p q _ => k1 a i (by omega)) (k1 _ _ (by omega)) (fun i => k1 _ _ (by omega)) R
/-- removeAt, all of it -/
theorem s121 {d : Nat} (hd : 4 ≤ d) {g n : Int} (K : RK h) (C : CBS h) (en : gi h 13 1 = n) (hg : 0 ≤ g ∧ g < n) (G : ∀ hR, hBk h hR (remA (gr h 14) g n) (n - 1) → ∀ u, RLc hR u → ¬ LYL (ocL (RLc hR)) u) : ∃ hR h', dF d 121 [dR 1 9 13, dI g] h = rV h' ∧ hBk h hR (remA (gr h 14) g n) (n - 1) ∧ frCH hR h' ∧ CH h' ∧ CL h' ∧ RLc h' = RLc hR := by
  have c1 := C.1
  rw [en] at c1
  obtain ⟨hR, w1, w2, w3, x1, x2⟩ := s121a (d := d - 1) (h := h) (by rw [en]; omega) (g := g) (by rw [en]; exact hg)
  rw [en] at x2
  have CR := CBS_rem C en hg x2
  have KR : RK hR := by
    obtain ⟨k1, k2, k3, k4, k5⟩ := x2
    unfold RK
    have e : ∀ a i, a = 2 ∨ a = 3 ∨ a = 4 ∨ a = 5 → gi hR a i = gi h a i := fun a i q => k1 a i (by omega)
    simp only [e 2 _ (by omega), e 3 _ (by omega), e 4 _ (by omega), e 5 _ (by omega)]
    exact K
  obtain ⟨h1, h2, y1, y2, y3, y4, y5, y6⟩ := con_lay (d := d - 1) (h := hR) (by omega) (CBS_CB KR CR) (CBS_G1 KR CR) (G hR x2)
  refine ⟨hR, h2, ?_, x2, y3, y4, y5, y6⟩
  rw [f121 (by omega), x1, y1, bk_n, b121_76, y2, bk_n, b121_80]
end REM
