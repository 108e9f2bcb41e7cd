/-! GROUPS are taken -/
theorem si_same {h : dm_H} {a : Nat} {i v : Int} (e : gi h a i = v) : si h a i v = h := by
  rcases h with ⟨h1, h2⟩
  unfold si
  congr 1
  funext b j
  by_cases q : b = a ∧ j = i
  · rw [if_pos q, q.1, q.2]
    exact e.symm
  · rw [if_neg q]
section TAKE
variable {A P : Nat} {h0 : dm_H} {ft : Int → Int → Prop} {RL : mU → Prop} {L n : Int}
theorem s63 {d : Nat} (hd : 4 ≤ d) (hru : ru A) (hrw : rw_ P) (K : RK h0) (hr : 0 ≤ gi h0 A 2 ∧ gi h0 A 2 < gi h0 2 0) (hL : gi h0 7 (gi h0 A 2) = L) (hn : gi h0 A 3 = n ∧ n = cK h0 (gi h0 A 2)) (r6 : gr h0 143 6 = A) (r5 : gr h0 143 5 = P) (r1 : gr h0 140 1 = A) (hz : 0 ≤ gi h0 140 2 ∧ gi h0 140 2 ≤ 32)
    (hx : ∀ x, 0 ≤ x → x < gi h0 140 2 → vcd (n - 1) (gi h0 141 x) ∧ 0 ≤ gi h0 142 x ∧ gi h0 142 x ≤ 99)
    (hc : ∀ x, 0 ≤ x → x < gi h0 140 2 → ∀ Dm ω', cnd P h0 ft RL Dm ω' L → Dm (gi h0 A 2) → cov (cK h0) (gi h0 4) ω' (gi h0 A 2) (gi h0 141 x + gi h0 142 x * dm_unit (n - 1))) (I : inv P h0 ft RL 1 L h0) :
    ∃ h', dF d 63 [dR 1 1 143] h0 = rV h' ∧ frD P h0 h' ∧ ((gi h0 140 3 = 0 ∧ inv P h0 ft RL 1 L h' ∧ (gi h' P 5 = 0 → gi h0 P 5 = 0 ∧ ∀ x, 0 ≤ x → x < gi h0 140 2 → cov (cK h0) (gi h0 4) (cW h' P) (gi h0 A 2) (gi h0 141 x + gi h0 142 x * dm_unit (n - 1)))) ∨ (gi h0 140 3 ≠ 0 ∧ gi h' P 5 = 1 ∧ ∃ hh, inv P h0 ft RL 1 L hh ∧ h' = si hh P 5 1)) := by
  have hPP : P = 95 ∨ P = 112 := hrw
  have hA := ru_g hru
  have hr6 : 0 ≤ gi h0 A 2 ∧ gi h0 A 2 < 6 := by have := K.1; omega
  have d1 := (RK_D K _ hr6.1 hr6.2).1
  rw [f63 (by omega), b63_0]
  have loop : ∀ (m : Nat) (x : Int) (h : dm_H), 0 ≤ x → x + m = gi h0 140 2 → inv P h0 ft RL 1 L h → (gi h P 5 = 0 → gi h0 P 5 = 0 ∧ ∀ y, 0 ≤ y → y < x → cov (cK h0) (gi h0 4) (cW h P) (gi h0 A 2) (gi h0 141 y + gi h0 142 y * dm_unit (n - 1))) →
      ∃ h', dL (d - 1) 63 2 [lR 1 1 143, lI x] [] h = rV h' ∧ frD P h0 h' ∧ ((gi h0 140 3 = 0 ∧ inv P h0 ft RL 1 L h' ∧ (gi h' P 5 = 0 → gi h0 P 5 = 0 ∧ ∀ x, 0 ≤ x → x < gi h0 140 2 → cov (cK h0) (gi h0 4) (cW h' P) (gi h0 A 2) (gi h0 141 x + gi h0 142 x * dm_unit (n - 1)))) ∨ (gi h0 140 3 ≠ 0 ∧ gi h' P 5 = 1 ∧ ∃ hh, inv P h0 ft RL 1 L hh ∧ h' = si hh P 5 1)) := by
    intro m
    induction m with
    | zero =>
      intro x h x0 xm i hcv
      have ex : x = gi h0 140 2 := by omega
      have f := i.1
      have e : ∀ i, gi h 140 i = gi h0 140 i := fun i => f.1 140 i (by omega) (by omega) (by omega) (by omega) (by omega) (by omega)
      rw [b63_2, e, if_neg (by omega), show gr h 143 5 = P by rw [f.2.1]; exact r5, e]
      rw [ex] at hcv
      have h72 : gi h P 5 = 1 → ∃ h', dL (d - 1) 63 72 [lR 1 1 143, lI x] [dR 1 7 P] h = rV h' ∧ frD P h0 h' ∧ ((gi h0 140 3 = 0 ∧ inv P h0 ft RL 1 L h' ∧ (gi h' P 5 = 0 → gi h0 P 5 = 0 ∧ ∀ x, 0 ≤ x → x < gi h0 140 2 → cov (cK h0) (gi h0 4) (cW h' P) (gi h0 A 2) (gi h0 141 x + gi h0 142 x * dm_unit (n - 1)))) ∨ (gi h0 140 3 ≠ 0 ∧ gi h' P 5 = 1 ∧ ∃ hh, inv P h0 ft RL 1 L hh ∧ h' = si hh P 5 1)) := by
        intro q
        rw [b63_72, b63_77, z1_p (Or.inr rfl), si_same q]
        refine ⟨h, rfl, f, ?_⟩
        by_cases z : gi h0 140 3 = 0
        · exact Or.inl ⟨z, i, hcv⟩
        · exact Or.inr ⟨z, q, h, i, (si_same q).symm⟩
      by_cases q : gi h P 5 = 0
      · rw [if_pos q]
        by_cases z : gi h0 140 3 = 0
        · rw [if_pos z, b63_77, z1_p (Or.inl rfl), si_same q]
          exact ⟨h, rfl, f, Or.inl ⟨z, i, hcv⟩⟩
        · rw [if_neg z, b63_72, b63_77, z1_p (Or.inr rfl)]
          refine ⟨_, rfl, frD_trans f ⟨fun a j p1 p2 _ _ _ _ => by rw [gi_si, if_neg p2], fun _ _ => rfl, rfl⟩, Or.inr ⟨z, gi_sis, h, i, rfl⟩⟩
      · rw [if_neg q]
        refine h72 ?_
        rcases i.2.2.2.2.2.2.1 with y | y
        · exact absurd y q
        · exact y.1
    | succ m ih =>
      intro x h x0 xm i hcv
      have f := i.1
      have e : ∀ i, gi h 140 i = gi h0 140 i := fun i => f.1 140 i (by omega) (by omega) (by omega) (by omega) (by omega) (by omega)
      have e1 : ∀ i, gi h 141 i = gi h0 141 i := fun i => f.1 141 i (by omega) (by omega) (by omega) (by omega) (by omega) (by omega)
      have e2 : ∀ i, gi h 142 i = gi h0 142 i := fun i => f.1 142 i (by omega) (by omega) (by omega) (by omega) (by omega) (by omega)
      have eA := fun a ha => frD_A hru hrw f a (Or.inl ha)
      obtain ⟨K', ec, ek⟩ := frD_K hru hrw f K
      obtain ⟨k1, k2⟩ := hx x x0 (by omega)
      have hrow := row_cv (n := n) (by omega) k1 k2
      have h64 := s64 (d := d - 1) (h := h) (A := A) (n := n) (x := x) (by omega) (by rw [f.2.1]; exact r1) (by rw [eA A (by omega)]; exact hn.1) (by omega) (by rw [e]; omega) (by rw [e]; omega) (by rw [e1]; exact k1.1) (by rw [e2]; exact k2)
      rw [e1, e2] at h64
      have hn2 : gi h 2 0 = gi h0 2 0 := frD_A hru hrw f 2 (Or.inr (by omega)) _
      obtain ⟨b, h1, p1, p2⟩ := s36p (d := d - 1) (by omega) hrw (r := gi h0 A 2) (c := gi h0 141 x + gi h0 142 x * dm_unit (n - 1)) (s := 1) K' ⟨hr6.1, by rw [hn2]; exact hr.2⟩ (by rw [ec, ek]; exact i.2.1) i.2.2.1 (by rw [ec, ← hn.2]; exact hrow.1)
      rw [ec, ek] at p2
      obtain ⟨n1, n2, n3⟩ := inv_put hrw hr6 hL i p2 (hc x x0 (by omega))
      have hfl : inv P h0 ft RL 1 L (si h1 143 8 1) ∧ gro (cK h0) (gi h0 4) P 1 h (si h1 143 8 1) := by
        by_cases b0 : b = 0
        · rw [if_pos b0] at n1 n2
          obtain ⟨m1, m2⟩ := inv_flag hrw rfl n1
          exact ⟨m1, gro_trans n2 m2⟩
        · rw [if_neg b0] at n1 n2
          exact ⟨n1, n2⟩
      have hW : smW (cW h1 P) (cW (si h1 143 8 1) P) := fun r _ _ => ⟨by show rsz (si h1 143 8 1) P r = rsz h1 P r; unfold rsz; rw [gi_sin (by omega)], fun x => by show rws (si h1 143 8 1) P r x = rws h1 P r x; unfold rws; rw [gi_sin (by omega)]⟩
      have h5 : gi (si h1 143 8 1) P 5 = gi h1 P 5 := gi_sin (by omega)
      rw [b63_2, e, if_pos (by omega), show gr h 143 6 = A by rw [f.2.1]; exact r6, show gr h 143 5 = P by rw [f.2.1]; exact r5, eA A (by omega), h64, bk_v, b63_32, p1, bk_v, b63_36, ck_p (by omega) (by omega)]
      refine ih (x + 1) _ (by omega) (by omega) hfl.1 (fun q => ?_)
      rw [h5] at q
      obtain ⟨n4, n5⟩ := n3 q
      refine ⟨(hcv n4).1, fun y y0 y1 => ?_⟩
      by_cases ey : y = x
      · rw [ey]
        exact smW_cov hW hr6 n5
      · exact gro_cov hfl.2 hr6 ((hcv n4).2 y y0 (by omega))
  exact loop (gi h0 140 2).toNat 0 h0 (by omega) (by omega) I (fun q => ⟨q, fun y y0 y1 => by omega⟩)
end TAKE
