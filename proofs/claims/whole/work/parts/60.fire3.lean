/-! FIRE in later rounds -/
section FIRE3
variable {P : Nat} {hB : dm_H} {oc : Int → Int → Prop} {ft : Int → Int → Prop} {RL : mU → Prop} {s L : Int}
theorem Qr_lt {r na k t : Int} (h : Qr r na k t) : t ≤ r := by
  have := h.2
  split at this <;> omega
theorem fire_r {A : Nat} (hp : rw_ P) (K : RK hB) (R : RP hB oc RL A) (hk : gi hB A 1 = 0) (hL : gi hB 7 (gi hB A 2) = L) {r : Int} (hr : 0 < r ∧ r + 1 = s ∧ s ≤ 1000000) {h : dm_H} (I : RI P hB ft RL s L h) (r6 : gr h 143 6 = A) (r5 : gr h 143 5 = P) (h7 : gi h 143 7 = r) {d : Nat} (hd : 9 ≤ d) :
    ∃ h', dF d 61 [dR 1 1 143] h = rV h' ∧ RI P hB ft RL s L h' ∧ frR P h h' ∧ gro (cK hB) (gi hB 4) P s h h' ∧ flc P hB s h h' ∧ (gr h' 143 6 = A ∧ gr h' 143 5 = P ∧ gi h' 143 7 = r) ∧ (gi h' P 5 = 0 → gi h P 5 = 0 ∧ ∀ na, 0 ≤ na → na < gi hB A 4 → gi hB (A + 2) na = 0 → ∀ w, vbq A P h' (Qr r na) (gi hB A 4).toNat 0 v0 w → cov (cK hB) (gi hB 4) (cW h' P) (gi hB A 2) (hdc (cK hB) (uR hB A) w)) := by
  have hP : P = 95 ∨ P = 112 := hp
  have hN := R.2.1.2.2.1
  have hN : 0 ≤ gi hB A 4 ∧ gi hB A 4 ≤ 4 := hN
  have hr6 : 0 ≤ gi hB A 2 ∧ gi hB A 2 < 6 := R.2.1.2.1
  have loop : ∀ (m : Nat) (j : Int) (g : dm_H), 0 ≤ j → j + m = gi hB A 4 → RI P hB ft RL s L g → frR P h g → gro (cK hB) (gi hB 4) P s h g → flc P hB s h g → (gr g 143 6 = A ∧ gr g 143 5 = P ∧ gi g 143 7 = r) → (gi g P 5 = 0 → gi h P 5 = 0 ∧ ∀ na, 0 ≤ na → na < j → gi hB (A + 2) na = 0 → ∀ w, vbq A P g (Qr r na) (gi hB A 4).toNat 0 v0 w → cov (cK hB) (gi hB 4) (cW g P) (gi hB A 2) (hdc (cK hB) (uR hB A) w)) →
      ∃ h', dL (d - 1) 61 77 [lR 1 1 143, lI j] [] g = rV h' ∧ RI P hB ft RL s L h' ∧ frR P h h' ∧ gro (cK hB) (gi hB 4) P s h h' ∧ flc P hB s h h' ∧ (gr h' 143 6 = A ∧ gr h' 143 5 = P ∧ gi h' 143 7 = r) ∧ (gi h' P 5 = 0 → gi h P 5 = 0 ∧ ∀ na, 0 ≤ na → na < gi hB A 4 → gi hB (A + 2) na = 0 → ∀ w, vbq A P h' (Qr r na) (gi hB A 4).toNat 0 v0 w → cov (cK hB) (gi hB 4) (cW h' P) (gi hB A 2) (hdc (cK hB) (uR hB A) w)) := by
    intro m
    induction m with
    | zero =>
      intro j g j0 jm i1 i2 i3 i4 i5 i6
      obtain ⟨e1, -⟩ := frR_e R.1 hp i1.1
      have ej : j = gi hB A 4 := by omega
      rw [b61_77, i5.1, e1 A (by omega), if_neg (by omega), b61_176]
      exact ⟨g, rfl, i1, i2, i3, i4, i5, fun z => ⟨(i6 z).1, fun na n0 n1 => (i6 z).2 na n0 (by omega)⟩⟩
    | succ m ih =>
      intro j g j0 jm i1 i2 i3 i4 i5 i6
      obtain ⟨e1, e2, e3, e4, e5, e6⟩ := frR_e R.1 hp i1.1
      rw [b61_77, i5.1, i5.2.1, e1 A (by omega), if_pos (by omega)]
      by_cases hT : gi g P 5 = 0
      case neg =>
        rw [if_neg hT, b61_176]
        exact ⟨g, rfl, i1, i2, i3, i4, i5, fun z => absurd z hT⟩
      obtain ⟨i7, i8⟩ := i6 hT
      rw [if_pos hT, ix_p j0 (by omega), e1 (A + 2) (by omega)]
      by_cases hs : gi hB (A + 2) j = 0
      case neg =>
        rw [if_neg hs, b61_170, ck_p (by omega) (by omega)]
        refine ih (j + 1) g (by omega) (by omega) i1 i2 i3 i4 i5 (fun z => ⟨i7, fun na n0 n1 n2 => i8 na n0 ?_ n2⟩)
        by_cases e : na = j
        · rw [e] at n2; exact absurd n2 hs
        · omega
      have z := RP_sub K R j0 (by omega) (Or.inl hs)
      rw [if_pos hs, ix_p j0 (by omega), e1 (A + 3) (by omega), ix_p z.1.1 z.1.2, i5.2.2]
      by_cases hl : gi g (P + 16) (gi hB (A + 3) j) < r
      · rw [if_pos hl, b61_170, ck_p (by omega) (by omega)]
        refine ih (j + 1) g (by omega) (by omega) i1 i2 i3 i4 i5 (fun _ => ⟨i7, fun na n0 n1 n2 w hw => ?_⟩)
        by_cases e : na = j
        · subst e
          refine absurd hw (vbq_none (by rw [e1 (A + 2) (by omega)]; exact hs) (fun x x0 x1 => ?_) _ 0 v0 w n0 (by omega))
          rw [e1 (A + 3) (by omega)] at x1 ⊢
          have := ((i1.2.2.1 _ z.1.1 z.1.2).2 x x0 x1).2
          omega
        · exact i8 na n0 (by omega) n2 w hw
      · rw [if_neg hl, s20 (by omega), bk_n, b61_150, bgn_gi (by decide) (by decide), i5.2.2, s65 (by omega), bk_n, b61_162]
        -- the heap that the step begins with
        have hg : ∀ a i, a ≠ 137 → gi (si (si (bgn g A P 143) 137 9 r) 137 10 j) a i = gi (bgn g A P 143) a i := fun a i ha => by rw [gi_sin ha, gi_sin ha]
        have hgr : ∀ a i, gr (si (si (bgn g A P 143) 137 9 r) 137 10 j) a i = gr (bgn g A P 143) a i := fun a i => rfl
        have f1 : frR P g (si (si (bgn g A P 143) 137 9 r) 137 10 j) := frR_trans frR_b ⟨fun a i _ _ p3 => hg a i (by omega), fun _ _ _ _ _ => rfl, rfl⟩
        have m1 : smP P g (si (si (bgn g A P 143) 137 9 r) 137 10 j) := smP_tr (smP_b hp) (fun a i p q => hg a i (by omega))
        have I1 := RI_P R.1 hp i1 f1 m1
        obtain ⟨j2, j3, j4, j5, j9, j10⟩ := bgn_j g A P 143
        obtain ⟨b6, b7, b8⟩ := bgn_gr g A P 143
        have hb8 : gi (si (si (bgn g A P 143) 137 9 r) 137 10 j) 143 8 = gi g 143 8 := by rw [hg _ _ (by decide), bgn_gi (by decide) (by decide)]
        have hb7 : gi (si (si (bgn g A P 143) 137 9 r) 137 10 j) 143 7 = r := by rw [hg _ _ (by decide), bgn_gi (by decide) (by decide)]; exact i5.2.2
        have k6 : gr (si (si (bgn g A P 143) 137 9 r) 137 10 j) 143 6 = A := by rw [hgr, bgn_gn (by decide)]; exact i5.1
        have k5 : gr (si (si (bgn g A P 143) 137 9 r) 137 10 j) 143 5 = P := by rw [hgr, bgn_gn (by decide)]; exact i5.2.1
        have hva : va (si (si (bgn g A P 143) 137 9 r) 137 10 j) 138 = v0 := by
          refine Eq.trans ?_ (bgn_va g A P 143)
          funext x; unfold va; rw [hg _ _ (by decide)]
        have hj : ∀ i, i ≠ 9 → i ≠ 10 → gi (si (si (bgn g A P 143) 137 9 r) 137 10 j) 137 i = gi (bgn g A P 143) 137 i := fun i h1 h2 => by rw [gi_sij h2, gi_sij h1]
        obtain ⟨h', q1, q2, q3, q4, q5, q6⟩ := join_F (d := d - 1) hp K R hk hL I1 (rd := r) (na := j) (by omega) k6 k5 (by rw [hb7]; omega) ⟨by rw [hgr]; exact b6, by rw [hgr]; exact b7, by rw [hgr]; exact b8⟩ hva ⟨by rw [hj 2 (by decide) (by decide)]; exact j2, by rw [hj 4 (by decide) (by decide)]; exact j4, by rw [hj 5 (by decide) (by decide)]; exact j5, by rw [gi_sij (by decide), gi_sis], by rw [gi_sis]⟩ (by omega)
        have gg := gro_trans (gro_P (cl := cK hB) (kd := gi hB 4) (s := s) m1) q4
        rw [q1, bk_n, b61_170, ck_p (by omega) (by omega)]
        refine ih (j + 1) h' (by omega) (by omega) q2 (frR_trans i2 (frR_trans f1 (frR_D q3))) (gro_trans i3 gg) (flc_trans i4 (flc_trans (flc_P hp m1 hb8) q5)) ⟨by rw [q3.2.1]; exact k6, by rw [q3.2.1]; exact k5, by rw [q3.1 143 7 (by omega) (by omega) (by omega) (by omega) (by omega) (by omega)]; exact hb7⟩ (fun zz => ⟨i7, fun na n0 n1 n2 w hw => ?_⟩)
        by_cases e : na = j
        · rw [e] at hw
          exact (q6 zz).2 w hw
        · exact gro_cov gg hr6 (i8 na n0 (by omega) n2 w (vbq_mono hp K R hL i1 q2 gg (fun k t ht => by have := Qr_lt ht; omega) _ 0 v0 w (by omega) (by omega) hw))
  obtain ⟨e1, -⟩ := frR_e R.1 hp I.1
  obtain ⟨h', q1, q2⟩ := loop (gi hB A 4).toNat 0 h (by omega) (by omega) I (frR_refl P h) (gro_refl P s h) (flc_refl h) ⟨r6, r5, h7⟩ (fun z => ⟨z, fun na n0 n1 => by omega⟩)
  refine ⟨h', ?_, q2⟩
  rw [f61 (by omega), b61_0, if_neg (by omega), r6, e1 A (by omega), if_pos hk]
  exact q1
end FIRE3
