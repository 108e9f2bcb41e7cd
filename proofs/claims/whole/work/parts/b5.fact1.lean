/-! THE CALL fact: what the reference refuses -/
section FC1
variable {h : dm_H} {π : Int → Int}
theorem s169a {d : Nat} (hd : 5 ≤ d) (I : IN0 π h) {H : dm_H} (e : ∀ a i, 144 ≤ a → gi H a i = gi h a i) (r a b c p en : Int) : dF d 169 [dR 1 11 165, dI r, dI a, dI b, dI c, dI p, dI en] H = dL (d - 1) 169 51 [lR 1 11 165, lI r, lI a, lI b, lI c, lI p, lI en, none] [dI (bi ((0 ≤ r ∧ r < gi h 2 0) ∧ wit (gi h 3 r) 0 99 a b c ∧ (1 ≤ p ∧ p ≤ 99) ∧ (en = -1 ∨ gi h 1 12 < en)))] H := by
  have n6 := I.1.1.1
  have nr := I.1.2.1
  have F := I.2.2.2.2.2.2.2.2.1
  have e4 : gi H 165 4 = gi h 1 12 := by rw [e _ _ (by omega)]; exact F.2.2.2.2.2.1
  rw [f169 (by omega), b169_0, s170 (by omega) r H (by rw [e _ _ (by omega), nr]; exact n6), e 165 1 (by omega), nr, bk_v, b169_5]
  by_cases y : 0 ≤ r ∧ r < gi h 2 0
  case neg => rw [bi_0 y, if_pos rfl, b169_50, bi_0 (fun w => y w.1)]
  have hc := (cK_c I.1.1 y.1 y.2).2.1
  have e3 : gi H 166 r = gi h 3 r := by rw [e _ _ (by omega)]; exact (I.1.2.2.1 r).1
  rw [bi_1 y, if_neg (by decide), s171 (by omega) r a b c H (by omega) (by rw [e3]; exact hc), e3, bk_v, b169_17]
  by_cases w : wit (gi h 3 r) 0 99 a b c
  case neg => rw [bi_0 w, if_pos rfl, b169_50, bi_0 (fun v => w v.2.1)]
  rw [bi_1 w, if_neg (by decide), s168 (by omega), bk_v, b169_28]
  by_cases z : 1 ≤ p ∧ p ≤ 99
  case neg => rw [bi_0 z, if_pos rfl, b169_50, bi_0 (fun v => z v.2.2.1)]
  rw [bi_1 z, if_neg (by decide)]
  by_cases u : en = -1
  · rw [if_pos u, b169_46, bi_1 (show (0 ≤ r ∧ r < gi h 2 0) ∧ wit (gi h 3 r) 0 99 a b c ∧ (1 ≤ p ∧ p ≤ 99) ∧ (en = -1 ∨ gi h 1 12 < en) from ⟨y, w, z, Or.inl u⟩)]
  · rw [if_neg u, e4]
    by_cases t : gi h 1 12 < en
    · rw [if_pos t, b169_46, bi_1 (show (0 ≤ r ∧ r < gi h 2 0) ∧ wit (gi h 3 r) 0 99 a b c ∧ (1 ≤ p ∧ p ≤ 99) ∧ (en = -1 ∨ gi h 1 12 < en) from ⟨y, w, z, Or.inr t⟩)]
    · rw [if_neg t, b169_50, bi_0 (fun v => v.2.2.2.elim u t)]
end FC1
