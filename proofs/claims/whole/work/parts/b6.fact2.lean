/-! THE CALL fact: what the reference refuses, on -/
section FC2
variable {h : dm_H} {π : Int → Int}
theorem s169b {d : Nat} (hd : 5 ≤ d) (I : IN0 π h) {H : dm_H} (e : ∀ a i, 144 ≤ a → gi H a i = gi h a i) (r a b c p en : Int) :
    (¬ (0 ≤ r ∧ r < gi h 2 0) → dF d 169 [dR 1 11 165, dI r, dI a, dI b, dI c, dI p, dI en] H = rI 0 (si H 165 0 1)) ∧
    ((0 ≤ r ∧ r < gi h 2 0) → ¬ (wit (gi h 3 r) 0 99 a b c ∧ (1 ≤ p ∧ p ≤ 99) ∧ (en = -1 ∨ gi h 1 12 < en)) → dF d 169 [dR 1 11 165, dI r, dI a, dI b, dI c, dI p, dI en] H = rI 0 (si H 165 0 2)) ∧
    ((0 ≤ r ∧ r < gi h 2 0) → (wit (gi h 3 r) 0 99 a b c ∧ (1 ≤ p ∧ p ≤ 99) ∧ (en = -1 ∨ gi h 1 12 < en)) → ¬ (fpl (fL 9 h) (gi h 8 0) r (a * 10000 + b * 100 + c) = -1 ∧ gi h 8 0 < 24) → dF d 169 [dR 1 11 165, dI r, dI a, dI b, dI c, dI p, dI en] H = rI 0 (si H 165 0 3)) ∧
    ((0 ≤ r ∧ r < gi h 2 0) → (wit (gi h 3 r) 0 99 a b c ∧ (1 ≤ p ∧ p ≤ 99) ∧ (en = -1 ∨ gi h 1 12 < en)) → (fpl (fL 9 h) (gi h 8 0) r (a * 10000 + b * 100 + c) = -1 ∧ gi h 8 0 < 24) → ∃ w7, dF d 169 [dR 1 11 165, dI r, dI a, dI b, dI c, dI p, dI en] H = dm_back (dL (d - 1) 169) dm_t169 118 [lR 1 11 165, lI r, lI a, lI b, lI c, lI p, lI en, w7] [] (dF (d - 1) 174 [dR 1 11 165] (si H 165 0 0))) := by
  have n6 := I.1.1.1
  have nr := I.1.2.1
  have F := I.2.2.2.2.2.2.2.2.1
  have s1 := s169a (d := d) hd I e r a b c p en
  have s2 : dF (d - 1) 170 [dR 1 11 165, dI r] H = rI (bi (0 ≤ r ∧ r < gi h 2 0)) H := by
    rw [s170 (by omega) r H (by rw [e _ _ (by omega), nr]; exact n6), e 165 1 (by omega), nr]
  have bad : ∀ (k : Int) (w7 : Option dm_V), 0 < k → dL (d - 1) 169 105 [lR 1 11 165, lI r, lI a, lI b, lI c, lI p, lI en, w7] [dI k, dR 1 11 165] H = rI 0 (si H 165 0 k) := by
    intro k w7 hk
    rw [b169_105, thr0, if_pos hk]
  refine ⟨fun y => ?_, fun y w => ?_, fun y w z => ?_, fun y w z => ?_⟩
  · rw [s1, b169_51, s2, bk_v, b169_59, bi_0 y, if_pos rfl, bad 1 _ (by decide)]
  · rw [s1, b169_51, s2, bk_v, b169_59, bi_1 y, if_neg (by decide), bi_0 (fun v => w v.2), if_pos rfl, bad 2 _ (by decide)]
  all_goals
    have hb := wit_99 w.1 (by omega) (by omega)
    have ef : fL 168 H = fL 168 h := fL_o (fun q i q0 q1 => e q i (by omega))
    have ep : dF (d - 1) 173 [dR 1 11 165, dI r, dI (10000 * a + 100 * b + c)] H = rI (fpl (fL 9 h) (gi h 8 0) r (a * 10000 + b * 100 + c)) H := by
      have n24 : 0 ≤ gi H 165 5 ∧ gi H 165 5 ≤ 24 := by rw [e _ _ (by omega), F.2.2.1]; exact F.1.1
      rw [s173 (by omega) _ _ n24, ef, e 165 5 (by omega), fpl_same F, show 10000 * a + 100 * b + c = a * 10000 + b * 100 + c by omega]
    have e5 : gi H 165 5 = gi h 8 0 := by rw [e _ _ (by omega)]; exact F.2.2.1
    have hn := F.1.1
    rw [s1, b169_51, s2, bk_v, b169_59, bi_1 y, if_neg (by decide), bi_1 (show (0 ≤ r ∧ r < gi h 2 0) ∧ wit (gi h 3 r) 0 99 a b c ∧ (1 ≤ p ∧ p ≤ 99) ∧ (en = -1 ∨ gi h 1 12 < en) from ⟨y, w⟩), if_neg (by decide), s172 (by omega) H hb.1 hb.2.1 hb.2.2, bk_v, b169_84, ep, bk_v, b169_87, e5]
  · by_cases q : fpl (fL 9 h) (gi h 8 0) r (a * 10000 + b * 100 + c) = -1
    · rw [if_pos q, if_pos (show gi h 8 0 = 24 by omega), b169_100, bad 3 _ (by decide)]
    · rw [if_neg q, b169_100, bad 3 _ (by decide)]
  · rw [if_pos z.1, if_neg (by omega), b169_105, thr0, if_neg (by decide)]
    exact ⟨_, rfl⟩
end FC2
