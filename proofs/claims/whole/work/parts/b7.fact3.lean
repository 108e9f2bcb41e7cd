/-! THE CALL fact: what the class refuses -/
section FC3
variable {h : dm_H} {π : Int → Int}
theorem s71a {d : Nat} (hd : 5 ≤ d) (I : IN0 π h) (r a b c p en : Int) :
    (¬ (0 ≤ r ∧ r < gi h 2 0) → dF d 71 [dR 1 10 1, dI r, dI a, dI b, dI c, dI p, dI en] h = rX 0 (sg h 6)) ∧
    ((0 ≤ r ∧ r < gi h 2 0) → ¬ (wit (gi h 3 r) 0 99 a b c ∧ (1 ≤ p ∧ p ≤ 99) ∧ (en = -1 ∨ gi h 1 12 < en)) → dF d 71 [dR 1 10 1, dI r, dI a, dI b, dI c, dI p, dI en] h = rX 1 (sg h 6)) ∧
    ((0 ≤ r ∧ r < gi h 2 0) → (wit (gi h 3 r) 0 99 a b c ∧ (1 ≤ p ∧ p ≤ 99) ∧ (en = -1 ∨ gi h 1 12 < en)) → ¬ (fpl (fL 9 h) (gi h 8 0) r (a * 10000 + b * 100 + c) = -1 ∧ gi h 8 0 < 24) → dF d 71 [dR 1 10 1, dI r, dI a, dI b, dI c, dI p, dI en] h = rX 2 (sg h 6)) ∧
    ((0 ≤ r ∧ r < gi h 2 0) → (wit (gi h 3 r) 0 99 a b c ∧ (1 ≤ p ∧ p ≤ 99) ∧ (en = -1 ∨ gi h 1 12 < en)) → (fpl (fL 9 h) (gi h 8 0) r (a * 10000 + b * 100 + c) = -1 ∧ gi h 8 0 < 24) → dF d 71 [dR 1 10 1, dI r, dI a, dI b, dI c, dI p, dI en] h = dm_back (dL (d - 1) 71) dm_t71 96 [lR 1 10 1, lI r, lI a, lI b, lI c, lI p, lI en, lI (a * 10000 + b * 100 + c)] [] (dF (d - 1) 79 [dR 1 2 8, dI r, dI (a * 10000 + b * 100 + c), dI p, dI en] h)) := by
  have n6 := I.1.1.1
  have F := I.2.2.2.2.2.2.2.2.1
  have hn := F.1.1
  rcases s72 (h := h) (d := d - 1) (by omega) r a b c n6 with ⟨y, e⟩ | ⟨y, y2, e⟩ | ⟨y, y2, e⟩
  · have c0 : dF d 71 [dR 1 10 1, dI r, dI a, dI b, dI c, dI p, dI en] h = rX 0 (sg h 6) := by rw [f71 (by omega), b71_0, e, bk_x rfl]
    exact ⟨fun _ => c0, fun q => absurd q y, fun q => absurd q y, fun q => absurd q y⟩
  · have c0 : dF d 71 [dR 1 10 1, dI r, dI a, dI b, dI c, dI p, dI en] h = rX 1 (sg h 6) := by rw [f71 (by omega), b71_0, e, bk_x rfl]
    exact ⟨fun q => absurd y q, fun _ _ => c0, fun _ q => absurd q.1 y2, fun _ q => absurd q.1 y2⟩
  · have st : dF d 71 [dR 1 10 1, dI r, dI a, dI b, dI c, dI p, dI en] h = if (1 ≤ p ∧ p ≤ 99) ∧ (en = -1 ∨ gi h 1 12 < en) then dL (d - 1) 71 49 [lR 1 10 1, lI r, lI a, lI b, lI c, lI p, lI en, lI (a * 10000 + b * 100 + c)] [] h else rX 1 (sg h 6) := by
      rw [f71 (by omega), b71_0, e, bk_v, b71_9]
      by_cases z1 : p < 1
      · rw [if_pos z1, b71_39, if_neg (by omega)]
      rw [if_neg z1]
      by_cases z2 : 99 < p
      · rw [if_pos z2, b71_39, if_neg (by omega)]
      rw [if_neg z2]
      by_cases z3 : en = -1
      · rw [if_pos z3, if_pos (show (1 ≤ p ∧ p ≤ 99) ∧ (en = -1 ∨ gi h 1 12 < en) by omega)]
      rw [if_neg z3]
      by_cases z4 : gi h 1 12 < en
      · rw [if_pos z4, if_pos (show (1 ≤ p ∧ p ≤ 99) ∧ (en = -1 ∨ gi h 1 12 < en) by omega)]
      · rw [if_neg z4, b71_39, if_neg (show ¬ ((1 ≤ p ∧ p ≤ 99) ∧ (en = -1 ∨ gi h 1 12 < en)) by omega)]
    refine ⟨fun q => absurd y q, fun _ q => ?_, fun _ q z => ?_, fun _ q z => ?_⟩
    · rw [st, if_neg (fun w => q ⟨y2, w⟩)]
    · rw [st, if_pos q.2, b71_49, s78 (by omega) _ _ hn, bk_v, b71_59]
      by_cases w : fpl (fL 9 h) (gi h 8 0) r (a * 10000 + b * 100 + c) = -1
      · rw [if_pos w, if_neg (by omega), b71_75]
      · rw [if_neg w, b71_75]
    · rw [st, if_pos q.2, b71_49, s78 (by omega) _ _ hn, bk_v, b71_59, if_pos z.1, if_pos z.2]
end FC3
