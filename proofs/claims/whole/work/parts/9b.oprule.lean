/-! THE CALL rule -/
/-- only the draft is another one -/
def frDr (h h' : dm_H) : Prop := (∀ a i, ¬ (gr h 1 10 ≤ a ∧ a ≤ gr h 1 10 + 7 ∧ ¬ (a = gr h 1 10 ∧ i = 0)) → ¬ (a = 172 ∧ 380 ≤ i ∧ i < 418) → ¬ (a = 1 ∧ i = 11) → ¬ (a = 165 ∧ (i = 0 ∨ i = 16)) → gi h' a i = gi h a i) ∧ ∀ a i, gr h' a i = gr h a i
/-- what room a call takes -/
def rm (h h' : dm_H) : Prop := gz h' = gz h ∧ gc h' ≤ gc h + 1 ∧ gs h' ≤ gs h + 6 ∧ gi h' 1 12 ≤ gi h 1 12 + 100 ∧ gi h' 13 3 ≤ gi h 13 3 + 1
theorem ct_e {h h' : dm_H} (a : gi h' 1 12 = gi h 1 12) (b : gi h' 13 3 = gi h 13 3) : gi h' 1 12 ≤ gi h 1 12 + 100 ∧ gi h' 13 3 ≤ gi h 13 3 + 1 := by omega
theorem frDr_refl (h : dm_H) : frDr h h := ⟨fun _ _ _ _ _ _ => rfl, fun _ _ => rfl⟩
section OR
variable {h : dm_H}
theorem s92 {d : Nat} (hd : 4 ≤ d) (K : RK h) (k r a b c : Int) :
    (¬ ((k ≠ 3 ∧ 0 ≤ r ∧ r < gi h 2 0) ∨ (¬ (0 ≤ k ∧ k ≤ 2) ∧ r = -1)) ∧ dF d 92 [dR 1 10 1, dI k, dI r, dI a, dI b, dI c] h = rX 0 (sg h 6)) ∨
    (((k ≠ 3 ∧ 0 ≤ r ∧ r < gi h 2 0) ∨ (¬ (0 ≤ k ∧ k ≤ 2) ∧ r = -1)) ∧ ¬ ((0 ≤ k ∧ k ≤ 3) ∧ wit (if k ≠ 3 ∧ 0 ≤ r ∧ r < gi h 2 0 then gi h 3 r else 0) 0 107 a b c) ∧ dF d 92 [dR 1 10 1, dI k, dI r, dI a, dI b, dI c] h = rX 1 (sg h 6)) ∨
    (((k ≠ 3 ∧ 0 ≤ r ∧ r < gi h 2 0) ∨ (¬ (0 ≤ k ∧ k ≤ 2) ∧ r = -1)) ∧ ((0 ≤ k ∧ k ≤ 3) ∧ wit (if k ≠ 3 ∧ 0 ≤ r ∧ r < gi h 2 0 then gi h 3 r else 0) 0 107 a b c) ∧ ∃ h', dF d 92 [dR 1 10 1, dI k, dI r, dI a, dI b, dI c] h = rV (si h' 1 11 1) ∧ frA (gr h 1 10) h h' ∧ gi h' (gr h 1 10) 0 = gi h (gr h 1 10) 0 ∧ gi h' (gr h 1 10) 1 = k ∧ gi h' (gr h 1 10) 2 = r ∧ gi h' (gr h 1 10) 3 = (if k ≠ 3 ∧ 0 ≤ r ∧ r < gi h 2 0 then gi h 3 r else 0) ∧ gi h' (gr h 1 10) 4 = 0 ∧ gi h' (gr h 1 10) 5 = 0 ∧ gi h' (gr h 1 10) 6 = -1 ∧ gi h' (gr h 1 10 + 1) 0 = a ∧ gi h' (gr h 1 10 + 1) 1 = b ∧ gi h' (gr h 1 10 + 1) 2 = c) := by
  have hr6 := K.1
  obtain ⟨ik, eik, ik1⟩ : ∃ ik : Int, (ik = 0 ∨ ik = 1) ∧ (ik = 1 ↔ 0 ≤ k ∧ k ≤ 3) := ⟨bi (0 ≤ k ∧ k ≤ 3), bi_01 _, bi_e1⟩
  have s0 : dL (d - 1) 92 0 [lR 1 10 1, lI k, lI r, lI a, lI b, lI c, none, none, none, none] [] h = dL (d - 1) 92 14 [lR 1 10 1, lI k, lI r, lI a, lI b, lI c, none, none, none, none] [dI ik] h := by
    rw [b92_0]
    by_cases z : k < 0
    · rw [if_pos z, b92_13, show ik = 0 by omega]
    rw [if_neg z]
    by_cases y : 3 < k
    · rw [if_pos y, b92_13, show ik = 0 by omega]
    · rw [if_neg y, show ik = 1 by omega]
  obtain ⟨ch, ech, ch1⟩ : ∃ ch : Int, (ch = 0 ∨ ch = 1) ∧ (ch = 1 ↔ k ≠ 3 ∧ 0 ≤ r ∧ r < gi h 2 0) := ⟨bi (k ≠ 3 ∧ 0 ≤ r ∧ r < gi h 2 0), bi_01 _, bi_e1⟩
  have s1 : dL (d - 1) 92 14 [lR 1 10 1, lI k, lI r, lI a, lI b, lI c, none, none, none, none] [dI ik] h = dL (d - 1) 92 37 [lR 1 10 1, lI k, lI r, lI a, lI b, lI c, lI ik, none, none, none] [dI ch] h := by
    rw [b92_14]
    by_cases z : k = 3
    · rw [if_pos z, b92_36, show ch = 0 by omega]
    rw [if_neg z, s74 (by omega), bk_v, b92_29]
    by_cases y : 0 ≤ r ∧ r < gi h 2 0
    · rw [bi_1 y, if_neg (by decide), show ch = 1 by omega]
    · rw [bi_0 y, if_pos rfl, b92_36, show ch = 0 by omega]
  obtain ⟨cl, ecl, cl1⟩ : ∃ cl : Int, (cl = 0 ∨ cl = 1) ∧ (cl = 1 ↔ ¬ (0 ≤ k ∧ k ≤ 2) ∧ r = -1) := ⟨bi (¬ (0 ≤ k ∧ k ≤ 2) ∧ r = -1), bi_01 _, bi_e1⟩
  have s2 : dL (d - 1) 92 37 [lR 1 10 1, lI k, lI r, lI a, lI b, lI c, lI ik, none, none, none] [dI ch] h = dL (d - 1) 92 59 [lR 1 10 1, lI k, lI r, lI a, lI b, lI c, lI ik, lI ch, none, none] [dI cl] h := by
    have t : (k = 3 ∨ ik = 0) → dL (d - 1) 92 49 [lR 1 10 1, lI k, lI r, lI a, lI b, lI c, lI ik, lI ch, none, none] [] h = dL (d - 1) 92 59 [lR 1 10 1, lI k, lI r, lI a, lI b, lI c, lI ik, lI ch, none, none] [dI cl] h := by
      intro hk
      rw [b92_49]
      by_cases w : r = -1
      · rw [if_pos w, show cl = 1 by omega]
      · rw [if_neg w, b92_58, show cl = 0 by omega]
    rw [b92_37]
    by_cases z : k = 3
    · rw [if_pos z]; exact t (Or.inl z)
    rw [if_neg z]
    by_cases y : ik = 0
    · rw [if_pos y]; exact t (Or.inr y)
    · rw [if_neg y, b92_58, show cl = 0 by omega]
  rw [f92 (by omega), s0, s1, s2, b92_59]
  by_cases zz : (k ≠ 3 ∧ 0 ≤ r ∧ r < gi h 2 0) ∨ (¬ (0 ≤ k ∧ k ≤ 2) ∧ r = -1)
  case neg =>
    rw [if_pos (by omega), if_pos (by omega)]
    exact Or.inl ⟨zz, rfl⟩
  right
  have hmid : (if ch = 0 then if cl = 0 then rX 0 (sg h 6) else dL (d - 1) 92 81 [lR 1 10 1, lI k, lI r, lI a, lI b, lI c, lI ik, lI ch, lI cl, none] [] h else dL (d - 1) 92 81 [lR 1 10 1, lI k, lI r, lI a, lI b, lI c, lI ik, lI ch, lI cl, none] [] h) = dL (d - 1) 92 81 [lR 1 10 1, lI k, lI r, lI a, lI b, lI c, lI ik, lI ch, lI cl, none] [] h := by
    by_cases y : ch = 0
    · rw [if_pos y, if_neg (by omega)]
    · rw [if_neg y]
  obtain ⟨n, en⟩ : ∃ n, n = (if k ≠ 3 ∧ 0 ≤ r ∧ r < gi h 2 0 then gi h 3 r else 0) := ⟨_, rfl⟩
  have s3 : dL (d - 1) 92 81 [lR 1 10 1, lI k, lI r, lI a, lI b, lI c, lI ik, lI ch, lI cl, none] [] h = dL (d - 1) 92 99 [lR 1 10 1, lI k, lI r, lI a, lI b, lI c, lI ik, lI ch, lI cl, none] [dI n] h := by
    rw [b92_81, en]
    by_cases y : ch = 0
    · rw [if_pos y, if_neg (by omega)]
    · rw [if_neg y, ix_p (by omega) (by omega), if_pos (by omega)]
  rw [hmid, s3, b92_99, ← en]
  by_cases y : ik = 0
  · rw [if_pos y, b92_122]
    exact Or.inl ⟨zz, fun w => by omega, rfl⟩
  rw [if_neg y, s75 (by omega), bk_v, b92_119]
  by_cases w : wit n 0 107 a b c
  · rw [bi_1 w, if_neg (by decide)]
    obtain ⟨h', x1, x2⟩ := s93 (d := d - 1) (A := gr h 1 10) (h := h) (by omega) k r n a b c
    rw [x1, bk_n, b92_148]
    exact Or.inr ⟨zz, ⟨by omega, w⟩, h', rfl, x2⟩
  · rw [bi_0 w, if_pos rfl, b92_122]
    exact Or.inl ⟨zz, fun v => w v.2, rfl⟩
theorem s91 {d : Nat} (hd : 5 ≤ d) (k r a b c : Int) (x : dm_O) (e : dF (d - 1) 92 [dR 1 10 1, dI k, dI r, dI a, dI b, dI c] h = x) : (∀ h', x = rV h' → dF d 91 [dR 1 10 1, dI k, dI r, dI a, dI b, dI c] h = rI 0 h') ∧ (∀ h', x = rX 0 h' → dF d 91 [dR 1 10 1, dI k, dI r, dI a, dI b, dI c] h = rI 1 h') ∧ ∀ h', x = rX 1 h' → dF d 91 [dR 1 10 1, dI k, dI r, dI a, dI b, dI c] h = rI 2 h' := by
  rw [f91 (by omega), b91_0, e]
  refine ⟨fun h' ex => ?_, fun h' ex => ?_, fun h' ex => ?_⟩
  · rw [ex, bk_n, b91_11]
  · rw [ex, bk_c (g := 14) (j := 6) (n := 2) (L' := [lR 1 10 1, lI k, lI r, lI a, lI b, lI c, none]) rfl (fun f => rfl)]
    exact b91_16 _ _ _ _ _ _ _ _ _
  · rw [ex, bk_c (g := 18) (j := 6) (n := 2) (L' := [lR 1 10 1, lI k, lI r, lI a, lI b, lI c, none]) rfl (fun f => rfl)]
    exact b91_20 _ _ _ _ _ _ _ _ _
end OR
