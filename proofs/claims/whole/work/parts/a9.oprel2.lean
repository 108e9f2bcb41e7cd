/-! THE CALL relation, on -/
section ORL2
variable {h : dm_H} {π : Int → Int}
theorem op_relation {d : Nat} (hd : 4 ≤ d) (I : IN0 π h) (c k : Int) : ∃ x h1 v h2, dF d 67 [dR 1 10 1, dI c, dI k, dR 4 1 196] h = rI x h1 ∧ dF d 167 [dR 1 11 165, dI c, dI k] h1 = rI v h2 ∧ gi h2 165 0 = x ∧ (x = 0 → gl h2 0 = v) ∧ IN0 π h2 ∧ (frZ h h2 ∨ ∃ n, gi h 2 0 = n ∧ rlM n h h2) ∧ rm h h2 := by
  obtain ⟨n, en⟩ : ∃ n, gi h 2 0 = n := ⟨_, rfl⟩
  have n6 := I.1.1.1
  have nr := I.1.2.1
  rw [en] at n6 nr
  obtain ⟨a1, a2, a3⟩ := thr_all I 1
  obtain ⟨b1, b2, b3⟩ := thr_all I 2
  have wr : ∀ (x : dm_O), dF (d - 1) 68 [dR 1 10 1, dI c, dI k] h = x → (∀ v h', x = rI v h' → dF d 67 [dR 1 10 1, dI c, dI k, dR 4 1 196] h = rI 0 (sl h' 0 v)) ∧ (∀ h', x = rX 1 h' → dF d 67 [dR 1 10 1, dI c, dI k, dR 4 1 196] h = rI 1 h') ∧ ∀ h', x = rX 2 h' → dF d 67 [dR 1 10 1, dI c, dI k, dR 4 1 196] h = rI 2 h' := by
    intro x e
    rw [f67 (by omega), b67_0, e]
    refine ⟨fun v h' ex => ?_, fun h' ex => ?_, fun h' ex => ?_⟩
    · rw [ex, bk_v, b67_8, ix_p (by omega) (by omega)]
    · rw [ex, bk_c (g := 13) (j := 4) (n := 2) (L' := [lR 1 10 1, lI c, lI k, lR 4 1 196, none]) rfl (fun f => rfl)]
      exact b67_15 _ _ _ _ _ _ _
    · rw [ex, bk_c (g := 17) (j := 4) (n := 2) (L' := [lR 1 10 1, lI c, lI k, lR 4 1 196, none]) rfl (fun f => rfl)]
      exact b67_19 _ _ _ _ _ _ _
  obtain ⟨w1, w2, w3⟩ := wr _ rfl
  -- the reference
  have ref : ∀ (H : dm_H), dF d 167 [dR 1 11 165, dI c, dI k] H = if (1 ≤ c ∧ c ≤ 3) ∧ 0 ≤ k ∧ k ≤ 2 then (if gi H 165 1 = 6 then dL (d - 1) 167 37 [lR 1 11 165, lI c, lI k] [dI 2, dR 1 11 165] H else dL (d - 1) 167 37 [lR 1 11 165, lI c, lI k] [dI 0, dR 1 11 165] H) else dL (d - 1) 167 37 [lR 1 11 165, lI c, lI k] [dI 1, dR 1 11 165] H := by
    intro H
    rw [f167 (by omega), b167_0, s168 (by omega), bk_v, b167_7]
    by_cases z : 1 ≤ c ∧ c ≤ 3
    · rw [bi_1 z, if_neg (by decide), s168 (by omega), bk_v, b167_16]
      by_cases y : 0 ≤ k ∧ k ≤ 2
      · rw [bi_1 y, if_neg (by decide), if_pos (show (1 ≤ c ∧ c ≤ 3) ∧ 0 ≤ k ∧ k ≤ 2 from ⟨z, y⟩)]
      · rw [bi_0 y, if_pos rfl, b167_19, if_neg (fun w => y w.2)]
    · rw [bi_0 z, if_pos rfl, b167_19, if_neg (fun w => z w.1)]
  have c0 : dF (d - 1) 68 [dR 1 10 1, dI c, dI k] h = if (1 ≤ c ∧ c ≤ 3) ∧ 0 ≤ k ∧ k ≤ 2 then (if n < 6 then dm_back (dL (d - 1 - 1) 68) dm_t68 57 [lR 1 10 1, lI c, lI k] [] (dF (d - 1 - 1) 69 [dR 1 6 2, dI c, dI k] h) else rX 2 (sg h 6)) else rX 1 (sg h 6) := by
    rw [f68 (by omega), b68_0, en]
    by_cases z1 : c < 1
    · rw [if_pos z1, b68_19, if_neg (by omega)]
    rw [if_neg z1]
    by_cases z2 : 3 < c
    · rw [if_pos z2, b68_19, if_neg (by omega)]
    rw [if_neg z2]
    by_cases z3 : k < 0
    · rw [if_pos z3, b68_19, if_neg (by omega)]
    rw [if_neg z3]
    by_cases z4 : 2 < k
    · rw [if_pos z4, b68_19, if_neg (by omega)]
    rw [if_neg z4, if_pos (show (1 ≤ c ∧ c ≤ 3) ∧ 0 ≤ k ∧ k ≤ 2 by omega)]
  by_cases zc : (1 ≤ c ∧ c ≤ 3) ∧ 0 ≤ k ∧ k ≤ 2
  case neg =>
    rw [if_neg zc] at c0
    refine ⟨1, _, 0, _, w2 _ c0, ?_, thr0, fun q => by omega, a1, Or.inl a2, a3⟩
    rw [ref, if_neg zc, b167_37, thr0, if_pos (by decide)]
  rw [if_pos zc] at c0
  by_cases z6 : n < 6
  case neg =>
    rw [if_neg z6] at c0
    refine ⟨2, _, 0, _, w3 _ c0, ?_, thr0, fun q => by omega, b1, Or.inl b2, b3⟩
    have e6 : gi (sg h 6) 165 1 = 6 := by show gi h 165 1 = 6; omega
    rw [ref, if_pos zc, if_pos e6, b167_37, thr0, if_pos (by decide)]
  rw [if_pos z6, s69 (by omega) en ⟨n6.1, z6⟩ zc.1, bk_v, b68_60] at c0
  obtain ⟨U, eU⟩ : ∃ U, U = (if k = 0 then 1 else dm_unit (c - 1) * 100) := ⟨_, rfl⟩
  rw [← eU] at c0
  obtain ⟨h1, eh1⟩ : ∃ h1, h1 = si (si (si (si h 3 n c) 4 n k) 5 n U) 2 0 (n + 1) := ⟨_, rfl⟩
  rw [← eh1] at c0
  have g1 : ∀ a i, ¬ ((a = 3 ∨ a = 4 ∨ a = 5) ∧ i = n) → ¬ (a = 2 ∧ i = 0) → gi h1 a i = gi h a i := fun a i p q => by rw [eh1, gi_si, if_neg q, gi_si, if_neg (by omega), gi_si, if_neg (by omega), gi_si, if_neg (by omega)]
  obtain ⟨H0, eH0⟩ : ∃ H0, H0 = si (sl h1 0 n) 165 0 0 := ⟨_, rfl⟩
  have gH0 : ∀ a i, ¬ (a = 165 ∧ i = 0) → gi H0 a i = gi h1 a i := fun a i p => by rw [eH0]; exact gi_t a i p
  have h01 : gi H0 165 1 = n := by rw [gH0 _ _ (by omega), g1 _ _ (by omega) (by omega)]; exact nr
  obtain ⟨H, eH⟩ : ∃ H, H = si (si (si H0 166 n c) 167 n k) 165 1 (n + 1) := ⟨_, rfl⟩
  have r0 : dF d 167 [dR 1 11 165, dI c, dI k] (sl h1 0 n) = rI n H := by
    have e1 : gi (sl h1 0 n) 165 1 = n := by rw [gi_sl, g1 _ _ (by omega) (by omega)]; exact nr
    rw [ref, if_pos zc, if_neg (by omega), b167_37, thr0, if_neg (by decide), ← eH0, h01, ix_p n6.1 z6, gi_sin (by omega), h01, ix_p n6.1 z6, gi_sin (by omega), gi_sin (by omega), h01, ck_p (by omega) (by omega), gi_si, if_pos ⟨rfl, rfl⟩, ck_p (by omega) (by omega), show n + 1 - 1 = n by omega, ← eH]
  have gH : ∀ a i, ¬ ((a = 166 ∨ a = 167) ∧ i = n) → ¬ (a = 165 ∧ i = 1) → gi H a i = gi H0 a i := fun a i p q => by rw [eH, gi_si, if_neg q, gi_si, if_neg (by omega), gi_si, if_neg (by omega)]
  have m : rlM n h H := by
    refine ⟨fun a i p q r => by rw [gH a i (by omega) (by omega), gH0 a i (by omega), g1 a i (by omega) q], fun a i => by rw [eH, gr_si, gr_si, gr_si, eH0, gr_si, gr_sl, eh1]; rfl, ?_, by rw [eH, gi_si, if_pos ⟨rfl, rfl⟩]⟩
    rw [gH _ _ (by omega) (by omega), gH0 _ _ (by omega), eh1, gi_si, if_pos ⟨rfl, rfl⟩]
  have v3 : gi H 3 n = c := by rw [gH _ _ (by omega) (by omega), gH0 _ _ (by omega), eh1, gi_sin (by omega), gi_sin (by omega), gi_sin (by omega), gi_si, if_pos ⟨rfl, rfl⟩]
  have v4 : gi H 4 n = k := by rw [gH _ _ (by omega) (by omega), gH0 _ _ (by omega), eh1, gi_sin (by omega), gi_sin (by omega), gi_si, if_pos ⟨rfl, rfl⟩]
  have v5 : gi H 5 n = U := by rw [gH _ _ (by omega) (by omega), gH0 _ _ (by omega), eh1, gi_sin (by omega), gi_si, if_pos ⟨rfl, rfl⟩]
  have v6 : gi H 166 n = c := by rw [eH, gi_sin (by omega), gi_sin (by omega), gi_si, if_pos ⟨rfl, rfl⟩]
  have v7 : gi H 167 n = k := by rw [eH, gi_sin (by omega), gi_si, if_pos ⟨rfl, rfl⟩]
  have R := rel_IN0 en ⟨n6.1, z6⟩ m (by rw [v3]; exact zc.1) (by rw [v4]; exact zc.2) (by rw [v5, v4, v3, eU]) ⟨by rw [v6, v3], by rw [v7, v4]⟩ I
  have s2 : H.2.2 = (sl h1 0 n).2.2 := by rw [eH]; show H0.2.2 = _; rw [eH0]; rfl
  have s1 : h1.2.2 = h.2.2 := by rw [eh1]; rfl
  refine ⟨0, _, n, H, w1 _ _ c0, r0, ?_, fun _ => ?_, R, Or.inr ⟨n, en, m⟩, ⟨?_, ?_, ?_, ct_e (m.1 _ _ (by omega) (by omega) (by omega)) (m.1 _ _ (by omega) (by omega) (by omega))⟩⟩
  · rw [gH _ _ (by omega) (by omega), eH0, thr0]
  · show H.2.2.1 0 = n
    rw [s2]
    show gl (sl h1 0 n) 0 = n
    rw [gl_sl, if_pos rfl]
  · unfold gz; rw [s2]; show h1.2.2.2.1 = _; rw [s1]
  · unfold gc; rw [s2]; show h1.2.2.2.2.1 ≤ _; rw [s1]; exact Nat.le_succ _
  · unfold gs; rw [s2]; show h1.2.2.2.2.2 ≤ _; rw [s1]; exact Nat.le_add_right _ _
end ORL2
