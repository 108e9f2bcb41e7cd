/-! THE CALLS atom, compare, reckon -/
section OA
variable {h : dm_H}
/-- what was thrown is all that changes -/
theorem thr_dr (R : IRel h) (I : IDr h) (x : Int) : IDr (si (sg h 6) 165 0 x) ∧ frDr h (si (sg h 6) 165 0 x) ∧ rm h (si (sg h 6) 165 0 x) := by
  obtain ⟨I1, I2, I3, I4⟩ := I
  have hA : 15 ≤ gr h 1 10 ∧ gr h 1 10 + 7 < 137 := by unfold ru at I3; omega
  have g : ∀ a i, ¬ (a = 165 ∧ i = 0) → gi (si (sg h 6) 165 0 x) a i = gi h a i := fun a i hi => by rw [gi_si, if_neg hi]; rfl
  refine ⟨⟨by rw [g _ _ (by omega), g _ _ (by omega)]; exact I1, by rw [g _ _ (by omega)]; exact I2, I3, fun q => ?_⟩, ⟨fun a i _ _ _ h4 => g a i (fun w => h4 ⟨w.1, Or.inl w.2⟩), fun _ _ => rfl⟩, ⟨rfl, Nat.le_refl _, Nat.le_refl _, ct_e (g _ _ (by omega)) (g _ _ (by omega))⟩⟩
  rw [g _ _ (by omega)] at q
  obtain ⟨D, S, X⟩ := I4 q
  have eg : gr (si (sg h 6) 165 0 x) 1 10 = gr h 1 10 := rfl
  rw [eg, g _ _ (by omega)]
  exact ⟨DSH_cg (fun a i p1 p2 _ => g a i (by omega)) (g _ _ (by omega)) (fun i => g _ _ (by omega)) D, SR_cg (fun a i p1 p2 _ => g a i (by omega)) (fun i _ _ => g _ _ (by omega)) (fun i => g _ _ (by omega)) S D.2.1.2, RX_cg (fun i _ _ => g _ _ (by omega)) D.2.1.2 X⟩
/-- is there no room in the draft; alike on both sides -/
theorem full_iff (I : IDr h) : (gi h 165 16 = 0 ∨ gi h 172 385 = 4) ↔ (gi h 1 11 = 0 ∨ 4 ≤ gi h (gr h 1 10) 4) := by
  obtain ⟨I1, I2, I3, I4⟩ := I
  by_cases z : gi h 1 11 = 0
  · exact ⟨fun _ => Or.inl z, fun _ => Or.inl (by omega)⟩
  · obtain ⟨D, S, X⟩ := I4 (by omega)
    have e : gi h 172 385 = gi h (gr h 1 10) 4 := S.2.2.2.2.1
    have := D.2.1
    omega
theorem op_compare {d : Nat} (hd : 6 ≤ d) (R : IRel h) (I : IDr h) (k a b : Int) : ∃ x h1 v h2, dF d 98 [dR 1 10 1, dI k, dI a, dI b, dR 4 1 196] h = rI x h1 ∧ dF d 226 [dR 1 11 165, dI k, dI a, dI b] h1 = rI v h2 ∧ gi h2 165 0 = x ∧ (x = 0 → gl h2 0 = v) ∧ frDr h h2 ∧ IDr h2 ∧ rm h h2 := by
  have R' := R
  have I' := I
  obtain ⟨R1, R2, R3, R4⟩ := R
  have hA : 15 ≤ gr h 1 10 ∧ gr h 1 10 + 7 < 137 := by have := I.2.2.1; unfold ru at this; omega
  have e0 : ∀ (H : dm_H) x, gi (si H 165 0 x) 165 0 = x := fun H x => by rw [gi_si, if_pos ⟨rfl, rfl⟩]
  -- the reference, whatever the heap
  have ref : ∀ (H : dm_H), (gi H 165 16 = gi h 165 16 ∧ gi H 172 385 = gi h 172 385) → (¬ ((0 ≤ k ∧ k ≤ 3) ∧ (0 ≤ a ∧ a ≤ 107) ∧ 0 ≤ b ∧ b ≤ 107) → dF d 226 [dR 1 11 165, dI k, dI a, dI b] H = rI 0 (si H 165 0 1)) ∧ (((0 ≤ k ∧ k ≤ 3) ∧ (0 ≤ a ∧ a ≤ 107) ∧ 0 ≤ b ∧ b ≤ 107) → (gi h 165 16 = 0 ∨ gi h 172 385 = 4) → dF d 226 [dR 1 11 165, dI k, dI a, dI b] H = rI 0 (si H 165 0 2)) ∧ (((0 ≤ k ∧ k ≤ 3) ∧ (0 ≤ a ∧ a ≤ 107) ∧ 0 ≤ b ∧ b ≤ 107) → ¬ (gi h 165 16 = 0 ∨ gi h 172 385 = 4) → (0 ≤ gi h 172 385 ∧ gi h 172 385 < 4) → ∃ H', dF d 226 [dR 1 11 165, dI k, dI a, dI b] H = rI (gi h 172 385 + 1) H' ∧ APr 1 0 k a b 0 (si H 165 0 0) H') := by
    intro H ⟨hH1, hH2⟩
    have out : ∀ w, dL (d - 1) 226 24 [lR 1 11 165, lI k, lI a, lI b] [dR 1 11 165] H = w → w = rI 0 (si H 165 0 1) := by
      intro w hw
      rw [← hw, b226_24, b226_40, e0, if_pos (by decide), b226_64]
    have st : dF d 226 [dR 1 11 165, dI k, dI a, dI b] H = if (0 ≤ k ∧ k ≤ 3) ∧ (0 ≤ a ∧ a ≤ 107) ∧ 0 ≤ b ∧ b ≤ 107 then dL (d - 1) 226 32 [lR 1 11 165, lI k, lI a, lI b] [dI (bi (gi H 165 16 = 0 ∨ gi H 172 385 = 4)), dR 1 11 165] H else dL (d - 1) 226 24 [lR 1 11 165, lI k, lI a, lI b] [dR 1 11 165] H := by
      rw [f226 (by omega), b226_0, s168 (by omega), bk_v, b226_7]
      by_cases z1 : 0 ≤ k ∧ k ≤ 3
      case neg => rw [bi_0 z1, if_pos rfl, if_neg (fun w => z1 w.1)]
      rw [bi_1 z1, if_neg (by decide), s221 (by omega), bk_v, b226_14]
      by_cases z2 : 0 ≤ a ∧ a ≤ 107
      case neg => rw [bi_0 z2, if_pos rfl, if_neg (fun w => z2 w.2.1)]
      rw [bi_1 z2, if_neg (by decide), s221 (by omega), bk_v, b226_21]
      by_cases z3 : 0 ≤ b ∧ b ≤ 107
      case neg => rw [bi_0 z3, if_pos rfl, if_neg (fun w => z3 w.2.2)]
      rw [bi_1 z3, if_neg (by decide), s224 (by omega), bk_v, if_pos ⟨z1, z2, z3⟩]
    refine ⟨fun hn => ?_, fun hy hf => ?_, fun hy hf hN => ?_⟩
    · rw [st, if_neg hn]; exact out _ rfl
    · rw [st, if_pos hy, hH1, hH2, bi_1 hf, b226_32, if_neg (by decide), b226_40, e0, if_pos (by decide), b226_64]
    · rw [st, if_pos hy, hH1, hH2, bi_0 hf, b226_32, if_pos rfl, b226_40, e0, if_neg (by decide)]
      have e385 : gi (si H 165 0 0) 172 385 = gi h 172 385 := by rw [gi_sin (by omega), hH2]
      obtain ⟨H', x1, x2⟩ := s225 (h := si H 165 0 0) (d := d - 1) (by omega) (by rw [e385]; exact hN) 1 0 k a b 0
      rw [x1, bk_v, b226_64, e385]
      exact ⟨H', rfl, x2⟩
  -- the class
  have wr : ∀ (x : dm_O), dF (d - 1) 99 [dR 1 10 1, dI k, dI a, dI b] h = x → (∀ v h', x = rI v h' → dF d 98 [dR 1 10 1, dI k, dI a, dI b, dR 4 1 196] h = rI 0 (sl h' 0 v)) ∧ (∀ h', x = rX 1 h' → dF d 98 [dR 1 10 1, dI k, dI a, dI b, dR 4 1 196] h = rI 1 h') ∧ ∀ h', x = rX 2 h' → dF d 98 [dR 1 10 1, dI k, dI a, dI b, dR 4 1 196] h = rI 2 h' := by
    intro x e
    rw [f98 (by omega), b98_0, e]
    refine ⟨fun v h' ex => ?_, fun h' ex => ?_, fun h' ex => ?_⟩
    · rw [ex, bk_v, b98_10, ix_p (by omega) (by omega)]
    · rw [ex, bk_c (g := 15) (j := 5) (n := 2) (L' := [lR 1 10 1, lI k, lI a, lI b, lR 4 1 196, none]) rfl (fun f => rfl)]
      exact b98_17 _ _ _ _ _ _ _ _
    · rw [ex, bk_c (g := 19) (j := 5) (n := 2) (L' := [lR 1 10 1, lI k, lI a, lI b, lR 4 1 196, none]) rfl (fun f => rfl)]
      exact b98_21 _ _ _ _ _ _ _ _
  have W := wr _ rfl
  obtain ⟨t1, t2, t3⟩ := thr_dr R' I' 1
  obtain ⟨u1, u2, u3⟩ := thr_dr R' I' 2
  have fl := full_iff I'
  have bad : ¬ ((0 ≤ k ∧ k ≤ 3) ∧ (0 ≤ a ∧ a ≤ 107) ∧ 0 ≤ b ∧ b ≤ 107) → dF (d - 1) 99 [dR 1 10 1, dI k, dI a, dI b] h = rX 1 (sg h 6) → ∃ x h1 v h2, dF d 98 [dR 1 10 1, dI k, dI a, dI b, dR 4 1 196] h = rI x h1 ∧ dF d 226 [dR 1 11 165, dI k, dI a, dI b] h1 = rI v h2 ∧ gi h2 165 0 = x ∧ (x = 0 → gl h2 0 = v) ∧ frDr h h2 ∧ IDr h2 ∧ rm h h2 :=
    fun hn e => ⟨1, _, 0, _, W.2.1 _ e, (ref (sg h 6) ⟨rfl, rfl⟩).1 hn, e0 _ _, fun q => by omega, t2, t1, t3⟩
  have c0 : dF (d - 1) 99 [dR 1 10 1, dI k, dI a, dI b] h = if (0 ≤ k ∧ k ≤ 3) ∧ (0 ≤ a ∧ a ≤ 107) ∧ 0 ≤ b ∧ b ≤ 107 then dm_back (dL (d - 1 - 1) 99) dm_t99 33 [lR 1 10 1, lI k, lI a, lI b] [] (dF (d - 1 - 1) 96 [dR 1 10 1] h) else rX 1 (sg h 6) := by
    rw [f99 (by omega), b99_0]
    by_cases z1 : k < 0
    · rw [if_pos z1, b99_22, if_neg (by omega)]
    rw [if_neg z1]
    by_cases z2 : 3 < k
    · rw [if_pos z2, b99_22, if_neg (by omega)]
    rw [if_neg z2, s75 (by omega), bk_v, b99_19]
    by_cases z3 : wit 2 0 107 a b 0
    · rw [bi_1 z3, if_neg (by decide), if_pos (by obtain ⟨p, q, _⟩ := z3; omega)]
    · rw [bi_0 z3, if_pos rfl, b99_22, if_neg (fun w => z3 ⟨by omega, by omega, by omega⟩)]
  by_cases zc : (0 ≤ k ∧ k ≤ 3) ∧ (0 ≤ a ∧ a ≤ 107) ∧ 0 ≤ b ∧ b ≤ 107
  case neg => rw [if_neg zc] at c0; exact bad zc c0
  rw [if_pos zc, s96 (by omega)] at c0
  by_cases zf : gi h 1 11 = 0 ∨ 4 ≤ gi h (gr h 1 10) 4
  · rw [if_pos zf, bk_x rfl] at c0
    exact ⟨2, _, 0, _, W.2.2 _ c0, (ref (sg h 6) ⟨rfl, rfl⟩).2.1 zc (fl.mpr zf), e0 _ _, fun q => by omega, u2, u1, u3⟩
  rw [if_neg zf, bk_n, b99_36] at c0
  have hD : gi h 1 11 = 1 := by have := I'.2.1; omega
  obtain ⟨D, S, X⟩ := I'.2.2.2 hD
  have hN := D.2.1
  have h5 := atc_r (cR h (gr h 1 10)) (gi h (gr h 1 10) 4).toNat
  obtain ⟨h1, y1, y2⟩ := s97 (h := h) (A := gr h 1 10) (d := d - 1 - 1) (by omega) (by omega) (by have := D.2.2.2.2.2.2.2.2.1; omega) 2 k 2 a b 0
  rw [y1, bk_n, b99_49, y2.1.2.1, y2.2.2.1] at c0
  have e385 : gi h 172 385 = gi h (gr h 1 10) 4 := S.2.2.2.2.1
  have g1 : ∀ a i, 137 ≤ a → gi (sl h1 0 (gi h (gr h 1 10) 4 + 1)) a i = gi h a i := fun a i ha => y2.1.1 a i (by omega)
  obtain ⟨h2, z1, z2⟩ := (ref (sl h1 0 (gi h (gr h 1 10) 4 + 1)) ⟨g1 _ _ (by omega), g1 _ _ (by omega)⟩).2.2 zc (fun w => zf (fl.mp w)) (by omega)
  have M := draft_more R' I' hD (by omega) y2 (h2 := si (sl h1 0 (gi h (gr h 1 10) 4 + 1)) 165 0 0) (fun a i hai => by rw [gi_si, if_neg hai]; rfl) (fun a i => rfl) z2 (Or.inr (Or.inl ⟨rfl, zc.1, rfl, zc.2.1, zc.2.2, rfl, rfl, rfl, rfl⟩)) (fun q => by omega)
  have h22 : h2.2.2 = (sl h1 0 (gi h (gr h 1 10) 4 + 1)).2.2 := z2.2.2.1
  have h12 : h1.2.2 = h.2.2 := y2.1.2.2
  refine ⟨0, _, _, h2, W.1 _ _ c0, z1, ?_, fun _ => ?_, M.2, M.1, ⟨?_, ?_, ?_, ct_e (M.2.1 _ _ (by omega) (by omega) (by omega) (by omega)) (M.2.1 _ _ (by omega) (by omega) (by omega) (by omega))⟩⟩
  · rw [z2.1 _ _ (by omega), e0]
  · show h2.2.2.1 0 = _
    rw [h22, e385]
    show gl (sl h1 0 (gi h (gr h 1 10) 4 + 1)) 0 = _
    rw [gl_sl, if_pos rfl]
  · unfold gz; rw [h22]; show h1.2.2.2.1 = _; rw [h12]
  · unfold gc; rw [h22]; show h1.2.2.2.2.1 ≤ _; rw [h12]; omega
  · unfold gs; rw [h22]; show h1.2.2.2.2.2 ≤ _; rw [h12]; omega
theorem op_reckon {d : Nat} (hd : 6 ≤ d) (R : IRel h) (I : IDr h) (v0 k a b : Int) : ∃ x h1 v h2, dF d 100 [dR 1 10 1, dI v0, dI k, dI a, dI b, dR 4 1 196] h = rI x h1 ∧ dF d 227 [dR 1 11 165, dI v0, dI k, dI a, dI b] h1 = rI v h2 ∧ gi h2 165 0 = x ∧ (x = 0 → gl h2 0 = v) ∧ frDr h h2 ∧ IDr h2 ∧ rm h h2 := by
  have R' := R
  have I' := I
  obtain ⟨R1, R2, R3, R4⟩ := R
  have hA : 15 ≤ gr h 1 10 ∧ gr h 1 10 + 7 < 137 := by have := I.2.2.1; unfold ru at this; omega
  have e0 : ∀ (H : dm_H) x, gi (si H 165 0 x) 165 0 = x := fun H x => by rw [gi_si, if_pos ⟨rfl, rfl⟩]
  -- the reference, whatever the heap
  have ref : ∀ (H : dm_H), (gi H 165 16 = gi h 165 16 ∧ gi H 172 385 = gi h 172 385) → (¬ ((100 ≤ v0 ∧ v0 ≤ 107) ∧ (0 ≤ k ∧ k ≤ 5) ∧ (0 ≤ a ∧ a ≤ 107) ∧ 0 ≤ b ∧ b ≤ 107) → dF d 227 [dR 1 11 165, dI v0, dI k, dI a, dI b] H = rI 0 (si H 165 0 1)) ∧ (((100 ≤ v0 ∧ v0 ≤ 107) ∧ (0 ≤ k ∧ k ≤ 5) ∧ (0 ≤ a ∧ a ≤ 107) ∧ 0 ≤ b ∧ b ≤ 107) → (gi h 165 16 = 0 ∨ gi h 172 385 = 4) → dF d 227 [dR 1 11 165, dI v0, dI k, dI a, dI b] H = rI 0 (si H 165 0 2)) ∧ (((100 ≤ v0 ∧ v0 ≤ 107) ∧ (0 ≤ k ∧ k ≤ 5) ∧ (0 ≤ a ∧ a ≤ 107) ∧ 0 ≤ b ∧ b ≤ 107) → ¬ (gi h 165 16 = 0 ∨ gi h 172 385 = 4) → (0 ≤ gi h 172 385 ∧ gi h 172 385 < 4) → ∃ H', dF d 227 [dR 1 11 165, dI v0, dI k, dI a, dI b] H = rI (gi h 172 385 + 1) H' ∧ APr 2 v0 k a b 0 (si H 165 0 0) H') := by
    intro H ⟨hH1, hH2⟩
    have out : ∀ w, dL (d - 1) 227 36 [lR 1 11 165, lI v0, lI k, lI a, lI b] [dR 1 11 165] H = w → w = rI 0 (si H 165 0 1) := by
      intro w hw
      rw [← hw, b227_36, b227_52, e0, if_pos (by decide), b227_77]
    have st : dF d 227 [dR 1 11 165, dI v0, dI k, dI a, dI b] H = if (100 ≤ v0 ∧ v0 ≤ 107) ∧ (0 ≤ k ∧ k ≤ 5) ∧ (0 ≤ a ∧ a ≤ 107) ∧ 0 ≤ b ∧ b ≤ 107 then dL (d - 1) 227 44 [lR 1 11 165, lI v0, lI k, lI a, lI b] [dI (bi (gi H 165 16 = 0 ∨ gi H 172 385 = 4)), dR 1 11 165] H else dL (d - 1) 227 36 [lR 1 11 165, lI v0, lI k, lI a, lI b] [dR 1 11 165] H := by
      rw [f227 (by omega), b227_0, s168 (by omega), bk_v, b227_9]
      by_cases z0 : 100 ≤ v0 ∧ v0 ≤ 107
      case neg => rw [bi_0 z0, if_pos rfl, if_neg (fun w => z0 w.1)]
      rw [bi_1 z0, if_neg (by decide), s168 (by omega), bk_v, b227_18]
      by_cases z1 : 0 ≤ k ∧ k ≤ 5
      case neg => rw [bi_0 z1, if_pos rfl, if_neg (fun w => z1 w.2.1)]
      rw [bi_1 z1, if_neg (by decide), s221 (by omega), bk_v, b227_25]
      by_cases z2 : 0 ≤ a ∧ a ≤ 107
      case neg => rw [bi_0 z2, if_pos rfl, if_neg (fun w => z2 w.2.2.1)]
      rw [bi_1 z2, if_neg (by decide), s221 (by omega), bk_v, b227_33]
      by_cases z3 : 0 ≤ b ∧ b ≤ 107
      case neg => rw [bi_0 z3, if_pos rfl, if_neg (fun w => z3 w.2.2.2)]
      rw [bi_1 z3, if_neg (by decide), s224 (by omega), bk_v, if_pos ⟨z0, z1, z2, z3⟩]
    refine ⟨fun hn => ?_, fun hy hf => ?_, fun hy hf hN => ?_⟩
    · rw [st, if_neg hn]; exact out _ rfl
    · rw [st, if_pos hy, hH1, hH2, bi_1 hf, b227_44, if_neg (by decide), b227_52, e0, if_pos (by decide), b227_77]
    · rw [st, if_pos hy, hH1, hH2, bi_0 hf, b227_44, if_pos rfl, b227_52, e0, if_neg (by decide)]
      have e385 : gi (si H 165 0 0) 172 385 = gi h 172 385 := by rw [gi_sin (by omega), hH2]
      obtain ⟨H', x1, x2⟩ := s225 (h := si H 165 0 0) (d := d - 1) (by omega) (by rw [e385]; exact hN) 2 v0 k a b 0
      rw [x1, bk_v, b227_77, e385]
      exact ⟨H', rfl, x2⟩
  -- the class
  have wr : ∀ (x : dm_O), dF (d - 1) 101 [dR 1 10 1, dI v0, dI k, dI a, dI b] h = x → (∀ v h', x = rI v h' → dF d 100 [dR 1 10 1, dI v0, dI k, dI a, dI b, dR 4 1 196] h = rI 0 (sl h' 0 v)) ∧ (∀ h', x = rX 1 h' → dF d 100 [dR 1 10 1, dI v0, dI k, dI a, dI b, dR 4 1 196] h = rI 1 h') ∧ ∀ h', x = rX 2 h' → dF d 100 [dR 1 10 1, dI v0, dI k, dI a, dI b, dR 4 1 196] h = rI 2 h' := by
    intro x e
    rw [f100 (by omega), b100_0, e]
    refine ⟨fun v h' ex => ?_, fun h' ex => ?_, fun h' ex => ?_⟩
    · rw [ex, bk_v, b100_12, ix_p (by omega) (by omega)]
    · rw [ex, bk_c (g := 17) (j := 6) (n := 2) (L' := [lR 1 10 1, lI v0, lI k, lI a, lI b, lR 4 1 196, none]) rfl (fun f => rfl)]
      exact b100_19 _ _ _ _ _ _ _ _ _
    · rw [ex, bk_c (g := 21) (j := 6) (n := 2) (L' := [lR 1 10 1, lI v0, lI k, lI a, lI b, lR 4 1 196, none]) rfl (fun f => rfl)]
      exact b100_23 _ _ _ _ _ _ _ _ _
  have W := wr _ rfl
  obtain ⟨t1, t2, t3⟩ := thr_dr R' I' 1
  obtain ⟨u1, u2, u3⟩ := thr_dr R' I' 2
  have fl := full_iff I'
  have bad : ¬ ((100 ≤ v0 ∧ v0 ≤ 107) ∧ (0 ≤ k ∧ k ≤ 5) ∧ (0 ≤ a ∧ a ≤ 107) ∧ 0 ≤ b ∧ b ≤ 107) → dF (d - 1) 101 [dR 1 10 1, dI v0, dI k, dI a, dI b] h = rX 1 (sg h 6) → ∃ x h1 v h2, dF d 100 [dR 1 10 1, dI v0, dI k, dI a, dI b, dR 4 1 196] h = rI x h1 ∧ dF d 227 [dR 1 11 165, dI v0, dI k, dI a, dI b] h1 = rI v h2 ∧ gi h2 165 0 = x ∧ (x = 0 → gl h2 0 = v) ∧ frDr h h2 ∧ IDr h2 ∧ rm h h2 :=
    fun hn e => ⟨1, _, 0, _, W.2.1 _ e, (ref (sg h 6) ⟨rfl, rfl⟩).1 hn, e0 _ _, fun q => by omega, t2, t1, t3⟩
  have c0 : dF (d - 1) 101 [dR 1 10 1, dI v0, dI k, dI a, dI b] h = if (100 ≤ v0 ∧ v0 ≤ 107) ∧ (0 ≤ k ∧ k ≤ 5) ∧ (0 ≤ a ∧ a ≤ 107) ∧ 0 ≤ b ∧ b ≤ 107 then dm_back (dL (d - 1 - 1) 101) dm_t101 42 [lR 1 10 1, lI v0, lI k, lI a, lI b] [] (dF (d - 1 - 1) 96 [dR 1 10 1] h) else rX 1 (sg h 6) := by
    rw [f101 (by omega), b101_0, s46 (by omega), bk_v, b101_4]
    by_cases z0 : slot v0 = -1
    · rw [if_pos z0, b101_31, if_neg (fun w => by have := slot_v w.1; omega)]
    have z00 : 100 ≤ v0 ∧ v0 ≤ 107 := by
      by_cases y : 100 ≤ v0 ∧ v0 ≤ 107
      · exact y
      · refine absurd ?_ z0
        unfold slot
        by_cases w : v0 < 100
        · rw [if_pos w]
        · rw [if_neg w, if_pos (by omega)]
    rw [if_neg z0]
    by_cases z1 : k < 0
    · rw [if_pos z1, b101_31, if_neg (by omega)]
    rw [if_neg z1]
    by_cases z2 : 5 < k
    · rw [if_pos z2, b101_31, if_neg (by omega)]
    rw [if_neg z2, s75 (by omega), bk_v, b101_28]
    by_cases z3 : wit 2 0 107 a b 0
    · rw [bi_1 z3, if_neg (by decide), if_pos (by obtain ⟨p, q, _⟩ := z3; omega)]
    · rw [bi_0 z3, if_pos rfl, b101_31, if_neg (fun w => z3 ⟨by omega, by omega, by omega⟩)]
  by_cases zc : (100 ≤ v0 ∧ v0 ≤ 107) ∧ (0 ≤ k ∧ k ≤ 5) ∧ (0 ≤ a ∧ a ≤ 107) ∧ 0 ≤ b ∧ b ≤ 107
  case neg => rw [if_neg zc] at c0; exact bad zc c0
  rw [if_pos zc, s96 (by omega)] at c0
  by_cases zf : gi h 1 11 = 0 ∨ 4 ≤ gi h (gr h 1 10) 4
  · rw [if_pos zf, bk_x rfl] at c0
    exact ⟨2, _, 0, _, W.2.2 _ c0, (ref (sg h 6) ⟨rfl, rfl⟩).2.1 zc (fl.mpr zf), e0 _ _, fun q => by omega, u2, u1, u3⟩
  rw [if_neg zf, bk_n, b101_45] at c0
  have hD : gi h 1 11 = 1 := by have := I'.2.1; omega
  obtain ⟨D, S, X⟩ := I'.2.2.2 hD
  have hN := D.2.1
  have h5 := atc_r (cR h (gr h 1 10)) (gi h (gr h 1 10) 4).toNat
  obtain ⟨h1, y1, y2⟩ := s97 (h := h) (A := gr h 1 10) (d := d - 1 - 1) (by omega) (by omega) (by have := D.2.2.2.2.2.2.2.2.1; omega) 3 k 2 a b v0
  rw [y1, bk_n, b101_59, y2.1.2.1, y2.2.2.1] at c0
  have e385 : gi h 172 385 = gi h (gr h 1 10) 4 := S.2.2.2.2.1
  have g1 : ∀ a i, 137 ≤ a → gi (sl h1 0 (gi h (gr h 1 10) 4 + 1)) a i = gi h a i := fun a i ha => y2.1.1 a i (by omega)
  obtain ⟨h2, z1, z2⟩ := (ref (sl h1 0 (gi h (gr h 1 10) 4 + 1)) ⟨g1 _ _ (by omega), g1 _ _ (by omega)⟩).2.2 zc (fun w => zf (fl.mp w)) (by omega)
  have M := draft_more R' I' hD (by omega) y2 (h2 := si (sl h1 0 (gi h (gr h 1 10) 4 + 1)) 165 0 0) (fun a i hai => by rw [gi_si, if_neg hai]; rfl) (fun a i => rfl) z2 (Or.inr (Or.inr ⟨rfl, zc.2.1, rfl, zc.2.2.1, zc.2.2.2, zc.1, rfl, rfl, rfl, rfl⟩)) (fun q => by omega)
  have h22 : h2.2.2 = (sl h1 0 (gi h (gr h 1 10) 4 + 1)).2.2 := z2.2.2.1
  have h12 : h1.2.2 = h.2.2 := y2.1.2.2
  refine ⟨0, _, _, h2, W.1 _ _ c0, z1, ?_, fun _ => ?_, M.2, M.1, ⟨?_, ?_, ?_, ct_e (M.2.1 _ _ (by omega) (by omega) (by omega) (by omega)) (M.2.1 _ _ (by omega) (by omega) (by omega) (by omega))⟩⟩
  · rw [z2.1 _ _ (by omega), e0]
  · show h2.2.2.1 0 = _
    rw [h22, e385]
    show gl (sl h1 0 (gi h (gr h 1 10) 4 + 1)) 0 = _
    rw [gl_sl, if_pos rfl]
  · unfold gz; rw [h22]; show h1.2.2.2.1 = _; rw [h12]
  · unfold gc; rw [h22]; show h1.2.2.2.2.1 ≤ _; rw [h12]; omega
  · unfold gs; rw [h22]; show h1.2.2.2.2.2 ≤ _; rw [h12]; omega
end OA
