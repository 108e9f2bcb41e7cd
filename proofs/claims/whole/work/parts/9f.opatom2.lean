/-! THE CALL atom -/
section OA2
variable {h : dm_H}
/-- the reference counts the atoms of the draft -/
theorem s223c {d : Nat} {H : dm_H} (h16 : gi H 165 16 = 1) {ρ : mR} {N : Int} (hN : 0 ≤ N ∧ N ≤ 4) (h385 : gi H 172 385 = N) (hat : ∀ k, 0 ≤ k → k < N → (lq H 10 k 0 = 0 ↔ ρ.1 k = 0 ∨ ρ.1 k = 1)) (hd : 3 ≤ d) (x1 x2 x3 x4 x5 : Int) : ∀ (m : Nat) (k : Int), 0 ≤ k → k + m = N → ∃ w7, dL (d - 1) 223 6 [lR 1 11 165, lI x1, lI x2, lI x3, lI x4, lI x5, lI (atc ρ k.toNat), lI k] [] H = dL (d - 1) 223 52 [lR 1 11 165, lI x1, lI x2, lI x3, lI x4, lI x5, lI (atc ρ N.toNat), w7] [] H := by
  intro m
  have e0 : dF (d - 1) 179 [dR 1 11 165, dI 10, dI 5] H = rI N H := by rw [s179 (by omega) 10 5 H (by omega) (by omega), ← h385]; rfl
  induction m with
  | zero =>
    intro k k0 km
    rw [show k = N by omega, b223_6, if_neg (by omega), e0, bk_v, b223_22, if_neg (by omega)]
    exact ⟨_, rfl⟩
  | succ m ih =>
    intro k k0 km
    have hr := atc_r ρ k.toNat
    have ha := hat k k0 (by omega)
    have es : atc ρ (k + 1).toNat = atc ρ k.toNat + (if ρ.1 k = 0 ∨ ρ.1 k = 1 then 1 else 0) := by
      rw [show (k + 1).toNat = k.toNat + 1 by omega]
      show atc ρ k.toNat + (if ρ.1 (k.toNat : Int) = 0 ∨ ρ.1 (k.toNat : Int) = 1 then 1 else 0) = _
      rw [show (k.toNat : Int) = k by omega]
    rw [b223_6, if_neg (by omega), e0, bk_v, b223_22, if_pos (by omega), s180 (by omega) 10 k H (by omega) (by omega), bk_v, b223_35]
    by_cases z : lq H 10 k 0 = 0
    · rw [bi_1 z, if_neg (by decide), b223_43, ck_p (by omega) (by omega), ck_p (by omega) (by omega)]
      rw [if_pos (ha.mp z)] at es
      rw [← es]
      exact ih (k + 1) (by omega) (by omega)
    · rw [bi_0 z, if_pos rfl, b223_43, ck_p (by omega) (by omega), ck_p (by omega) (by omega)]
      rw [if_neg (fun w => z (ha.mpr w))] at es
      rw [← es]
      exact ih (k + 1) (by omega) (by omega)
theorem op_atom {d : Nat} (hd : 6 ≤ d) (R : IRel h) (I : IDr h) (r ng a b c : Int) : ∃ x h1 v h2, dF d 94 [dR 1 10 1, dI r, dI ng, dI a, dI b, dI c, dR 4 1 196] h = rI x h1 ∧ dF d 223 [dR 1 11 165, dI r, dI ng, dI a, dI b, dI c] h1 = rI v h2 ∧ gi h2 165 0 = x ∧ (x = 0 → gl h2 0 = v) ∧ frDr h h2 ∧ IDr h2 ∧ rm h h2 := by
  have R' := R
  have I' := I
  obtain ⟨R1, R2, R3, R4⟩ := R
  have hA : 15 ≤ gr h 1 10 ∧ gr h 1 10 + 7 < 137 := by have := I.2.2.1; unfold ru at this; omega
  have h6 := R1.1
  have e0 : ∀ (H : dm_H) x, gi (si H 165 0 x) 165 0 = x := fun H x => by rw [gi_si, if_pos ⟨rfl, rfl⟩]
  obtain ⟨t1, t2, t3⟩ := thr_dr R' I' 1
  obtain ⟨u1, u2, u3⟩ := thr_dr R' I' 2
  obtain ⟨v1, v2, v3⟩ := thr_dr R' I' 3
  have fl := full_iff I'
  -- the reference, whatever the heap
  have ref : ∀ (H : dm_H), (∀ a i, 137 ≤ a → gi H a i = gi h a i) → ∃ n : Int, (gi h 1 11 = 1 → n = gi h (gr h 1 10) 5) ∧
      (¬ (0 ≤ r ∧ r < gi h 2 0) → dF d 223 [dR 1 11 165, dI r, dI ng, dI a, dI b, dI c] H = rI 0 (si H 165 0 1)) ∧
      ((0 ≤ r ∧ r < gi h 2 0) → ¬ wit (gi h 3 r) (-1) 107 a b c → dF d 223 [dR 1 11 165, dI r, dI ng, dI a, dI b, dI c] H = rI 0 (si H 165 0 2)) ∧
      ((0 ≤ r ∧ r < gi h 2 0) → wit (gi h 3 r) (-1) 107 a b c → ((gi h 165 16 = 0 ∨ gi h 172 385 = 4) ∨ n = 3) → dF d 223 [dR 1 11 165, dI r, dI ng, dI a, dI b, dI c] H = rI 0 (si H 165 0 3)) ∧
      ((0 ≤ r ∧ r < gi h 2 0) → wit (gi h 3 r) (-1) 107 a b c → ¬ (gi h 165 16 = 0 ∨ gi h 172 385 = 4) → n ≠ 3 → (0 ≤ gi h 172 385 ∧ gi h 172 385 < 4) → ∃ H', dF d 223 [dR 1 11 165, dI r, dI ng, dI a, dI b, dI c] H = rI (gi h 172 385 + 1) H' ∧ APr 0 r (if ng = 0 then 0 else 1) a b c (si H 165 0 0) H') := by
    intro H hH
    have cnt : ∃ (n : Int) (w7 : Option dm_V), (gi h 1 11 = 1 → n = gi h (gr h 1 10) 5) ∧ dF d 223 [dR 1 11 165, dI r, dI ng, dI a, dI b, dI c] H = dL (d - 1) 223 52 [lR 1 11 165, lI r, lI ng, lI a, lI b, lI c, lI n, w7] [] H := by
      rw [f223 (by omega), b223_0]
      obtain ⟨I1, I2, I3, I4⟩ := I'
      by_cases z : gi h 165 16 = 0
      · rw [b223_6, hH _ _ (by omega), if_pos z]
        exact ⟨0, _, fun w => by omega, rfl⟩
      · have hD : gi h 1 11 = 1 := by omega
        obtain ⟨D, S, X⟩ := I4 hD
        have e385 : gi h 172 385 = gi h (gr h 1 10) 4 := S.2.2.2.2.1
        obtain ⟨w7, q⟩ := s223c (d := d) (H := H) (ρ := cR h (gr h 1 10)) (by rw [hH _ _ (by omega)]; omega) D.2.1 (by rw [hH _ _ (by omega)]; exact e385) (fun k k0 k1 => by
          have q1 := (S.2.2.2.2.2.1 k k0 k1).1
          have q2 := S.2.2.2.2.2.2 k k0 k1
          have q1 : rsrt h 10 k = (cR h (gr h 1 10)).1 k := q1
          have el : lq H 10 k 0 = lq h 10 k 0 := hH _ _ (by omega)
          rw [el, ← q1]
          unfold rsrt
          by_cases y : lq h 10 k 0 = 0
          · rw [if_pos y]
            split <;> omega
          · rw [if_neg y]
            split <;> omega) (by omega) r ng a b c (gi h (gr h 1 10) 4).toNat 0 (by omega) (by have := D.2.1; omega)
        refine ⟨atc (cR h (gr h 1 10)) (gi h (gr h 1 10) 4).toNat, w7, fun _ => D.2.2.2.2.2.2.2.2.1.1.symm, ?_⟩
        exact q
    obtain ⟨n, w7, n1, n2⟩ := cnt
    refine ⟨n, n1, ?_⟩
    have st : dF d 223 [dR 1 11 165, dI r, dI ng, dI a, dI b, dI c] H = if 0 ≤ r ∧ r < gi h 2 0 then (if wit (gi h 3 r) (-1) 107 a b c then dL (d - 1) 223 87 [lR 1 11 165, lI r, lI ng, lI a, lI b, lI c, lI n, w7] [dI (bi (gi h 165 16 = 0 ∨ gi h 172 385 = 4)), dR 1 11 165] H else rI 0 (si H 165 0 2)) else rI 0 (si H 165 0 1) := by
      have e1 : gi H 165 1 = gi h 2 0 := by rw [hH _ _ (by omega)]; exact R2
      have e2 : gi H 166 r = gi h 3 r := by rw [hH _ _ (by omega)]; exact (R3 r).1
      rw [n2, b223_52, s170 (by omega) r H (by rw [e1]; exact h6), e1, bk_v, b223_58]
      by_cases z1 : 0 ≤ r ∧ r < gi h 2 0
      case neg => rw [bi_0 z1, if_pos rfl, if_neg z1, b223_101, e0, if_pos (by decide), b223_135]
      have hc := (cK_c R1 z1.1 z1.2).2.1
      rw [bi_1 z1, if_neg (by decide), if_pos z1, s220_1 (by omega) r a b c H (by omega) (by rw [e2]; exact hc), e2, bk_v, b223_76]
      by_cases z2 : wit (gi h 3 r) (-1) 107 a b c
      case neg => rw [bi_0 z2, if_pos rfl, if_neg z2, b223_101, e0, if_pos (by decide), b223_135]
      rw [bi_1 z2, if_neg (by decide), if_pos z2, s224 (by omega), bk_v, hH _ _ (by omega), hH _ _ (by omega)]
    refine ⟨fun hn => by rw [st, if_neg hn], fun hy hn => by rw [st, if_pos hy, if_neg hn], fun hy hw hf => ?_, fun hy hw hf h3 hN => ?_⟩
    · rw [st, if_pos hy, if_pos hw, b223_87]
      by_cases z : gi h 165 16 = 0 ∨ gi h 172 385 = 4
      · rw [bi_1 z, if_neg (by decide), b223_96, b223_101, e0, if_pos (by decide), b223_135]
      · rw [bi_0 z, if_pos rfl, if_pos (hf.resolve_left z), b223_96, b223_101, e0, if_pos (by decide), b223_135]
    · have e385 : gi (si H 165 0 0) 172 385 = gi h 172 385 := by rw [gi_sin (by omega), hH _ _ (by omega)]
      obtain ⟨H', x1, x2⟩ := s225 (h := si H 165 0 0) (d := d - 1) (by omega) (by rw [e385]; exact hN) 0 r (if ng = 0 then 0 else 1) a b c
      rw [st, if_pos hy, if_pos hw, b223_87, bi_0 hf, if_pos rfl, if_neg h3, b223_101, e0, if_neg (by decide)]
      refine ⟨H', ?_, x2⟩
      by_cases z : ng = 0
      · rw [if_pos z] at x1
        rw [if_pos z, b223_127, x1, bk_v, b223_135, e385]
      · rw [if_neg z] at x1
        rw [if_neg z, b223_127, x1, bk_v, b223_135, e385]
  -- the class
  have wr : ∀ (x : dm_O), dF (d - 1) 95 [dR 1 10 1, dI r, dI ng, dI a, dI b, dI c] h = x → (∀ v h', x = rI v h' → dF d 94 [dR 1 10 1, dI r, dI ng, dI a, dI b, dI c, dR 4 1 196] h = rI 0 (sl h' 0 v)) ∧ (∀ h', x = rX 0 h' → dF d 94 [dR 1 10 1, dI r, dI ng, dI a, dI b, dI c, dR 4 1 196] h = rI 1 h') ∧ (∀ h', x = rX 1 h' → dF d 94 [dR 1 10 1, dI r, dI ng, dI a, dI b, dI c, dR 4 1 196] h = rI 2 h') ∧ ∀ h', x = rX 2 h' → dF d 94 [dR 1 10 1, dI r, dI ng, dI a, dI b, dI c, dR 4 1 196] h = rI 3 h' := by
    intro x e
    rw [f94 (by omega), b94_0, e]
    refine ⟨fun v h' ex => ?_, fun h' ex => ?_, fun h' ex => ?_, fun h' ex => ?_⟩
    · rw [ex, bk_v, b94_14, ix_p (by omega) (by omega)]
    · rw [ex, bk_c (g := 19) (j := 7) (n := 2) (L' := [lR 1 10 1, lI r, lI ng, lI a, lI b, lI c, lR 4 1 196, none]) rfl (fun f => rfl)]
      exact b94_21 _ _ _ _ _ _ _ _ _ _
    · rw [ex, bk_c (g := 23) (j := 7) (n := 2) (L' := [lR 1 10 1, lI r, lI ng, lI a, lI b, lI c, lR 4 1 196, none]) rfl (fun f => rfl)]
      exact b94_25 _ _ _ _ _ _ _ _ _ _
    · rw [ex, bk_c (g := 27) (j := 7) (n := 2) (L' := [lR 1 10 1, lI r, lI ng, lI a, lI b, lI c, lR 4 1 196, none]) rfl (fun f => rfl)]
      exact b94_29 _ _ _ _ _ _ _ _ _ _
  obtain ⟨W1, W2, W3, W4⟩ := wr _ rfl
  obtain ⟨n, n0, n1, n2, n3, n4⟩ := ref (sg h 6) (fun a i _ => rfl)
  have c0 : dF (d - 1) 95 [dR 1 10 1, dI r, dI ng, dI a, dI b, dI c] h = if 0 ≤ r ∧ r < gi h 2 0 then (if wit (gi h 3 r) (-1) 107 a b c then dm_back (dL (d - 1 - 1) 95) dm_t95 43 [lR 1 10 1, lI r, lI ng, lI a, lI b, lI c, lI (gi h 3 r)] [] (dF (d - 1 - 1) 96 [dR 1 10 1] h) else rX 1 (sg h 6)) else rX 0 (sg h 6) := by
    rw [f95 (by omega), b95_0, s73 (by omega)]
    by_cases z1 : 0 ≤ r ∧ r < gi h 2 0
    case neg => rw [if_neg z1, if_neg z1, bk_x rfl]
    rw [if_pos z1, if_pos z1, bk_n, b95_5, ix_p (by omega) (by omega), s75 (by omega), bk_v, b95_29]
    by_cases z2 : wit (gi h 3 r) (-1) 107 a b c
    · rw [bi_1 z2, if_neg (by decide), if_pos z2]
    · rw [bi_0 z2, if_pos rfl, if_neg z2]
  by_cases zr : 0 ≤ r ∧ r < gi h 2 0
  case neg =>
    rw [if_neg zr] at c0
    exact ⟨1, _, 0, _, W2 _ c0, n1 zr, e0 _ _, fun q => by omega, t2, t1, t3⟩
  rw [if_pos zr] at c0
  by_cases zw : wit (gi h 3 r) (-1) 107 a b c
  case neg =>
    rw [if_neg zw] at c0
    exact ⟨2, _, 0, _, W3 _ c0, n2 zr zw, e0 _ _, fun q => by omega, u2, u1, u3⟩
  rw [if_pos zw, s96 (by omega)] at c0
  by_cases zf : gi h 1 11 = 0 ∨ 4 ≤ gi h (gr h 1 10) 4
  · rw [if_pos zf, bk_x rfl] at c0
    exact ⟨3, _, 0, _, W4 _ c0, n3 zr zw (Or.inl (fl.mpr zf)), e0 _ _, fun q => by omega, v2, v1, v3⟩
  have hD : gi h 1 11 = 1 := by have := I'.2.1; omega
  obtain ⟨D, S, X⟩ := I'.2.2.2 hD
  have hN := D.2.1
  have D9 := D.2.2.2.2.2.2.2.2.1
  have h5 := atc_r (cR h (gr h 1 10)) (gi h (gr h 1 10) 4).toNat
  rw [if_neg zf, bk_n, b95_46] at c0
  by_cases z5 : gi h (gr h 1 10) 5 < 3
  case neg =>
    rw [if_neg z5] at c0
    exact ⟨3, _, 0, _, W4 _ c0, n3 zr zw (Or.inr (by have := n0 hD; omega)), e0 _ _, fun q => by omega, v2, v1, v3⟩
  have hcl := cK_c R1 zr.1 zr.2
  obtain ⟨h1, y1, y2⟩ := s97 (h := h) (A := gr h 1 10) (d := d - 1 - 1) (by omega) (by omega) (by omega) (if ng = 0 then 0 else 1) r (gi h 3 r) a b c
  have c1 : dF (d - 1) 95 [dR 1 10 1, dI r, dI ng, dI a, dI b, dI c] h = rI (gi h (gr h 1 10) 4 + 1) h1 := by
    rw [c0, if_pos z5]
    by_cases z : ng = 0
    · rw [if_pos z] at y1
      rw [if_pos z, b95_80, y1, bk_n, b95_91, y2.1.2.1, y2.2.2.1]
    · rw [if_neg z] at y1
      rw [if_neg z, b95_80, y1, bk_n, b95_91, y2.1.2.1, y2.2.2.1]
  have e385 : gi h 172 385 = gi h (gr h 1 10) 4 := S.2.2.2.2.1
  have g1 : ∀ a i, 137 ≤ a → gi (sl h1 0 (gi h (gr h 1 10) 4 + 1)) a i = gi h a i := fun a i ha => y2.1.1 a i (by omega)
  obtain ⟨n', n0', -, -, -, n4'⟩ := ref (sl h1 0 (gi h (gr h 1 10) 4 + 1)) g1
  obtain ⟨h2, z1, z2⟩ := n4' zr zw (fun w => zf (fl.mp w)) (by have := n0' hD; omega) (by omega)
  have hwb : (-1 ≤ a ∧ a ≤ 107) ∧ (-1 ≤ b ∧ b ≤ 107) ∧ (-1 ≤ c ∧ c ≤ 107) ∧ (gi h 3 r ≤ 1 → b = 0) ∧ (gi h 3 r ≤ 2 → c = 0) := by
    obtain ⟨p, q, s⟩ := zw
    omega
  have M := draft_more R' I' hD (by omega) y2 (h2 := si (sl h1 0 (gi h (gr h 1 10) 4 + 1)) 165 0 0) (fun a i hai => by rw [gi_si, if_neg hai]; rfl) (fun a i => rfl) z2 (Or.inl ⟨by split <;> omega, zr, hcl.1.symm, hcl.2, hwb.1, hwb.2.1, hwb.2.2.1, hwb.2.2.2.1, hwb.2.2.2.2, rfl, rfl, rfl, rfl⟩) (fun _ => z5)
  have h22 : h2.2.2 = (sl h1 0 (gi h (gr h 1 10) 4 + 1)).2.2 := z2.2.2.1
  have h12 : h1.2.2 = h.2.2 := y2.1.2.2
  refine ⟨0, _, _, h2, W1 _ _ c1, z1, ?_, fun _ => ?_, M.2, M.1, ⟨?_, ?_, ?_, ct_e (M.2.1 _ _ (by omega) (by omega) (by omega) (by omega)) (M.2.1 _ _ (by omega) (by omega) (by omega) (by omega))⟩⟩
  · rw [z2.1 _ _ (by omega), e0]
  · show h2.2.2.1 0 = _
    rw [h22, e385]
    show gl (sl h1 0 (gi h (gr h 1 10) 4 + 1)) 0 = _
    rw [gl_sl, if_pos rfl]
  · unfold gz; rw [h22]; show h1.2.2.2.1 = _; rw [h12]
  · unfold gc; rw [h22]; show h1.2.2.2.2.1 ≤ _; rw [h12]; omega
  · unfold gs; rw [h22]; show h1.2.2.2.2.2 ≤ _; rw [h12]; omega
end OA2
