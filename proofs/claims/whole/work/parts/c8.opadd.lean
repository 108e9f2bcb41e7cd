/-! THE CALL add -/
section OAD
variable {h : dm_H} {π : Int → Int}
theorem s102 {d : Nat} (hd : 1 ≤ d) (x : dm_O) (e : dF (d - 1) 103 [dR 1 10 1] h = x) :
    (∀ v h', x = rI v h' → dF d 102 [dR 1 10 1, dR 4 1 196] h = rI 0 (sl h' 0 v)) ∧ ∀ h', x = rX 2 h' → dF d 102 [dR 1 10 1, dR 4 1 196] h = rI 1 h' := by
  rw [f102 hd, b102_0, e]
  refine ⟨fun v h' ex => ?_, fun h' ex => ?_⟩
  · rw [ex, bk_v, b102_6, ix_p (by omega) (by omega)]
  · rw [ex, bk_c (g := 11) (j := 2) (n := 1) (L' := [lR 1 10 1, lR 4 1 196, none]) rfl (fun f => rfl)]
    exact b102_12 _ _ _ _ _
/-- whether there is something to add -/
theorem s228a {d : Nat} (hd : 3 ≤ d) (I : IN0 π h) {H : dm_H} (e : ∀ a i, 144 ≤ a → gi H a i = gi h a i) :
    (¬ (gi h 1 11 = 1 ∧ gi h (gr h 1 10) 4 ≠ 0 ∧ gi h 13 1 < 10) → dF d 228 [dR 1 11 165] H = rI 0 (si H 165 0 1)) ∧ ((gi h 1 11 = 1 ∧ gi h (gr h 1 10) 4 ≠ 0 ∧ gi h 13 1 < 10) → dF d 228 [dR 1 11 165] H = dm_back (dL (d - 1) 228) dm_t228 50 [lR 1 11 165, none, none, none] [] (dF (d - 1) 174 [dR 1 11 165] (si (si H 165 0 0) 165 16 0))) := by
  have ID := I.2.1
  have e16 : gi H 165 16 = gi h 1 11 := by rw [e _ _ (by omega)]; exact ID.1
  have bad : ∀ (w1 w2 w3 : Option dm_V), dL (d - 1) 228 27 [lR 1 11 165, w1, w2, w3] [dR 1 11 165] H = rI 0 (si H 165 0 1) := by
    intro w1 w2 w3
    rw [b228_27, b228_32, thr0, if_pos (by decide)]
  have rn := rules_n I.2.2.1 I.2.2.2.1 (H := H) (fun p => e _ _ (by omega))
  have hn := I.2.2.1.1
  rw [f228 (by omega), b228_0, e16]
  rcases ID.2.1 with z | z
  · exact ⟨fun _ => by rw [if_pos z, bad], fun q => by omega⟩
  have e5 : gi H 172 (38 * 10 + 5) = gi h (gr h 1 10) 4 := by rw [e _ _ (by omega)]; exact (ID.2.2.2 z).2.1.2.2.2.2.1
  rw [if_neg (by omega), s179 (by omega) 10 5 H (by omega) (by omega), e5, bk_v, b228_15]
  by_cases y : gi h (gr h 1 10) 4 = 0
  · exact ⟨fun _ => by rw [if_pos y, bad], fun q => absurd y q.2.1⟩
  rw [if_neg y, s229 (by omega), bk_v, b228_22, rn]
  by_cases w : gi h 13 1 = 10
  · exact ⟨fun _ => by rw [if_pos w, bad], fun q => by omega⟩
  · refine ⟨fun q => absurd ⟨z, y, by omega⟩ q, fun _ => ?_⟩
    rw [if_neg w, b228_32, thr0, if_neg (by decide)]
theorem op_add {d : Nat} (hd : 16 ≤ d) (I : IN0 π h) (hN : gi h 13 3 ≤ 2000000000) : ∃ k h1 v h2 π', dF d 102 [dR 1 10 1, dR 4 1 196] h = rI k h1 ∧ dF d 228 [dR 1 11 165] h1 = rI v h2 ∧ gi h2 165 0 = k ∧ (k = 0 → gl h2 0 = v) ∧ IN0 π' h2 ∧ (frZ2 h h2 ∨ dwnF h2) ∧ rm h h2 ∧ gi h2 13 3 ≤ gi h 13 3 + 1 := by
  obtain ⟨w1, w2⟩ := s102 (h := h) (d := d) (by omega) _ rfl
  by_cases y : gi h 1 11 = 1 ∧ gi h (gr h 1 10) 4 ≠ 0 ∧ gi h 13 1 < 10
  case neg =>
    have c0 : dF (d - 1) 103 [dR 1 10 1] h = rX 2 (sg h 6) := by
      rw [f103 (by omega), b103_0]
      by_cases z : gi h 1 11 = 0
      · rw [if_pos z, b103_29]
      rw [if_neg z]
      by_cases z2 : gi h (gr h 1 10) 4 = 0
      · rw [if_pos z2, b103_29]
      rw [if_neg z2]
      by_cases z3 : gi h 13 1 < 10
      · exact absurd ⟨by have := I.2.1.2.1; omega, z2, z3⟩ y
      · rw [if_neg z3, b103_29]
    obtain ⟨t1, t2, t3⟩ := thr_all I 1
    refine ⟨1, _, 0, _, π, w2 _ c0, (s228a (h := h) (H := sg h 6) (d := d) (by omega) I (fun _ _ _ => rfl)).1 y, thr0, fun q => by omega, t1, Or.inl (frZ_2 t2), t3, ?_⟩
    rw [gi_siq (by omega)]
    show gi h 13 3 ≤ _
    omega
  have I' := I
  obtain ⟨IR, ID, B, J0, NM, G, HH, L, F, W⟩ := I
  have hn := B.1
  have K := IR.1
  have n6 := K.1
  obtain ⟨⟨wP, wQ, wPQ⟩, W2, W3, W4, W5, W6, W7⟩ := W
  obtain ⟨n, en⟩ : ∃ n, gi h 13 1 = n := ⟨_, rfl⟩
  obtain ⟨D, eD⟩ : ∃ D, gr h 1 10 = D := ⟨_, rfl⟩
  obtain ⟨Fr, eFr⟩ : ∃ Fr, gr h 14 n = Fr := ⟨_, rfl⟩
  obtain ⟨Q, eQ⟩ : ∃ Q, gr h 1 9 = Q := ⟨_, rfl⟩
  obtain ⟨P, eP⟩ : ∃ P, gr h 1 8 = P := ⟨_, rfl⟩
  rw [eP] at wP wPQ W2 W3 W4 W6 W7
  rw [eQ] at wQ wPQ
  have qP : P = 95 ∨ P = 112 := wP
  have qQ : Q = 95 ∨ Q = 112 := wQ
  have y1 := y.1
  have y2 := y.2.1
  have y3 := y.2.2
  rw [en] at y3 hn
  rw [eD] at y2
  have rD : ru D := by rw [← eD]; exact ID.2.2.1
  have rD' := ru_r rD
  obtain ⟨DD, DS, DX⟩ := ID.2.2.2 y1
  rw [eD] at DD DS DX
  have h10 : ∀ j, 0 ≤ j → j < n → π j ≠ 10 := fun j j0 j1 e => (B.2.2.1 j j0 (by omega)).2.2.2.2.1 (by rw [e]; exact J0)
  have hA : ∀ j, 0 ≤ j → j < 10 → ru (gr h 14 j) := B.2.1.1
  have hne : ∀ j, 0 ≤ j → j < 10 → gr h 14 j ≠ D := by rw [← eD]; exact B.2.1.2.2
  have rF : ru Fr := by rw [← eFr]; exact hA n hn.1 y3
  have hFD : Fr ≠ D := by rw [← eFr]; exact hne n hn.1 y3
  have hrz : ∀ r, 0 ≤ r → r < 6 → 0 ≤ gi h 178 r ∧ gi h 178 r ≤ 32 := fun r r0 r1 => by
    have e : gi h 178 r = (cW h P).1 r := (W3 r r0 r1).1
    rw [e]; exact (W7.1 r r0 r1).1
  -- is it safe?
  obtain ⟨h0, eh0⟩ : ∃ h0, h0 = si h 1 11 0 := ⟨_, rfl⟩
  have g0 : ∀ a i, ¬ (a = 1 ∧ i = 11) → gi h0 a i = gi h a i := fun a i p => by rw [eh0, gi_siq p]
  have cR0 : cR h0 D = cR h D := (uR_cg (fun a i p q _ => g0 a i (by omega))).2
  have e01 : ∀ i, gi h0 D i = gi h D i := fun i => g0 _ _ (by omega)
  have e02 : gi h0 (D + 1) = gi h (D + 1) := funext (fun i => g0 _ _ (by omega))
  have hcD : 0 ≤ gi h D 3 ∧ gi h D 3 ≤ 3 := by
    by_cases z : gi h D 1 = 3
    · have := (DD.2.2.1 z).2; omega
    · have q := DD.2.2.2.1 z
      have := cK_c K q.1.1 q.1.2
      rw [q.2]; omega
  have h13 : gi h D 1 = 1 → 1 ≤ gi h D 3 := fun q => by
    have q := DD.2.2.2.1 (by omega)
    have := cK_c K q.1.1 q.1.2
    rw [q.2]; omega
  obtain ⟨b, x, s1, s2⟩ := s104 (h := h0) (A := D) (d := d - 1 - 1) (by omega) rD (cl := cK h) (n := gi h 2 0) (by rw [e01]; exact DD.2.1) (by rw [e01]; exact hcD) (by rw [e01, e01]; exact h13) (by rw [e01, cR0]; exact DD.2.2.2.2.2.2.1) (by rw [e01, e02]; exact DD.2.2.2.2.2.1)
  rw [e01, e01, e01, e02, cR0] at s2
  obtain ⟨h1, eh1⟩ : ∃ h1, h1 = si h0 D 7 x := ⟨_, rfl⟩
  rw [← eh1] at s1
  have g1 : ∀ a i, ¬ (a = 1 ∧ i = 11) → ¬ (a = D ∧ i = 7) → gi h1 a i = gi h a i := fun a i p q => by rw [eh1, gi_siq q, g0 a i p]
  have r1 : ∀ a i, gr h1 a i = gr h a i := fun a i => by rw [eh1, gr_si, eh0, gr_si]
  have c1 : dF (d - 1) 103 [dR 1 10 1] h = dL (d - 1 - 1) 103 51 [lR 1 10 1, none] [dI b] h1 := by
    rw [f103 (by omega), b103_0, if_neg (by omega), eD, if_neg y2, if_pos (by omega), ← eh0, show gr h0 1 10 = D by rw [eh0, gr_si]; exact eD, s1, bk_v]
  -- the reference up to 'refused'
  have ref : ∀ (Hs : dm_H), (∀ a i, 144 ≤ a → gi Hs a i = gi h a i) → ∃ H2, dF d 228 [dR 1 11 165] Hs = dm_back (dL (d - 1) 228) dm_t228 62 [lR 1 11 165, none, none, none] [] (dF (d - 1) 230 [dR 1 11 165] H2) ∧ (∀ a i, ¬ (a = 165 ∧ (i = 0 ∨ i = 16)) → ¬ (a = 174 ∧ i = 10) → a ≠ 183 → a ≠ 184 → gi H2 a i = gi Hs a i) ∧ (∀ a i, gr H2 a i = gr Hs a i) ∧ H2.2.2 = Hs.2.2 ∧ gi H2 165 0 = 0 ∧ gi H2 165 16 = 0 ∧ gi H2 174 10 = 1 ∧ eqW (rW h) (aW H2) := by
    intro Hs es
    have rr := (s228a (h := h) (H := Hs) (d := d) (by omega) I' es).2 y
    obtain ⟨H0, eH0⟩ : ∃ H0, H0 = si (si Hs 165 0 0) 165 16 0 := ⟨_, rfl⟩
    have gH0 : ∀ a i, ¬ (a = 165 ∧ (i = 0 ∨ i = 16)) → gi H0 a i = gi Hs a i := fun a i q => by rw [eH0, gi_siq (by omega), gi_siq (by omega)]
    obtain ⟨H1, n1, n2, n3, n4, n5⟩ := s174 (h := H0) (d := d - 1) (by omega) (fun r r0 r1 => by rw [gH0 _ _ (by omega), es _ _ (by omega)]; exact hrz r r0 r1)
    obtain ⟨H2, eH2⟩ : ∃ H2, H2 = si H1 174 10 1 := ⟨_, rfl⟩
    refine ⟨H2, ?_, fun a i p q r s => by rw [eH2, gi_siq q, n2 a i r s, gH0 a i p], fun a i => by rw [eH2, gr_si, n3, eH0]; rfl, by rw [eH2]; show H1.2.2 = _; rw [n4, eH0]; rfl, ?_, ?_, by rw [eH2, gi_si, if_pos ⟨rfl, rfl⟩], ?_⟩
    · rw [rr, ← eH0, n1, bk_n, b228_53, ix_p (by omega) (by omega), z1_p (Or.inr rfl), ← eH2]
    · rw [eH2, gi_siq (by omega), n2 _ _ (by omega) (by omega), eH0, gi_siq (by omega), gi_si, if_pos ⟨rfl, rfl⟩]
    · rw [eH2, gi_siq (by omega), n2 _ _ (by omega) (by omega), eH0, gi_si, if_pos ⟨rfl, rfl⟩]
    · have a1 : eqW (rW h) (rW H0) := rW_same (fun i => by rw [gH0 _ _ (by omega), es _ _ (by omega)]) (fun i => by rw [gH0 _ _ (by omega), es _ _ (by omega)])
      have a2 : eqW (aW H1) (aW H2) := fun r _ _ => ⟨by show gi H2 184 r = gi H1 184 r; rw [eH2, gi_sin (by omega)], fun y _ _ => by show gi H2 183 _ = gi H1 183 _; rw [eH2, gi_sin (by omega)]⟩
      exact eqW_trans (eqW_trans a1 n5) a2
  -- if it is refused
  have refF : ∀ (Hs : dm_H) (v : Int) (H2 H3 : dm_H), v ≠ 0 → (∀ a i, 144 ≤ a → gi Hs a i = gi h a i) → dF d 228 [dR 1 11 165] Hs = dm_back (dL (d - 1) 228) dm_t228 62 [lR 1 11 165, none, none, none] [] (dF (d - 1) 230 [dR 1 11 165] H2) → (∀ a i, ¬ (a = 165 ∧ (i = 0 ∨ i = 16)) → ¬ (a = 174 ∧ i = 10) → a ≠ 183 → a ≠ 184 → gi H2 a i = gi Hs a i) → (∀ a i, gr H2 a i = gr Hs a i) → H2.2.2 = Hs.2.2 → gi H2 165 0 = 0 → gi H2 165 16 = 0 → eqW (rW h) (aW H2) → dF (d - 1) 230 [dR 1 11 165] H2 = rI v H3 → frF H2 H3 →
      ∃ H5, dF d 228 [dR 1 11 165] Hs = rI v H5 ∧ (∀ a i, ¬ (a = 165 ∧ (i = 0 ∨ i = 16 ∨ i = 10 ∨ i = 11 ∨ (27 ≤ i ∧ i ≤ 34))) → ¬ (175 ≤ a ∧ a ≤ 180) → ¬ (183 ≤ a ∧ a ≤ 190) → gi H5 a i = gi Hs a i) ∧ (∀ a i, gr H5 a i = gr Hs a i) ∧ H5.2.2 = Hs.2.2 ∧ gi H5 165 0 = 0 ∧ gi H5 165 16 = 0 ∧ (gi H5 165 10 = -1 ∧ gi H5 165 11 = -1) ∧ eqW (rW h) (rW H5) := by
    intro Hs v H2 H3 hv es rr f2 fr2 s2' t0 t16 ea e3 fF
    obtain ⟨H4, eH4⟩ : ∃ H4, H4 = si H3 174 10 0 := ⟨_, rfl⟩
    have g4 : ∀ a i, ¬ (a = 165 ∧ (i = 0 ∨ i = 16 ∨ (27 ≤ i ∧ i ≤ 34))) → ¬ (175 ≤ a ∧ a ≤ 180) → ¬ (183 ≤ a ∧ a ≤ 190) → gi H4 a i = gi Hs a i := fun a i p q r => by
      by_cases z : a = 174 ∧ i = 10
      · rw [eH4, gi_si, if_pos z, z.1, z.2, es _ _ (by omega)]; exact J0.symm
      · rw [eH4, gi_siq z, fF.1 a i (by omega) (by omega) (by omega), f2 a i (by omega) z (by omega) (by omega)]
    have g4' : ∀ a i, a = 166 ∨ a = 167 ∨ a = 172 ∨ a = 174 → gi H4 a i = gi h a i := fun a i q => by rw [g4 a i (by omega) (by omega) (by omega), es a i (by omega)]
    have HB4 := HBr_cg (h := h) (h' := H4) (fun i => g4' _ _ (by omega)) (fun i => g4' _ _ (by omega)) (fun i => g4' _ _ (by omega)) (fun i => g4' _ _ (by omega)) (BKS_HBr IR B)
    have ea4 : eqW (rW h) (aW H4) := eqW_trans ea (fun r _ _ => ⟨by show gi H4 184 r = gi H2 184 r; rw [eH4, gi_sin (by omega), fF.1 _ _ (by omega) (by omega) (by omega)], fun y _ _ => by show gi H4 183 _ = gi H2 183 _; rw [eH4, gi_sin (by omega), fF.1 _ _ (by omega) (by omega) (by omega)]⟩)
    obtain ⟨H5, t1, t2, t3, t4, t5, t6, t7⟩ := s212 (h := H4) (d := d - 1) (by omega) G (fun r => by rw [g4' _ _ (by omega)]; exact (IR.2.2.1 r).2) HB4 L.1 (fun r r0 r1 => by have := L.2.1 r r0 r1; have := L.2.2; omega) (fun r r0 r1 => by
      have e : gi H4 184 r = gi h 178 r := (ea4 r r0 r1).1
      rw [e]; exact hrz r r0 r1)
    refine ⟨H5, ?_, fun a i p q r => by rw [t2 a i (by omega) (by omega), g4 a i (by omega) q r], fun a i => by rw [t3, eH4, gr_si, fF.2.1, fr2], ?_, ?_, ?_, ⟨t6, t7⟩, eqW_trans ea4 t5⟩
    · rw [rr, e3, bk_v, b228_65, ix_p (by omega) (by omega), z1_p (Or.inl rfl), if_neg hv, ← eH4, t1, bk_n, b228_82]
    · rw [t4, eH4]; show H3.2.2 = _; rw [fF.2.2, s2']
    · rw [t2 _ _ (by omega) (by omega), eH4, gi_siq (by omega), fF.1 _ _ (by omega) (by omega) (by omega)]; exact t0
    · rw [t2 _ _ (by omega) (by omega), eH4, gi_siq (by omega), fF.1 _ _ (by omega) (by omega) (by omega)]; exact t16
  rcases s2 with ⟨rfl, sf, skn⟩ | ⟨rfl, nsf⟩
  case inr =>
    -- UNSAFE
    have c2 : dF (d - 1) 103 [dR 1 10 1] h = rI (-2) h1 := by rw [c1, b103_51, if_pos rfl]
    have es : ∀ a i, 144 ≤ a → gi (sl h1 0 (-2)) a i = gi h a i := fun a i q => g1 a i (by omega) (by omega)
    obtain ⟨H2, o1, o2, o3, o4, o5, o6, o7, o8⟩ := ref (sl h1 0 (-2)) es
    have o2' : ∀ a i, ¬ (a = 165 ∧ (i = 0 ∨ i = 16)) → ¬ (a = 174 ∧ i = 10) → a ≠ 183 → a ≠ 184 → gi H2 a i = gi h1 a i := o2
    have IR2 : IRel H2 := IRel_cg (by rw [o2' _ _ (by omega) (by omega) (by omega) (by omega), g1 _ _ (by omega) (by omega)]) (fun a i q => by rw [o2' _ _ (by omega) (by omega) (by omega) (by omega), g1 _ _ (by omega) (by omega)]) (by rw [o2' _ _ (by omega) (by omega) (by omega) (by omega), g1 _ _ (by omega) (by omega)]) IR
    have gD : ∀ a i, D ≤ a → a ≤ D + 6 → ¬ (a = D ∧ i = 7) → gi H2 a i = gi h a i := fun a i p q r => by rw [o2' _ _ (by omega) (by omega) (by omega) (by omega), g1 _ _ (by omega) r]
    have g172 : ∀ i, gi H2 172 i = gi h 172 i := fun i => by rw [o2' _ _ (by omega) (by omega) (by omega) (by omega), g1 _ _ (by omega) (by omega)]
    have DD2 : DSH D H2 := DSH_cg gD (by rw [o2' _ _ (by omega) (by omega) (by omega) (by omega), g1 _ _ (by omega) (by omega)]) (fun i => by rw [o2' _ _ (by omega) (by omega) (by omega) (by omega), g1 _ _ (by omega) (by omega)]) DD
    have DS2 : SR H2 D 10 := SR_cg (fun a i p q r => gD a i p (by omega) r) (fun i _ _ => g172 i) (fun i => by rw [o2' _ _ (by omega) (by omega) (by omega) (by omega), g1 _ _ (by omega) (by omega)]) DS DD.2.1.2
    have e4 : gi H2 D 4 = gi h D 4 := gD _ _ (by omega) (by omega) (by omega)
    have DX2 : RX H2 10 (gi H2 D 4) := by rw [e4]; exact RX_cg (fun i _ _ => g172 i) DD.2.1.2 DX
    obtain ⟨bu, u1, u2, u3⟩ := s231D (h := H2) (d := d - 1 - 1) (by omega) IR2 DD2 DS2 DX2
    have cR2 : cR H2 D = cR h D := (uR_cg (fun a i p q r => gD a i p (by omega) (by omega))).2
    rw [cR2, e4, gD D 1 (by omega) (by omega) (by omega), gD D 3 (by omega) (by omega) (by omega), show gi H2 (D + 1) = gi h (D + 1) from funext (fun i => gD _ _ (by omega) (by omega) (by omega))] at u3
    have hb : bu = 1 := by
      rcases u2 with q | q
      · exact absurd (u3.mp q) nsf
      · exact q
    rw [hb] at u1
    have e3 := s230u (H := H2) (d := d - 1) (by omega) u1
    obtain ⟨H5, z1, z2, z3, z4, z5, z6, z7, z8⟩ := refF _ (-2) H2 H2 (by decide) es o1 o2 o3 o4 o5 o6 o8 e3 ⟨fun _ _ _ _ _ => rfl, fun _ _ => rfl, rfl⟩
    have z2' : ∀ a i, ¬ (a = 165 ∧ (i = 0 ∨ i = 16 ∨ i = 10 ∨ i = 11 ∨ (27 ≤ i ∧ i ≤ 34))) → ¬ (175 ≤ a ∧ a ≤ 180) → ¬ (183 ≤ a ∧ a ≤ 190) → gi H5 a i = gi h1 a i := z2
    have z3' : ∀ a i, gr H5 a i = gr h a i := fun a i => (z3 a i).trans (r1 a i)
    have gg : ∀ a i, ¬ wdA h a i → gi H5 a i = gi h a i := fun a i q => by
      unfold wdA at q
      rw [eD] at q
      rw [z2' a i (by omega) (by omega) (by omega), g1 a i (by omega) (by omega)]
    have lowF : ∀ a i, a = 6 ∨ a = 7 ∨ a = 4 ∨ a = 13 ∨ (a = 2) → gi H5 a i = gi h a i := fun a i q => by rw [z2' a i (by omega) (by omega) (by omega), g1 a i (by omega) (by omega)]
    have eR5 : RLc H5 = RLc h := RLc_cg2 (lowF _ _ (by omega)) (fun j _ _ => z3' 14 j) (fun j j0 j1 a i p q r => by
      have rr := ru_r (hA j j0 (by omega))
      have nn := hne j j0 (by omega)
      rw [z2' a i (by omega) (by omega) (by omega), g1 a i (by omega) (by omega)])
    have CH5 : CH H5 := by
      refine ⟨fun r r0 r1 => by rw [lowF _ _ (by omega)]; exact HH.1 r r0 r1, ?_⟩
      rw [eR5]
      have : bh H5 6 = bh h 6 := by
        funext r q
        unfold bh
        rw [lowF _ _ (by omega)]
      rw [this]; exact HH.2
    have CL5 : CL H5 := by
      unfold CL
      rw [eR5, show gi H5 4 = gi h 4 from funext (fun i => lowF _ _ (by omega)), show gi H5 7 = gi h 7 from funext (fun i => lowF _ _ (by omega)), lowF 2 6 (by omega)]; exact L
    have e11 : gi H5 1 11 = 0 := by rw [z2' _ _ (by omega) (by omega) (by omega), eh1, gi_siq (by omega), eh0, gi_si, if_pos ⟨rfl, rfl⟩]
    obtain ⟨v1, v2⟩ := add_fail I' (by omega) gg e11 z6 z7 (fun a i _ _ _ => z3' a i) (Or.inl ⟨z3' _ _, z3' _ _⟩) z8 CH5 CL5
    refine ⟨0, _, -2, H5, π, w1 _ _ c2, z1, z5, fun _ => ?_, v1, Or.inl v2, ?_, by rw [lowF _ _ (by omega)]; omega⟩
    · show H5.2.2.1 0 = -2
      rw [z4]
      exact (gl_sl h1 0 0 (-2)).trans (if_pos rfl)
    · have s4 : H5.2.2.2 = h.2.2.2 := by rw [z4]; show h1.2.2.2 = _; rw [eh1, eh0]; rfl
      unfold rm gz gc gs
      rw [s4]; exact ⟨rfl, Nat.le_succ _, Nat.le_add_right _ _, ct_e (by rw [z2' _ _ (by omega) (by omega) (by omega), g1 _ _ (by omega) (by omega)]) (lowF _ _ (by omega))⟩
  -- it is safe: into the class's book
  obtain ⟨h2, eh2⟩ : ∃ h2, h2 = sr (si (si (sr h1 14 n D) D 0 (-1)) 13 1 (n + 1)) 1 10 Fr := ⟨_, rfl⟩
  have g2 : ∀ a i, ¬ (a = 1 ∧ i = 11) → ¬ (a = D ∧ (i = 0 ∨ i = 7)) → ¬ (a = 13 ∧ i = 1) → gi h2 a i = gi h a i := fun a i p q r => by rw [eh2, gi_sr, gi_siq r, gi_siq (by omega), gi_sr, g1 a i p (by omega)]
  have r2 : ∀ a i, ¬ (a = 14 ∧ i = n) → ¬ (a = 1 ∧ i = 10) → gr h2 a i = gr h a i := fun a i p q => by rw [eh2, gr_sr, if_neg q, gr_si, gr_si, gr_sr, if_neg p, r1]
  have r214 : gr h2 14 n = D := by rw [eh2, gr_sr, if_neg (by omega), gr_si, gr_si, gr_sr, if_pos ⟨rfl, rfl⟩]
  have r210 : gr h2 1 10 = Fr := by rw [eh2, gr_sr, if_pos ⟨rfl, rfl⟩]
  have e213 : gi h2 13 1 = n + 1 := by rw [eh2, gi_sr, gi_si, if_pos ⟨rfl, rfl⟩]
  have c2 : dF (d - 1) 103 [dR 1 10 1] h = dm_back (dL (d - 1 - 1) 103) dm_t103 76 [lR 1 10 1, none] [] (dF (d - 1 - 1) 108 [dR 1 9 13] h2) := by
    have e131 : gi h1 13 1 = n := by rw [g1 _ _ (by omega) (by omega)]; exact en
    rw [c1, b103_51, if_neg (by decide), r1 1 10, eD, f107 (by omega), b107_0, e131, if_pos y3, ix_p hn.1 y3, ix_p hn.1 y3, gi_siq (by omega), gi_sr, e131, ck_p (by omega) (by omega), bk_v, b103_69, r1 14 n, eFr, ← eh2]
  -- the shape of all its rules
  have eA2 : ∀ j, 0 ≤ j → j < n → ∀ a i, gr h 14 j ≤ a → a ≤ gr h 14 j + 7 → gi h2 a i = gi h a i := fun j j0 j1 a i p q => by
    have r := ru_r (hA j j0 (by omega))
    have nn := hne j j0 (by omega)
    exact g2 a i (by omega) (by omega) (by omega)
  have e22 : gi h2 2 0 = gi h 2 0 := g2 _ _ (by omega) (by omega) (by omega)
  have e23 : ∀ i, gi h2 3 i = gi h 3 i := fun i => g2 _ _ (by omega) (by omega) (by omega)
  have ec2 : cK h2 = cK h := by unfold cK; simp only [e23]
  have e24 : gi h2 4 = gi h 4 := funext (fun i => g2 _ _ (by omega) (by omega) (by omega))
  have K2 : RK h2 := by
    unfold RK
    simp only [e22, e23, show ∀ i, gi h2 4 i = gi h 4 i from fun i => congrFun e24 i, show ∀ i, gi h2 5 i = gi h 5 i from fun i => g2 _ _ (by omega) (by omega) (by omega)]
    exact K
  have RD1 : RIc D h1 := by
    have gD1 : ∀ a i, D ≤ a → a ≤ D + 6 → ¬ (a = D ∧ i = 7) → gi h1 a i = gi h a i := fun a i p q r => g1 a i (by omega) r
    have cR1 : cR h1 D = cR h D := (uR_cg (fun a i p q r => gD1 a i p (by omega) (by omega))).2
    have e7 : gi h1 D 7 = x := by rw [eh1, gi_si, if_pos ⟨rfl, rfl⟩]
    have e1D : gi h1 (D + 1) = gi h (D + 1) := funext (fun i => gD1 _ _ (by omega) (by omega) (by omega))
    refine ⟨rD, DSH_cg gD1 (g1 _ _ (by omega) (by omega)) (fun i => g1 _ _ (by omega) (by omega)) DD, ?_, ?_, ?_⟩
    · rw [cR1, e1D, gD1 D 4 (by omega) (by omega) (by omega), gD1 D 1 (by omega) (by omega) (by omega), gD1 D 3 (by omega) (by omega) (by omega)]; exact sf
    · rw [e7, gD1 D 4 (by omega) (by omega) (by omega)]; exact skn.1
    · rw [cR1, e7, e1D, gD1 D 3 (by omega) (by omega) (by omega)]; exact skn.2
  have RD2 : RIc D h2 := RIc_cg rD (fun a i p q r => by
    by_cases z : a = 13 ∧ i = 1
    · omega
    rw [eh2, gi_sr, gi_siq z, gi_siq r, gi_sr]) (by rw [e22, g1 _ _ (by omega) (by omega)]) (fun i => by rw [e23, g1 _ _ (by omega) (by omega)]) RD1
  have C2 : CBS h2 := by
    refine ⟨by rw [e213]; omega, fun j j0 j1 => ?_⟩
    rw [e213] at j1
    by_cases z : j = n
    · rw [z, r214]; exact RD2
    · rw [r2 14 j (by omega) (by omega)]
      have R := (BKS_c B).2 j j0 (by omega)
      exact RIc_cg R.1 (fun a i p q _ => eA2 j j0 (by omega) a i p (by omega)) e22 e23 R
  -- the reference's book with the draft in its place
  obtain ⟨Hv, eHv⟩ : ∃ Hv, Hv = si h2 174 10 1 := ⟨_, rfl⟩
  have gv : ∀ a i, ¬ (a = 174 ∧ i = 10) → gi Hv a i = gi h2 a i := fun a i q => by rw [eHv, gi_siq q]
  have rv : ∀ a i, gr Hv a i = gr h2 a i := fun a i => by rw [eHv]; rfl
  have v10 : gi Hv 174 10 = 1 := by rw [eHv, gi_si, if_pos ⟨rfl, rfl⟩]
  have gvh : ∀ a i, a = 166 ∨ a = 167 ∨ a = 172 → gi Hv a i = gi h a i := fun a i q => by rw [gv _ _ (by omega), g2 _ _ (by omega) (by omega) (by omega)]
  have gv174 : ∀ p, p ≠ 10 → gi Hv 174 p = gi h 174 p := fun p q => by rw [gv _ _ (fun w => q w.2), g2 _ _ (by omega) (by omega) (by omega)]
  have Bv : BKS (fun j => if j = n then 10 else π j) Hv := by
    obtain ⟨b1, ⟨b2, b3, b4⟩, b5, b6, b7, b8⟩ := B
    rw [en] at b5 b6 b7
    have e13v : gi Hv 13 1 = n + 1 := by rw [gv _ _ (by omega)]; exact e213
    refine ⟨by rw [e13v]; omega, ⟨fun j j0 j1 => ?_, fun i j i0 ij j1 => ?_, fun j j0 j1 => ?_⟩, fun j j0 j1 => ?_, fun i j i0 ij j1 => ?_, fun p p0 p1 q => ?_, fun p p0 p1 => ?_⟩
    · rw [rv]
      by_cases z : j = n
      · rw [z, r214]; exact rD
      · rw [r2 _ _ (fun w => z w.2) (by omega)]; exact b2 j j0 j1
    · rw [rv, rv]
      by_cases zi : i = n
      · rw [zi, r214, r2 14 j (by omega) (by omega)]
        exact fun e => hne j (by omega) j1 e.symm
      · rw [r2 14 i (by omega) (by omega)]
        by_cases zj : j = n
        · rw [zj, r214]; exact hne i i0 (by omega)
        · rw [r2 14 j (by omega) (by omega)]; exact b3 i j i0 ij j1
    · rw [rv, rv, r210]
      by_cases z : j = n
      · rw [z, r214]; exact fun e => hFD e.symm
      · rw [r2 _ _ (fun w => z w.2) (by omega), ← eFr]; exact addr_ne ⟨b1, ⟨b2, b3, b4⟩, by rw [en]; exact b5, by rw [en]; exact b6, by rw [en]; exact b7, b8⟩ ⟨j0, j1⟩ ⟨hn.1, y3⟩ z
    · rw [e13v] at j1
      rw [rv]
      by_cases z : j = n
      · have Rv : RIc D Hv := RIc_cg rD (fun a i p q _ => gv a i (by omega)) (gv _ _ (by omega)) (fun i => gv _ _ (by omega)) RD2
        show RIN (gr h2 14 j) (if j = n then 10 else π j) Hv
        rw [if_pos z, z, r214]
        have e4v : gi Hv D 4 = gi h D 4 := by rw [gv _ _ (by omega), g2 _ _ (by omega) (by omega) (by omega)]
        refine ⟨rD, Rv.2.1, Rv.2.2.1, Rv.2.2.2, by rw [v10]; decide, SR_cp (by omega) (fun a i p q r => by rw [gv a i (by omega), g2 a i (by omega) (by omega) (by omega)]) (fun k _ _ => gvh _ _ (by omega)) (fun i => gvh _ _ (by omega)) DS DD.2.1.2, ?_⟩
        rw [e4v]
        exact RX_cg (fun i _ _ => gvh _ _ (by omega)) DD.2.1.2 DX
      · show RIN (gr h2 14 j) (if j = n then 10 else π j) Hv
        rw [if_neg z, r2 14 j (fun w => z w.2) (by omega)]
        obtain ⟨r1', r2', r3', r4', r5', r6', r7'⟩ := b5 j j0 (by omega)
        have eAv : ∀ a i, gr h 14 j ≤ a → a ≤ gr h 14 j + 6 → gi Hv a i = gi h a i := fun a i p q => by
          have r := ru_r r1'
          rw [gv a i (by omega)]; exact eA2 j j0 (by omega) a i p (by omega)
        have c := RIc_cg (h := h) (h' := Hv) r1' (fun a i p q _ => eAv a i p q) (by rw [gv _ _ (by omega)]; exact e22) (fun i => by rw [gv _ _ (by omega)]; exact e23 i) ⟨r1', r2', r3', r4'⟩
        refine ⟨r1', c.2.1, c.2.2.1, c.2.2.2, by rw [gv174 _ (h10 j j0 (by omega))]; exact r5', SR_cg (fun a i p q _ => eAv a i p (by omega)) (fun i _ _ => gvh _ _ (by omega)) (fun i => gvh _ _ (by omega)) r6' r2'.2.1.2, ?_⟩
        rw [eAv _ _ (by omega) (by omega)]
        exact RX_cg (fun i _ _ => gvh _ _ (by omega)) r2'.2.1.2 r7'
    · rw [e13v] at j1
      show (if i = n then 10 else π i) ≠ (if j = n then 10 else π j)
      rw [if_neg (show i ≠ n by omega)]
      by_cases z : j = n
      · rw [if_pos z]; exact h10 i i0 (by omega)
      · rw [if_neg z]; exact b6 i j i0 ij (by omega)
    · by_cases z : p = 10
      · exact ⟨n, hn.1, by rw [e13v]; omega, by show (if n = n then 10 else π n) = p; rw [if_pos rfl, z]⟩
      · rw [gv174 p z] at q
        obtain ⟨j, j0, j1, j2⟩ := b7 p p0 p1 q
        exact ⟨j, j0, by rw [e13v]; omega, by show (if j = n then 10 else π j) = p; rw [if_neg (by omega)]; exact j2⟩
    · by_cases z : p = 10
      · rw [z]; exact Or.inr v10
      · rw [gv174 p z]; exact b8 p p0 p1
  have Iv : IRel Hv := IRel_cg (by rw [gv _ _ (by omega)]; exact e22) (fun a i q => by rw [gv a i (by omega), g2 a i (by omega) (by omega) (by omega)]) (by rw [gv _ _ (by omega), g2 _ _ (by omega) (by omega) (by omega)]) IR
  have RLv : RLc Hv = RLc h2 := RLc_cg2 (gv _ _ (by omega)) (fun j _ _ => rv 14 j) (fun j j0 j1 a i p q _ => by
    have r := ru_r (C2.2 j j0 j1).1
    exact gv a i (by omega))
  have HBv := BKS_HBr Iv Bv
  rw [RLv, show cK Hv = cK h from (by unfold cK; simp only [show ∀ i, gi Hv 3 i = gi h 3 i from fun i => by rw [gv _ _ (by omega)]; exact e23 i]), show gi Hv 4 = gi h 4 from funext (fun i => by rw [gv _ _ (by omega)]; exact congrFun e24 i)] at HBv
  have G1v := CBS_G1 K2 C2
  rw [ec2, e22] at G1v
  -- what the reference finds of the draft
  have refG : ∀ (H2 : dm_H), (∀ a i, ¬ (a = 165 ∧ (i = 0 ∨ i = 16)) → ¬ (a = 174 ∧ i = 10) → a ≠ 183 → a ≠ 184 → 144 ≤ a → gi H2 a i = gi h a i) → gi H2 174 10 = 1 → HBr (cK h) (gi h 4) (RLc h2) (Uπ (fun j => if j = n then 10 else π j) Hv) H2 ∧ dF (d - 1 - 1) 231 [dR 1 11 165, dI 10] H2 = rI 0 H2 ∧ (∀ p, 0 ≤ p → p ≤ 10 → gi H2 174 p ≠ 0 → RX H2 p (gi H2 172 (38 * p + 5))) := by
    intro H2 e2 t10
    have e172 : ∀ a i, a = 166 ∨ a = 167 ∨ a = 172 → gi H2 a i = gi Hv a i := fun a i q => by rw [gvh a i q, e2 a i (by omega) (by omega) (by omega) (by omega) (by omega)]
    have e174 : ∀ i, gi H2 174 i = gi Hv 174 i := fun i => by
      by_cases z : i = 10
      · rw [z, t10, v10]
      · rw [gv174 i z, e2 _ _ (by omega) (fun w => z w.2) (by omega) (by omega) (by omega)]
    refine ⟨HBr_cg (fun i => e172 _ _ (by omega)) e174 (fun i => e172 _ _ (by omega)) (fun i => e172 _ _ (by omega)) HBv, ?_, fun p p0 p1 q => ?_⟩
    · -- the heap Hw: the reference's cells of H2, the class's of Hv
      have NU : ∃ bu, dF (d - 1 - 1) 231 [dR 1 11 165, dI 10] H2 = rI bu H2 ∧ (bu = 0 ∨ bu = 1) ∧ (bu = 0 ↔ SAFE (cR h D) (gi h D 4) (gi h D 1) (gi h D 3) (gi h (D + 1))) := by
        have ec : hcl H2 10 = gi h D 3 := by
          unfold hcl
          rw [e2 _ _ (by omega) (by omega) (by omega) (by omega) (by omega), e2 _ _ (by omega) (by omega) (by omega) (by omega) (by omega), e2 _ _ (by omega) (by omega) (by omega) (by omega) (by omega), DS.2.1, DS.2.2.1]
          by_cases z : gi h D 1 = 3
          · rw [if_pos z, (DD.2.2.1 z).2]
          · rw [if_neg z, (IR.2.2.1 _).1, (DD.2.2.2.1 z).2]
        have e172' : ∀ i, gi H2 172 i = gi h 172 i := fun i => e2 _ _ (by omega) (by omega) (by omega) (by omega) (by omega)
        have elq : ∀ k w, lq H2 10 k w = lq h 10 k w := fun k w => e172' _
        have sm : simR (cR h D) (rRl H2 10) (gi h D 4) := by
          intro k k0 k1
          obtain ⟨q1, q2, q3, q4⟩ := DS.2.2.2.2.2.1 k k0 k1
          refine ⟨?_, ?_, ?_, fun i i0 i1 => ?_⟩
          · rw [← q1]; show rsrt H2 10 k = rsrt h 10 k; unfold rsrt; rw [elq, elq]
          · rw [← q2]; show rsbj H2 10 k = rsbj h 10 k; unfold rsbj; rw [elq, elq, elq]
          · rw [← q3]; show rwid H2 10 k = rwid h 10 k; unfold rwid; rw [elq, elq, e2 _ _ (by omega) (by omega) (by omega) (by omega) (by omega)]
          · rw [← q4 i i0 i1]; show rtrm H2 10 k i = rtrm h 10 k i; unfold rtrm; rw [elq, elq, elq]
        obtain ⟨bu, u1, u2, u3⟩ := s231 (p := 10) (h := H2) (d := d - 1 - 1) (by omega) (N := gi h D 4) (by omega) DD.2.1 (by rw [e172']; exact DS.2.2.2.2.1) (by rw [e172', DS.2.1]; exact DD.1) (fun q => by
          rw [e172', DS.2.1] at q
          rw [e172', DS.2.2.1]
          have := (DD.2.2.2.1 q).1; omega) (by rw [ec]; exact hcD) (by rw [e172', DS.2.1, ec]; exact h13) (cl := cK h) (n := gi h 2 0) (fun k k0 k1 => LSH_sim sm k0 k1 (DD.2.2.2.2.2.2.1 k k0 k1)) ⟨by omega, fun k k0 k1 => by rw [elq]; exact DS.2.2.2.2.2.2 k k0 k1⟩ (fun k k0 k1 q => by
          rw [elq] at q
          rw [elq]; exact (DX k k0 k1).2 (by omega)) (fun i i0 i1 => by
          rw [e172', DS.2.2.2.1 i i0 i1]
          by_cases z : i < gi h D 3
          · exact (DD.2.2.2.2.1 i i0 z).2
          · rw [DD.2.2.2.2.2.1 i (by omega) i1]; omega)
        refine ⟨bu, u1, u2, u3.trans ?_⟩
        rw [e172', DS.2.1, ec]
        exact SAFE_sim sm DD.2.1.1 (fun k k0 k1 => by have := LSH_w (DD.2.2.2.2.2.2.1 k k0 k1); omega) hcD.2 h13 (fun i i0 i1 => by rw [e172']; exact DS.2.2.2.1 i i0 i1)
      obtain ⟨bu, u1, u2, u3⟩ := NU
      rw [u3.mpr sf] at u1
      exact u1
    · rw [e174] at q
      obtain ⟨j, j0, j1, j2⟩ := Bv.2.2.2.2.1 p p0 p1 q
      have R := Bv.2.2.1 j j0 j1
      have e5 := R.2.2.2.2.2.1.2.2.2.2.1
      have j2' : (if j = n then 10 else π j) = p := j2
      rw [show (fun j => if j = n then 10 else π j) j = p from j2] at R e5
      rw [e172 _ _ (by omega), e5]
      exact RX_cg (fun i _ _ => e172 _ _ (by omega)) R.2.1.2.1.2 R.2.2.2.2.2.2
  -- the class takes the rule away again
  have rem : ∀ (hX : dm_H) (v : Int), v ≠ -1 → (∀ a i, a ≠ 6 → a ≠ 7 → ¬ (a = 2 ∧ i = 6) → ¬ (15 ≤ a ∧ a ≤ 94 ∧ a % 8 = 6) → a ≠ 136 → ¬ (Q ≤ a ∧ a ≤ Q + 16) → ¬ (137 ≤ a ∧ a ≤ 143) → gi hX a i = gi h2 a i) → (∀ a i, ¬ (a = 137 ∨ a = 140 ∨ a = 143) → gr hX a i = gr h2 a i) → hX.2.2 = h2.2.2 →
      ∃ hF, dL (d - 1 - 1) 103 108 [lR 1 10 1, lI v] [] hX = rI v hF ∧ (∀ a i, ¬ wdA h a i → gi hF a i = gi h a i) ∧ gi hF 1 11 = 0 ∧ (∀ a i, ¬ (a = 14 ∧ i = n) → ¬ (a = 1 ∧ i = 10) → ¬ (a = 137 ∨ a = 140 ∨ a = 143) → gr hF a i = gr h a i) ∧ (gr hF 14 n = D ∧ gr hF 1 10 = Fr) ∧ CH hF ∧ CL hF ∧ hF.2.2 = h.2.2 ∧ ∀ a i, 144 ≤ a → gi hF a i = gi h a i := by
    intro hX v hv gX rX' sX
    have eX13 : gi hX 13 1 = n + 1 := by rw [gX _ _ (by omega) (by omega) (by omega) (by omega) (by omega) (by omega) (by omega)]; exact e213
    have eX2 : gi hX 2 0 = gi h2 2 0 := gX _ _ (by omega) (by omega) (by omega) (by omega) (by omega) (by omega) (by omega)
    have eX3 : ∀ i, gi hX 3 i = gi h2 3 i := fun i => gX _ _ (by omega) (by omega) (by omega) (by omega) (by omega) (by omega) (by omega)
    have KX : RK hX := by
      unfold RK
      simp only [eX2, eX3, show ∀ i, gi hX 4 i = gi h2 4 i from fun i => gX _ _ (by omega) (by omega) (by omega) (by omega) (by omega) (by omega) (by omega), show ∀ i, gi hX 5 i = gi h2 5 i from fun i => gX _ _ (by omega) (by omega) (by omega) (by omega) (by omega) (by omega) (by omega)]
      exact K2
    have CX : CBS hX := by
      refine ⟨by rw [eX13]; omega, fun j j0 j1 => ?_⟩
      rw [eX13] at j1
      rw [rX' 14 j (by omega)]
      have R := C2.2 j j0 (by rw [e213]; exact j1)
      have r := ru_r R.1
      exact RIc_cg R.1 (fun a i p q _ => gX a i (by omega) (by omega) (by omega) (by omega) (by omega) (by omega) (by omega)) eX2 eX3 R
    have rmn : ∀ j, 0 ≤ j → j < 10 → remA (gr hX 14) n (n + 1) j = gr hX 14 j := fun j j0 j1 => by
      rw [remA_f]
      unfold rmi
      by_cases z : j < n ∨ n + 1 ≤ j
      · rw [if_pos z]
      · rw [if_neg z, if_neg (by omega), show n = j by omega]
    have eRk : ∀ hR, hBk hX hR (remA (gr hX 14) n (n + 1)) (n + 1 - 1) → RLc hR = RLc h := by
      intro hR ⟨k1, k2, k3, k4, k5⟩
      refine RLc_cg2 (by rw [k2]; omega) (fun j j0 j1 => ?_) (fun j j0 j1 a i p q r => ?_)
      · rw [k4 j j0 (by omega), rmn j j0 (by omega), rX' 14 j (by omega), r2 14 j (by omega) (by omega)]
      · have rr := ru_r (hA j j0 (by omega))
        rw [k1 a i (by omega), gX a i (by omega) (by omega) (by omega) (by omega) (by omega) (by omega) (by omega)]
        exact eA2 j j0 (by omega) a i p (by omega)
    obtain ⟨hR, hF, z1, z2, z3, z4, z5, z6⟩ := s121 (h := hX) (d := d - 1 - 1) (by omega) (g := n) KX CX eX13 (by omega) (fun hR k u hu => by
      rw [eRk hR k] at hu ⊢
      exact (G u hu).2.1)
    have kR := eRk hR z2
    obtain ⟨k1, k2, k3, k4, k5⟩ := z2
    refine ⟨hF, ?_, fun a i q => ?_, ?_, fun a i p q r => ?_, ⟨?_, ?_⟩, z4, z5, ?_, fun a i q => by rw [z3.1 a i (by omega) (by omega) (by omega), k1 a i (by omega), gX a i (by omega) (by omega) (by omega) (by omega) (by omega) (by omega) (by omega), g2 a i (by omega) (by omega) (by omega)]⟩
    · rw [b103_108, if_neg hv, eX13, ck_p (by omega) (by omega), show n + 1 - 1 = n by omega, z1, bk_n, b103_129]
    · unfold wdA at q
      rw [eD, eQ] at q
      rw [z3.1 a i (by omega) (by omega) (by omega)]
      by_cases w : a = 13 ∧ i = 1
      · rw [w.1, w.2, k2, en]; omega
      · rw [k1 a i w, gX a i (by omega) (by omega) (by omega) (by omega) (by omega) (by omega) (by omega), g2 a i (by omega) (by omega) w]
    · rw [z3.1 _ _ (by omega) (by omega) (by omega), k1 _ _ (by omega), gX _ _ (by omega) (by omega) (by omega) (by omega) (by omega) (by omega) (by omega), eh2, gi_sr, gi_siq (by omega), gi_siq (by omega), gi_sr, eh1, gi_siq (by omega), eh0, gi_si, if_pos ⟨rfl, rfl⟩]
    · rw [z3.2.1]
      by_cases w : a = 14 ∧ 0 ≤ i ∧ i < 10
      · rw [w.1, k4 i w.2.1 w.2.2, rmn i w.2.1 w.2.2, rX' 14 i (by omega), r2 14 i (by omega) (by omega)]
      · rw [k3 a i w, rX' a i r, r2 a i p q]
    · rw [z3.2.1, k4 n hn.1 y3, rmn n hn.1 y3, rX' 14 n (by omega)]; exact r214
    · rw [z3.2.1, k3 1 10 (by omega), rX' 1 10 (by omega)]; exact r210
    · rw [z3.2.2, k5, sX, eh2]; show h1.2.2 = _; rw [eh1, eh0]; rfl
  -- both refuse
  have both : ∀ (hX : dm_H) (v : Int), v ≠ -1 → v ≠ 0 → dF (d - 1) 103 [dR 1 10 1] h = dL (d - 1 - 1) 103 108 [lR 1 10 1, lI v] [] hX → (∀ a i, a ≠ 6 → a ≠ 7 → ¬ (a = 2 ∧ i = 6) → ¬ (15 ≤ a ∧ a ≤ 94 ∧ a % 8 = 6) → a ≠ 136 → ¬ (Q ≤ a ∧ a ≤ Q + 16) → ¬ (137 ≤ a ∧ a ≤ 143) → gi hX a i = gi h2 a i) → (∀ a i, ¬ (a = 137 ∨ a = 140 ∨ a = 143) → gr hX a i = gr h2 a i) → hX.2.2 = h2.2.2 →
      (∀ (H2 : dm_H), (∀ a i, ¬ (a = 165 ∧ (i = 0 ∨ i = 16)) → ¬ (a = 174 ∧ i = 10) → a ≠ 183 → a ≠ 184 → 144 ≤ a → gi H2 a i = gi h a i) → gi H2 174 10 = 1 → ∃ H3, dF (d - 1) 230 [dR 1 11 165] H2 = rI v H3 ∧ frF H2 H3) →
      ∃ k h1 v h2 π', dF d 102 [dR 1 10 1, dR 4 1 196] h = rI k h1 ∧ dF d 228 [dR 1 11 165] h1 = rI v h2 ∧ gi h2 165 0 = k ∧ (k = 0 → gl h2 0 = v) ∧ IN0 π' h2 ∧ (frZ2 h h2 ∨ dwnF h2) ∧ rm h h2 ∧ gi h2 13 3 ≤ gi h 13 3 + 1 := by
    intro hX v hv1 hv0 cX gX rX' sX rf
    obtain ⟨hF, z1, z2, z3, z4, z5, z6, z7, z8, z9⟩ := rem hX v hv1 gX rX' sX
    have c3 : dF (d - 1) 103 [dR 1 10 1] h = rI v hF := by rw [cX, z1]
    have es : ∀ a i, 144 ≤ a → gi (sl hF 0 v) a i = gi h a i := fun a i q => z9 a i q
    obtain ⟨H2, o1, o2, o3, o4, o5, o6, o7, o8⟩ := ref (sl hF 0 v) es
    obtain ⟨H3, p1, p2⟩ := rf H2 (fun a i p q r s t => by rw [o2 a i p q r s, es a i t]) o7
    obtain ⟨H5, q1, q2, q3, q4, q5, q6, q7, q8⟩ := refF _ v H2 H3 hv0 es o1 o2 o3 o4 o5 o6 o8 p1 p2
    have q2' : ∀ a i, ¬ (a = 165 ∧ (i = 0 ∨ i = 16 ∨ i = 10 ∨ i = 11 ∨ (27 ≤ i ∧ i ≤ 34))) → ¬ (175 ≤ a ∧ a ≤ 180) → ¬ (183 ≤ a ∧ a ≤ 190) → gi H5 a i = gi hF a i := q2
    have q3' : ∀ a i, gr H5 a i = gr hF a i := q3
    have gg : ∀ a i, ¬ wdA h a i → gi H5 a i = gi h a i := fun a i q => by
      have q0 := q
      unfold wdA at q
      rw [q2' a i (by omega) (by omega) (by omega), z2 a i q0]
    have low5 : ∀ a i, a ≤ 136 → gi H5 a i = gi hF a i := fun a i q => q2' a i (by omega) (by omega) (by omega)
    have eF13 : gi hF 13 1 = n := by rw [z2 13 1 (by unfold wdA; omega)]; exact en
    have eR5 : RLc H5 = RLc hF := RLc_cg2 (low5 _ _ (by omega)) (fun j _ _ => q3' 14 j) (fun j j0 j1 a i p q r => by
      rw [eF13] at j1
      rw [z4 14 j (by omega) (by omega) (by omega)] at p q
      have rr := ru_r (hA j j0 (by omega))
      exact low5 a i (by omega))
    have CH5 : CH H5 := by
      refine ⟨fun r r0 r1 => by rw [low5 _ _ (by omega)]; exact z6.1 r r0 r1, ?_⟩
      rw [eR5]
      have : bh H5 6 = bh hF 6 := by
        funext r q
        unfold bh
        rw [low5 _ _ (by omega)]
      rw [this]; exact z6.2
    have CL5 : CL H5 := by
      unfold CL
      rw [eR5, show gi H5 4 = gi hF 4 from funext (fun i => low5 _ _ (by omega)), show gi H5 7 = gi hF 7 from funext (fun i => low5 _ _ (by omega)), low5 2 6 (by omega)]; exact z7
    obtain ⟨v1, v2⟩ := add_fail I' (by omega) gg (by rw [low5 _ _ (by omega)]; exact z3) q6 q7 (fun a i p q r => by rw [en] at p; rw [q3', z4 a i p q r]) (Or.inr ⟨by rw [q3', en, eD]; exact z5.1, by rw [q3', en, eFr]; exact z5.2⟩) q8 CH5 CL5
    refine ⟨0, _, v, H5, π, w1 _ _ c3, q1, q5, fun _ => ?_, v1, Or.inl v2, ?_, by rw [gg _ _ (by unfold wdA; omega)]; omega⟩
    · show H5.2.2.1 0 = v
      rw [q4]
      exact (gl_sl hF 0 0 v).trans (if_pos rfl)
    · have s4 : H5.2.2.2 = h.2.2.2 := by rw [q4]; show hF.2.2.2 = _; rw [z8]
      unfold rm gz gc gs
      rw [s4]; exact ⟨rfl, Nat.le_succ _, Nat.le_add_right _ _, ct_e (gg _ _ (by unfold wdA; omega)) (gg _ _ (by unfold wdA; omega))⟩
  have frF175 : ∀ {A B : dm_H}, ((∀ a i, a ≠ 175 → gi B a i = gi A a i) ∧ (∀ a i, gr B a i = gr A a i) ∧ B.2.2 = A.2.2) → frF A B := fun q => ⟨fun a i p _ _ => q.1 a i (by omega), q.2.1, q.2.2⟩
  have hkd : ∀ r, 0 ≤ r → r < 6 → 0 ≤ gi h 4 r ∧ gi h 4 r ≤ 2 := fun r r0 r1 => (K.2 r r0 r1).1.2
  -- the class's answer
  obtain ⟨x', h3, t1, t2, t3⟩ := s108c (h := h2) (d := d - 1 - 1) (by omega) K2 C2
  rw [ec2, e24, e22] at t3
  have eK : ∀ {X : dm_H}, frK h2 X → ∀ a i, a ≠ 6 → a ≠ 7 → ¬ (a = 2 ∧ i = 6) → ¬ (15 ≤ a ∧ a ≤ 94 ∧ a % 8 = 6) → a ≠ 136 → ¬ (a = 1 ∧ i = 11) → ¬ (a = D ∧ (i = 0 ∨ i = 7)) → ¬ (a = 13 ∧ i = 1) → gi X a i = gi h a i := fun f a i p q r s t u v w => by rw [f.1 a i p q r s t, g2 a i u v w]
  rcases t3 with ⟨rfl, lay⟩ | ⟨rfl, nl, shr⟩ | ⟨rfl, G3, CH3, CL3⟩
  · -- LAYERLESS
    refine both h3 (-3) (by decide) (by decide) (by rw [c2, t1, bk_v, b103_79, if_neg (by decide)]) (fun a i p q r s t _ _ => t2.1 a i p q r s t) (fun a i _ => t2.2.1 a i) t2.2.2 (fun H2 e t => ?_)
    have rg := refG H2 e t
    obtain ⟨u1, u2, u3⟩ := s230g (H := H2) (d := d - 1) (by omega) (n := gi h 2 0) rg.2.1 rg.1 G1v rg.2.2 (fun r => by rw [e _ _ (by omega) (by omega) (by omega) (by omega) (by omega)]; exact (IR.2.2.1 r).2) hkd
    rcases u3 with ⟨z, _⟩ | ⟨_, z, _⟩ | ⟨z, _⟩
    · exact ⟨u1, z, frF175 u2⟩
    · obtain ⟨u, hu, lu⟩ := lay
      exact absurd lu (z u hu)
    · obtain ⟨u, hu, lu⟩ := lay
      exact absurd lu (z u hu)
  · -- SHRINKING
    refine both h3 (-4) (by decide) (by decide) (by rw [c2, t1, bk_v, b103_79, if_neg (by decide)]) (fun a i p q r s t _ _ => t2.1 a i p q r s t) (fun a i _ => t2.2.1 a i) t2.2.2 (fun H2 e t => ?_)
    have rg := refG H2 e t
    obtain ⟨u1, u2, u3⟩ := s230g (H := H2) (d := d - 1) (by omega) (n := gi h 2 0) rg.2.1 rg.1 G1v rg.2.2 (fun r => by rw [e _ _ (by omega) (by omega) (by omega) (by omega) (by omega)]; exact (IR.2.2.1 r).2) hkd
    rcases u3 with ⟨_, u, hu, lu⟩ | ⟨z, _⟩ | ⟨_, z, _⟩
    · exact absurd lu (nl u hu)
    · exact ⟨u1, z, frF175 u2⟩
    · obtain ⟨u, hu, h0', hs⟩ := shr
      exact absurd (z u hu h0') hs
  -- both look what follows
  have hA2 : ∀ j, 0 ≤ j → j < gi h2 13 1 → ru (gr h2 14 j) := fun j j0 j1 => (C2.2 j j0 j1).1
  have R3 : RLc h3 = RLc h2 := frK_RL hA2 t2
  have e3 : ∀ a i, a ≤ 5 ∨ (8 ≤ a ∧ a ≤ 12) ∨ 95 ≤ a → ¬ (a = 2 ∧ i = 6) → a ≠ 136 → gi h3 a i = gi h2 a i := fun a i p q r => t2.1 a i (by omega) (by omega) q (by omega) r
  have e313 : gi h3 13 1 = n + 1 := by rw [t2.1 _ _ (by omega) (by omega) (by omega) (by omega) (by omega)]; exact e213
  have e33 : ∀ i, gi h3 3 i = gi h 3 i := fun i => by rw [e3 _ _ (by omega) (by omega) (by omega)]; exact e23 i
  have ec3 : cK h3 = cK h := by unfold cK; simp only [e33]
  have e34 : gi h3 4 = gi h 4 := funext (fun i => by rw [e3 _ _ (by omega) (by omega) (by omega)]; exact congrFun e24 i)
  have e32 : gi h3 2 0 = gi h 2 0 := by rw [e3 _ _ (by omega) (by omega) (by omega)]; exact e22
  have K3 : RK h3 := by
    unfold RK
    simp only [e32, e33, show ∀ i, gi h3 4 i = gi h 4 i from fun i => congrFun e34 i, show ∀ i, gi h3 5 i = gi h 5 i from fun i => by rw [e3 _ _ (by omega) (by omega) (by omega)]; exact g2 _ _ (by omega) (by omega) (by omega)]
    exact K
  have C3 : CBS h3 := by
    refine ⟨by rw [e313]; omega, fun j j0 j1 => ?_⟩
    rw [e313] at j1
    rw [t2.2.1]
    have R := C2.2 j j0 (by rw [e213]; exact j1)
    exact RIc_cg R.1 (fun a i p q _ => frK_A R.1 t2 a i p q) (by rw [e32, e22]) (fun i => by rw [e33, e23]) R
  have l3 : fL 9 h3 = fL 9 h := fL_o (fun q i q0 q1 => by rw [e3 _ _ (by omega) (by omega) (by omega)]; exact g2 _ _ (by omega) (by omega) (by omega))
  have e38 : gi h3 8 0 = gi h 8 0 := by rw [e3 _ _ (by omega) (by omega) (by omega)]; exact g2 _ _ (by omega) (by omega) (by omega)
  have F3 : FV h3 := FV_mk (h := h) (H := h3) (m := gi h 8 0) F.1.1 e38 (fun s q => IFc_ok F (by rw [l3] at q; exact q)) e33 e32
  obtain ⟨bb, h4, y1', y2', y3', y4', y5'⟩ := joint (d := d - 1 - 1) (e := d - 1 - 1) (by omega) (by omega) wQ K3 C3 (by rw [ec3, e34, e32, R3]; exact G3) CL3 F3 (gi h 1 12) (-1) (-1)
  rw [ec3, e34, R3] at y4' y5'
  have eft : ftC h3 (gi h 1 12) (-1) (-1) = ftC h (gi h 1 12) (-1) (-1) := by rw [ftC_S, ftC_S, l3, e38]
  have r4 : ∀ a i, ¬ (a = 137 ∨ a = 140 ∨ a = 143) → gr h4 a i = gr h2 a i := fun a i q => by rw [y2'.2.1 a i (by omega) (by omega) (by omega), t2.2.1]
  have s4' : h4.2.2 = h2.2.2 := by rw [y2'.2.2, t2.2.2]
  have c3 : dF (d - 1) 103 [dR 1 10 1] h = dL (d - 1 - 1) 103 102 [lR 1 10 1, lI (-1)] [dI bb] h4 := by
    rw [c2, t1, bk_v, b103_79, if_pos rfl, t2.2.1, r2 1 9 (by omega) (by omega), eQ, e3 1 12 (by omega) (by omega) (by omega), g2 1 12 (by omega) (by omega) (by omega), y1', bk_v]
  have found : ∀ (H2 : dm_H), (∀ a i, ¬ (a = 165 ∧ (i = 0 ∨ i = 16)) → ¬ (a = 174 ∧ i = 10) → a ≠ 183 → a ≠ 184 → 144 ≤ a → gi H2 a i = gi h a i) → gi H2 174 10 = 1 → ∃ H3, dF (d - 1) 230 [dR 1 11 165] H2 = rI (if bb = 0 then -5 else 0) H3 ∧ frF H2 H3 ∧ (bb = 1 → SRT (rW H3) ∧ VW (cK h) (gi h 4) (rW H3) ∧ ∀ r, 0 ≤ r → r < 6 → ∀ c, inW (cW h4 Q) r c ↔ inW (rW H3) r c) := by
    intro H2 e t
    have rg := refG H2 e t
    have HB2 := rg.1
    obtain ⟨h1', u2, u3⟩ := s230g (H := H2) (d := d - 1) (by omega) (n := gi h 2 0) rg.2.1 rg.1 G1v rg.2.2 (fun r => by rw [e _ _ (by omega) (by omega) (by omega) (by omega) (by omega)]; exact (IR.2.2.1 r).2) hkd
    rcases u3 with ⟨_, u, hu, lu⟩ | ⟨_, _, u, hu, h0', hs⟩ | ⟨_, _, z⟩
    · exact absurd lu (G3 u hu).2.1
    · exact absurd ((G3 u hu).2.2 h0') hs
    · have e1' : ∀ a i, ¬ (a = 165 ∧ (i = 0 ∨ i = 16)) → ¬ (a = 174 ∧ i = 10) → a ≠ 183 → a ≠ 184 → a ≠ 175 → 144 ≤ a → gi h1' a i = gi h a i := fun a i p q r s v w => by rw [u2.1 a i v, e a i p q r s w]
      obtain ⟨H3, z1, z2, z3, z4⟩ := y5' h1' _ (fun r => by rw [e1' _ _ (by omega) (by omega) (by omega) (by omega) (by omega) (by omega)]; exact (IR.2.2.1 r).2) (by
        have fv := FVr_of IR F
        unfold FVr at fv ⊢
        simp only [e1' 165 5 (by omega) (by omega) (by omega) (by omega) (by omega) (by omega), show ∀ i, gi h1' 168 i = gi h 168 i from fun i => e1' _ _ (by omega) (by omega) (by omega) (by omega) (by omega) (by omega), show ∀ i, gi h1' 169 i = gi h 169 i from fun i => e1' _ _ (by omega) (by omega) (by omega) (by omega) (by omega) (by omega), show ∀ i, gi h1' 166 i = gi h 166 i from fun i => e1' _ _ (by omega) (by omega) (by omega) (by omega) (by omega) (by omega), show ∀ i, gi h1' 167 i = gi h 167 i from fun i => e1' _ _ (by omega) (by omega) (by omega) (by omega) (by omega) (by omega)]
        exact fv) (HBr_cg (fun i => u2.1 _ _ (by omega)) (fun i => u2.1 _ _ (by omega)) (fun i => u2.1 _ _ (by omega)) (fun i => u2.1 _ _ (by omega)) HB2) (by
        rw [eft]
        refine ft_eq IR F (by rw [e1' _ _ (by omega) (by omega) (by omega) (by omega) (by omega) (by omega)]; exact F.2.2.1) (fun p p0 p1 => ?_) (by rw [e1' _ _ (by omega) (by omega) (by omega) (by omega) (by omega) (by omega)]; exact F.2.2.2.2.2.2.2.1) (by rw [e1' _ _ (by omega) (by omega) (by omega) (by omega) (by omega) (by omega)]; exact F.2.2.2.2.2.2.2.2) (Int.le_refl _)
        have q := F.2.2.2.1 p p0 p1
        rw [e1' _ _ (by omega) (by omega) (by omega) (by omega) (by omega) (by omega), e1' _ _ (by omega) (by omega) (by omega) (by omega) (by omega) (by omega)]
        exact ⟨congrArg (fun t => t.1) q, congrArg (fun t => t.2.1) q⟩)
      exact ⟨H3, z bb H3 z1, frF_trans (frF175 u2) z2, z4⟩
  rcases y3' with rfl | rfl
  · -- TOO_MUCH
    refine both h4 (-5) (by decide) (by decide) (by rw [c3, b103_102, if_pos rfl]) (fun a i p q r s t u v => by rw [y2'.1 a i (by omega) (by omega) v, t2.1 a i p q r s t]) r4 s4' (fun H2 e t => ?_)
    obtain ⟨H3, z1, z2, -⟩ := found H2 e t
    rw [if_pos rfl] at z1
    exact ⟨H3, z1, z2⟩
  · -- it is taken
    obtain ⟨gd, stl⟩ := y4' rfl
    refine add_ok hd I' hN en eD eFr eP eQ y3 y1 w1 g2 r2 r214 r210 e213 (by rw [eh2, gi_sr, gi_siq (by omega), gi_siq (by omega), gi_sr, eh1, gi_siq (by omega), eh0, gi_si, if_pos ⟨rfl, rfl⟩]) (by rw [eh2]; show h1.2.2 = _; rw [eh1, eh0]; rfl) RD2 C2 t2 G3 CH3 CL3 y2' (by rw [eft] at gd; exact gd) stl (by rw [c3, b103_102, if_neg (by decide)]) (fun Hs es => ?_)
    obtain ⟨H2, o1, o2, o3, o4, o5, o6, o7, o8⟩ := ref Hs es
    obtain ⟨H3, z1, z2, z3⟩ := found H2 (fun a i p q r s t => by rw [o2 a i p q r s, es a i t]) o7
    rw [if_neg (by decide)] at z1
    obtain ⟨z3, z4, z5⟩ := z3 rfl
    refine ⟨H3, by rw [o1, z1, bk_v], fun a i p q r s => by rw [z2.1 a i (by omega) (by omega) (by omega), o2 a i (by omega) q (by omega) (by omega)], fun a i => by rw [z2.2.1, o3], by rw [z2.2.2, o4], by rw [z2.1 _ _ (by omega) (by omega) (by omega)]; exact o5, by rw [z2.1 _ _ (by omega) (by omega) (by omega)]; exact o6, eqW_trans o8 (fun r _ _ => ⟨by show gi H3 184 r = gi H2 184 r; rw [z2.1 _ _ (by omega) (by omega) (by omega)], fun y _ _ => by show gi H3 183 _ = gi H2 183 _; rw [z2.1 _ _ (by omega) (by omega) (by omega)]⟩), z3, z4, z5⟩
end OAD
