/-! THE CALL add: the rule is taken -/
section AOK
variable {h : dm_H} {π : Int → Int}
theorem add_ok {d : Nat} (hd : 16 ≤ d) (I : IN0 π h) (hN : gi h 13 3 ≤ 2000000000) {n : Int} {D Fr P Q : Nat} (en : gi h 13 1 = n) (eD : gr h 1 10 = D) (eFr : gr h 14 n = Fr) (eP : gr h 1 8 = P) (eQ : gr h 1 9 = Q) (n9 : n < 10) (y1 : gi h 1 11 = 1) (w1 : ∀ v h', dF (d - 1) 103 [dR 1 10 1] h = rI v h' → dF d 102 [dR 1 10 1, dR 4 1 196] h = rI 0 (sl h' 0 v))
    {h2 h3 h4 : dm_H} (g2 : ∀ a i, ¬ (a = 1 ∧ i = 11) → ¬ (a = D ∧ (i = 0 ∨ i = 7)) → ¬ (a = 13 ∧ i = 1) → gi h2 a i = gi h a i) (r2 : ∀ a i, ¬ (a = 14 ∧ i = n) → ¬ (a = 1 ∧ i = 10) → gr h2 a i = gr h a i) (r214 : gr h2 14 n = D) (r210 : gr h2 1 10 = Fr) (e213 : gi h2 13 1 = n + 1) (e211 : gi h2 1 11 = 0) (s2 : h2.2.2 = h.2.2)
    (RD2 : RIc D h2) (C2 : CBS h2) (t2 : frK h2 h3) (G3 : GOOD (cK h) (gi h 4) (gi h 2 0) (RLc h2)) (CH3 : CH h3) (CL3 : CL h3) (y2 : frS Q h3 h4) (gd : gds (cK h) (gi h 4) (gi h3 7) (ftC h (gi h 1 12) (-1) (-1)) (RLc h2) 12 (cW h4 Q)) (stl : still h4 Q)
    (c3 : dF (d - 1) 103 [dR 1 10 1] h = dL (d - 1 - 1) 103 108 [lR 1 10 1, lI (-1)] [] h4)
    (ref : ∀ (Hs : dm_H), (∀ a i, 144 ≤ a → gi Hs a i = gi h a i) → ∃ H3, dF d 228 [dR 1 11 165] Hs = dL (d - 1) 228 65 [lR 1 11 165, none, none, none] [dI 0] H3 ∧ (∀ a i, ¬ (a = 165 ∧ (i = 0 ∨ i = 16 ∨ (27 ≤ i ∧ i ≤ 34))) → ¬ (a = 174 ∧ i = 10) → ¬ (175 ≤ a ∧ a ≤ 180) → ¬ (183 ≤ a ∧ a ≤ 190) → gi H3 a i = gi Hs a i) ∧ (∀ a i, gr H3 a i = gr Hs a i) ∧ H3.2.2 = Hs.2.2 ∧ gi H3 165 0 = 0 ∧ gi H3 165 16 = 0 ∧ eqW (rW h) (aW H3) ∧ SRT (rW H3) ∧ VW (cK h) (gi h 4) (rW H3) ∧ ∀ r, 0 ≤ r → r < 6 → ∀ c, inW (cW h4 Q) r c ↔ inW (rW H3) r c) :
    ∃ k h1 v h2 π', dF d 102 [dR 1 10 1, dR 4 1 196] h = rI k h1 ∧ dF d 228 [dR 1 11 165] h1 = rI v h2 ∧ gi h2 165 0 = k ∧ (k = 0 → gl h2 0 = v) ∧ IN0 π' h2 ∧ (frZ2 h h2 ∨ dwnF h2) ∧ rm h h2 ∧ gi h2 13 3 ≤ gi h 13 3 + 1 := by
  have I' := I
  obtain ⟨IR, ID, B, J0, NM, G, HH, L, F, W⟩ := I
  have hn := B.1
  rw [en] at hn
  have K := IR.1
  have n6 := K.1
  obtain ⟨⟨wP, wQ, wPQ⟩, W2, W3, W4, W5, W6, W7⟩ := W
  rw [eP] at wP wPQ W2 W3 W4 W6 W7
  rw [eQ] at wQ wPQ
  have qP : P = 95 ∨ P = 112 := wP
  have qQ : Q = 95 ∨ Q = 112 := wQ
  have rD : ru D := by rw [← eD]; exact ID.2.2.1
  have rD' := ru_r rD
  obtain ⟨DD, DS, DX⟩ := ID.2.2.2 y1
  rw [eD] at DD DS DX
  have hA : ∀ j, 0 ≤ j → j < 10 → ru (gr h 14 j) := B.2.1.1
  have hne : ∀ j, 0 ≤ j → j < 10 → gr h 14 j ≠ D := by rw [← eD]; exact B.2.1.2.2
  have rF : ru Fr := by rw [← eFr]; exact hA n hn.1 n9
  have hFD : Fr ≠ D := by rw [← eFr]; exact hne n hn.1 n9
  have hrz : ∀ r, 0 ≤ r → r < 6 → 0 ≤ gi h 178 r ∧ gi h 178 r ≤ 32 := fun r r0 r1 => by
    have e : gi h 178 r = (cW h P).1 r := (W3 r r0 r1).1
    rw [e]; exact (W7.1 r r0 r1).1
  obtain ⟨N, eN⟩ : ∃ N, gi h 13 3 = N := ⟨_, rfl⟩
  obtain ⟨NM1, NM2, NM3⟩ := NM
  rw [eN] at NM1 NM2
  rw [eN] at hN
  -- frames, up to h4
  have g4 : ∀ a i, a ≠ 6 → a ≠ 7 → ¬ (a = 2 ∧ i = 6) → ¬ (15 ≤ a ∧ a ≤ 94 ∧ a % 8 = 6) → a ≠ 136 → ¬ (Q ≤ a ∧ a ≤ Q + 16) → ¬ (137 ≤ a ∧ a ≤ 143) → ¬ (a = 1 ∧ i = 11) → ¬ (a = D ∧ (i = 0 ∨ i = 7)) → ¬ (a = 13 ∧ i = 1) → gi h4 a i = gi h a i := fun a i p q r s t u v w x z => by rw [y2.1 a i (by omega) (by omega) v, t2.1 a i p q r s t, g2 a i w x z]
  have g42 : ∀ a i, a ≠ 6 → a ≠ 7 → ¬ (a = 2 ∧ i = 6) → ¬ (15 ≤ a ∧ a ≤ 94 ∧ a % 8 = 6) → a ≠ 136 → ¬ (Q ≤ a ∧ a ≤ Q + 16) → ¬ (137 ≤ a ∧ a ≤ 143) → gi h4 a i = gi h2 a i := fun a i p q r s t u v => by rw [y2.1 a i (by omega) (by omega) v, t2.1 a i p q r s t]
  have r4 : ∀ a i, ¬ (a = 137 ∨ a = 140 ∨ a = 143) → gr h4 a i = gr h2 a i := fun a i q => by rw [y2.2.1 a i (by omega) (by omega) (by omega), t2.2.1]
  have hUr : ∀ u, RLc h2 u → 0 ≤ u.2.1 ∧ u.2.1 < gi h 2 0 := fun u hu => (G3 u hu).1.2.1
  have hz : ∀ r, gi h 2 0 ≤ r → r < 6 → rsz h4 Q r = 0 := fun r r0 r1 => gds_none gd (by omega) r1 ⟨CL3.1.1.1 r (by omega) r1, by have := CL3.2.1 r (by omega) r1; have := CL3.2.2; omega⟩ (fun c ⟨p, p0, p1, _, _, _, p5, _⟩ => by
    have := (F.1.2 p p0 p1).1
    omega) (fun u hu => by have := hUr u hu; omega)
  -- the class takes the rows over and numbers the rule
  obtain ⟨gP, h5, u1, u2, ⟨u3, u4⟩, u5, u6, u7, u8, u9, u10, u11, u12, u13⟩ := takeF (h2 := h4) (d := d - 1 - 1) (by omega) I' eQ (g4 _ _ (by omega) (by omega) (by omega) (by omega) (by omega) (by omega) (by omega) (by omega) (by omega) (by omega)) ⟨by rw [r4 _ _ (by omega), r2 _ _ (by omega) (by omega)], by rw [r4 _ _ (by omega), r2 _ _ (by omega) (by omega)]⟩ (fun a i p q => g4 a i (by omega) (by omega) (by omega) (by omega) (by omega) (by omega) (by omega) (by omega) (by omega) (by omega)) gd.1 hz
  rw [eP] at gP u4 u10 u11
  have e513 : gi h5 13 1 = n + 1 := by rw [u2 _ _ (by omega) (by omega), g42 _ _ (by omega) (by omega) (by omega) (by omega) (by omega) (by omega) (by omega)]; exact e213
  have e533 : gi h5 13 3 = N := by rw [u2 _ _ (by omega) (by omega), g4 _ _ (by omega) (by omega) (by omega) (by omega) (by omega) (by omega) (by omega) (by omega) (by omega) (by omega)]; exact eN
  have r514 : gr h5 14 n = D := by rw [u5 _ _ (by omega), r4 _ _ (by omega)]; exact r214
  obtain ⟨h6, eh6⟩ : ∃ h6, h6 = si (si h5 D 0 N) 13 3 (N + 1) := ⟨_, rfl⟩
  have c4 : dF (d - 1) 103 [dR 1 10 1] h = rI N h6 := by
    rw [c3, b103_108, if_pos rfl, u1, bk_n, b103_135, f122 (by omega), b122_0, e513, if_pos (by omega), ck_p (by omega) (by omega), show n + 1 - 1 = n by omega, ix_p hn.1 n9, r514, e533, gi_siq (by omega), e533, ck_p (by omega) (by omega), ← eh6, b122_35, show gi h6 13 3 = N + 1 by rw [eh6, gi_si, if_pos ⟨rfl, rfl⟩], ck_p (by omega) (by omega), show N + 1 - 1 = N by omega, bk_v, b103_142]
  have g6 : ∀ a i, ¬ (a = D ∧ i = 0) → ¬ (a = 13 ∧ i = 3) → ¬ (Q + 3 ≤ a ∧ a ≤ Q + 8) → ¬ (a = 1 ∧ 13 ≤ i ∧ i ≤ 16) → gi h6 a i = gi h4 a i := fun a i p q r s => by rw [eh6, gi_siq q, gi_siq p, u2 a i r s]
  have g6h : ∀ a i, 144 ≤ a → gi h6 a i = gi h a i := fun a i p => by rw [g6 a i (by omega) (by omega) (by omega) (by omega), g4 _ _ (by omega) (by omega) (by omega) (by omega) (by omega) (by omega) (by omega) (by omega) (by omega) (by omega)]
  have r6 : ∀ a i, gr h6 a i = gr h5 a i := fun a i => by rw [eh6, gr_si, gr_si]
  -- the reference
  obtain ⟨H3, o1, o2, o3, o4, o5, o6, o7, o8, o9, o10⟩ := ref (sl h6 0 N) g6h
  have o2' : ∀ a i, ¬ (a = 165 ∧ (i = 0 ∨ i = 16 ∨ (27 ≤ i ∧ i ≤ 34))) → ¬ (a = 174 ∧ i = 10) → ¬ (175 ≤ a ∧ a ≤ 180) → ¬ (183 ≤ a ∧ a ≤ 190) → gi H3 a i = gi h6 a i := o2
  obtain ⟨H4, eH4⟩ : ∃ H4, H4 = si H3 174 10 0 := ⟨_, rfl⟩
  have gH4 : ∀ a i, ¬ (a = 165 ∧ (i = 0 ∨ i = 16 ∨ (27 ≤ i ∧ i ≤ 34))) → ¬ (175 ≤ a ∧ a ≤ 180) → ¬ (183 ≤ a ∧ a ≤ 190) → gi H4 a i = gi h6 a i := fun a i p q r => by
    by_cases z : a = 174 ∧ i = 10
    · rw [eH4, gi_si, if_pos z, z.1, z.2, g6h _ _ (by omega)]; exact J0.symm
    · rw [eH4, gi_siq z, o2' a i p z q r]
  have e174 : ∀ p, gi H4 174 p = gi h 174 p := fun p => by rw [gH4 _ _ (by omega) (by omega) (by omega), g6h _ _ (by omega)]
  have ex : ∃ y, 0 ≤ y ∧ y < 10 ∧ gi H4 174 y = 0 := by
    have := rules_n B J0 (H := H4) e174
    exact rcF_ex (gi H4 174) 10 (by rw [this, en]; exact n9)
  obtain ⟨p, hp, p0, p1⟩ := p228f (H := H4) (d := d - 1) (lI 0) none 10 0 (by omega) (by omega) ex
  rw [e174] at p0
  have hπ : ∀ j, 0 ≤ j → j < n → π j ≠ p := fun j j0 j1 e => (B.2.2.1 j j0 (by omega)).2.2.2.2.1 (by rw [e]; exact p0)
  have cp := p228c (H := H4) (d := d - 1) hp (lI 0) 38 0 (by omega) (by omega)
  rw [cpD_0] at cp
  obtain ⟨H6, eH6⟩ : ∃ H6, H6 = cpD H4 p 38 := ⟨_, rfl⟩
  rw [← eH6] at cp
  have gH6 : ∀ a i, ¬ (a = 172 ∧ 38 * p ≤ i ∧ i < 38 * p + 38) → gi H6 a i = gi H4 a i := fun a i q => by rw [eH6, gi_cpD, if_neg q]
  have gH6c : ∀ k, 0 ≤ k → k < 38 → gi H6 172 (38 * p + k) = gi h 172 (38 * 10 + k) := fun k k0 k1 => by
    rw [eH6, gi_cpD, if_pos (by omega), gH4 _ _ (by omega) (by omega) (by omega), g6h _ _ (by omega), show 380 + (38 * p + k - 38 * p) = 38 * 10 + k by omega]
  have e15 : gi H6 165 15 = N := by rw [gH6 _ _ (by omega), gH4 _ _ (by omega) (by omega) (by omega), g6h _ _ (by omega)]; exact NM1
  obtain ⟨H7, eH7⟩ : ∃ H7, H7 = si (si (si H6 174 p 1) 173 p N) 165 15 (N + 1) := ⟨_, rfl⟩
  have gH7 : ∀ a i, ¬ (a = 172 ∧ 38 * p ≤ i ∧ i < 38 * p + 38) → ¬ (a = 174 ∧ i = p) → ¬ (a = 173 ∧ i = p) → ¬ (a = 165 ∧ i = 15) → gi H7 a i = gi H4 a i := fun a i q r s t => by rw [eH7, gi_siq t, gi_siq s, gi_siq r, gH6 a i q]
  have ea7 : eqW (rW h) (aW H7) := eqW_trans o7 (fun r _ _ => ⟨by show gi H7 184 r = gi H3 184 r; rw [gH7 _ _ (by omega) (by omega) (by omega) (by omega), eH4, gi_sin (by omega)], fun y _ _ => by show gi H7 183 _ = gi H3 183 _; rw [gH7 _ _ (by omega) (by omega) (by omega) (by omega), eH4, gi_sin (by omega)]⟩)
  obtain ⟨H8, v1, v2, v3, v4, v5, v6⟩ := s213 (h := H7) (d := d - 1) (by omega) (fun r r0 r1 => by
    have e : gi H7 184 r = gi h 178 r := (ea7 r r0 r1).1
    rw [e]; exact hrz r r0 r1)
  have e815 : gi H8 165 15 = N + 1 := by rw [v2 _ _ (by omega) (by omega) (by omega), eH7, gi_si, if_pos ⟨rfl, rfl⟩]
  have c5 : dF d 228 [dR 1 11 165] (sl h6 0 N) = rI N H8 := by
    rw [o1, b228_65, ix_p (by omega) (by omega), z1_p (Or.inl rfl), if_pos rfl, ← eH4, p1, cp, b228_103, if_neg (by omega), ix_p hp.1 (by omega), z1_p (Or.inr rfl), ix_p hp.1 (by omega), gi_siq (by omega), show gi (si H6 174 p 1) 165 15 = N by (rw [gi_siq (by omega)]; exact e15), ck_p (by omega) (by omega), ← eH7, v1, bk_n, b228_167, e815, ck_p (by omega) (by omega), show N + 1 - 1 = N by omega]
  -- frames of the last heap
  have g8 : ∀ a i, ¬ (a = 172 ∧ 38 * p ≤ i ∧ i < 38 * p + 38) → ¬ (a = 174 ∧ i = p) → ¬ (a = 173 ∧ i = p) → ¬ (a = 165 ∧ (i = 0 ∨ i = 15 ∨ i = 16 ∨ (27 ≤ i ∧ i ≤ 34) ∨ i = 44)) → ¬ (175 ≤ a ∧ a ≤ 190) → gi H8 a i = gi h6 a i := fun a i q r s t u => by rw [v2 a i (by omega) (by omega) (by omega), gH7 a i q r s (by omega), gH4 a i (by omega) (by omega) (by omega)]
  have g84 : ∀ a i, a ≤ 136 → ¬ (a = D ∧ i = 0) → ¬ (a = 13 ∧ i = 3) → ¬ (Q + 3 ≤ a ∧ a ≤ Q + 8) → ¬ (a = 1 ∧ 13 ≤ i ∧ i ≤ 16) → gi H8 a i = gi h4 a i := fun a i p' q r s t => by rw [g8 a i (by omega) (by omega) (by omega) (by omega) (by omega), g6 a i q r s t]
  have g83 : ∀ a i, a ≤ 136 → ¬ (a = D ∧ i = 0) → ¬ (a = 13 ∧ i = 3) → ¬ (Q ≤ a ∧ a ≤ Q + 16) → ¬ (a = 1 ∧ 13 ≤ i ∧ i ≤ 16) → gi H8 a i = gi h3 a i := fun a i p' q r s t => by rw [g84 a i p' q r (by omega) t, y2.1 a i (by omega) (by omega) (by omega)]
  have g8h : ∀ a i, a ≤ 136 → a ≠ 6 → a ≠ 7 → ¬ (a = 2 ∧ i = 6) → ¬ (15 ≤ a ∧ a ≤ 94 ∧ a % 8 = 6) → a ≠ 136 → ¬ (Q ≤ a ∧ a ≤ Q + 16) → ¬ (a = 1 ∧ (i = 11 ∨ (13 ≤ i ∧ i ≤ 16))) → ¬ (a = D ∧ (i = 0 ∨ i = 7)) → ¬ (a = 13 ∧ (i = 1 ∨ i = 3)) → gi H8 a i = gi h a i := fun a i o p' q r s t u v w x => by rw [g84 a i o (by omega) (by omega) (by omega) (by omega), g4 a i p' q r s t u (by omega) (by omega) w (by omega)]
  have g8hi : ∀ a i, 144 ≤ a → ¬ (a = 172 ∧ 38 * p ≤ i ∧ i < 38 * p + 38) → ¬ (a = 174 ∧ i = p) → ¬ (a = 173 ∧ i = p) → ¬ (a = 165 ∧ (i = 0 ∨ i = 15 ∨ i = 16 ∨ (27 ≤ i ∧ i ≤ 34) ∨ i = 44)) → ¬ (175 ≤ a ∧ a ≤ 190) → gi H8 a i = gi h a i := fun a i o q r s t u => by rw [g8 a i q r s t u, g6h a i o]
  have r8 : ∀ a i, ¬ (a = 1 ∧ (i = 8 ∨ i = 9)) → ¬ (a = 137 ∨ a = 140 ∨ a = 143) → gr H8 a i = gr h2 a i := fun a i q r => by
    rw [v3, eH7, gr_si, gr_si, gr_si, eH6]
    show gr H4 a i = _
    rw [eH4, gr_si, o3]
    show gr h6 a i = _
    rw [r6, u5 a i q, r4 a i r]
  have r89 : gr H8 1 8 = Q ∧ gr H8 1 9 = P := by
    have e : ∀ i, gr H8 1 i = gr h5 1 i := fun i => by
      rw [v3, eH7, gr_si, gr_si, gr_si, eH6]
      show gr H4 1 i = _
      rw [eH4, gr_si, o3]
      exact r6 1 i
    rw [e, e]; exact ⟨u3, u4⟩
  have s8 : H8.2.2 = (sl h6 0 N).2.2 := by
    rw [v4, eH7]
    show H6.2.2 = _
    rw [eH6]
    show H4.2.2 = _
    rw [eH4]
    exact o4
  have s6 : h6.2.2 = h.2.2 := by rw [eh6]; show h5.2.2 = _; rw [u6, y2.2.2, t2.2.2, s2]
  -- the invariant
  have e83 : ∀ i, gi H8 3 i = gi h 3 i := fun i => g8h _ _ (by omega) (by omega) (by omega) (by omega) (by omega) (by omega) (by omega) (by omega) (by omega) (by omega)
  have ec8 : cK H8 = cK h := by unfold cK; simp only [e83]
  have e84 : gi H8 4 = gi h 4 := funext (fun i => g8h _ _ (by omega) (by omega) (by omega) (by omega) (by omega) (by omega) (by omega) (by omega) (by omega) (by omega))
  have e82 : gi H8 2 0 = gi h 2 0 := g8h _ _ (by omega) (by omega) (by omega) (by omega) (by omega) (by omega) (by omega) (by omega) (by omega) (by omega)
  have e813 : gi H8 13 1 = n + 1 := by rw [g84 _ _ (by omega) (by omega) (by omega) (by omega) (by omega), g42 _ _ (by omega) (by omega) (by omega) (by omega) (by omega) (by omega) (by omega)]; exact e213
  have e8133 : gi H8 13 3 = N + 1 := by rw [g8 _ _ (by omega) (by omega) (by omega) (by omega) (by omega), eh6, gi_si, if_pos ⟨rfl, rfl⟩]
  have hA2 : ∀ j, 0 ≤ j → j < n + 1 → ru (gr h2 14 j) := fun j j0 j1 => (C2.2 j j0 (by rw [e213]; exact j1)).1
  have eA8 : ∀ j, 0 ≤ j → j < n → ∀ a i, gr h 14 j ≤ a → a ≤ gr h 14 j + 6 → gi H8 a i = gi h a i := fun j j0 j1 a i p' q => by
    have r := ru_r (hA j j0 (by omega))
    have nn := hne j j0 (by omega)
    exact g8h a i (by omega) (by omega) (by omega) (by omega) (by omega) (by omega) (by omega) (by omega) (by omega) (by omega)
  have eD8 : ∀ a i, D ≤ a → a ≤ D + 6 → ¬ (a = D ∧ i = 0) → gi H8 a i = gi h2 a i := fun a i p' q r => by rw [g84 a i (by omega) r (by omega) (by omega) (by omega), g42 a i (by omega) (by omega) (by omega) (by omega) (by omega) (by omega) (by omega)]
  have eR8 : RLc H8 = RLc h2 := RLc_cg2 (by rw [e813, e213]) (fun j j0 j1 => r8 14 j (by omega) (by omega)) (fun j j0 j1 a i p' q r => by
    rw [e213] at j1
    by_cases z : j = n
    · rw [z, r214] at p' q r
      exact eD8 a i p' (by omega) (by omega)
    · rw [r2 14 j (by omega) (by omega)] at p' q r
      have rr := ru_r (hA j j0 (by omega))
      have nn := hne j j0 (by omega)
      rw [eA8 j j0 (by omega) a i p' (by omega), g2 a i (by omega) (by omega) (by omega)])
  have eR3 : RLc h3 = RLc h2 := frK_RL (fun j j0 j1 => hA2 j j0 (by rw [e213] at j1; exact j1)) t2
  have IR8 : IRel H8 := IRel_cg e82 (fun a i q => by
    rcases q with q | q | q | q | q
    · exact g8h _ _ (by omega) (by omega) (by omega) (by omega) (by omega) (by omega) (by omega) (by omega) (by omega) (by omega)
    · exact g8h _ _ (by omega) (by omega) (by omega) (by omega) (by omega) (by omega) (by omega) (by omega) (by omega) (by omega)
    · exact g8h _ _ (by omega) (by omega) (by omega) (by omega) (by omega) (by omega) (by omega) (by omega) (by omega) (by omega)
    · exact g8hi _ _ (by omega) (by omega) (by omega) (by omega) (by omega) (by omega)
    · exact g8hi _ _ (by omega) (by omega) (by omega) (by omega) (by omega) (by omega)) (g8hi _ _ (by omega) (by omega) (by omega) (by omega) (by omega) (by omega)) IR
  have L8 : CL H8 := by
    unfold CL
    rw [eR8, ← eR3, show gi H8 4 = gi h3 4 from funext (fun i => g83 _ _ (by omega) (by omega) (by omega) (by omega) (by omega)), show gi H8 7 = gi h3 7 from funext (fun i => g83 _ _ (by omega) (by omega) (by omega) (by omega) (by omega)), g83 2 6 (by omega) (by omega) (by omega) (by omega) (by omega)]
    exact CL3
  have H8' : CH H8 := by
    refine ⟨fun r r0 r1 => by rw [g83 _ _ (by omega) (by omega) (by omega) (by omega) (by omega)]; exact CH3.1 r r0 r1, ?_⟩
    rw [eR8, ← eR3]
    have : bh H8 6 = bh h3 6 := by
      funext r q
      unfold bh
      rw [g83 _ _ (by omega) (by omega) (by omega) (by omega) (by omega)]
    rw [this]; exact CH3.2
  have G8 : GOOD (cK H8) (gi H8 4) (gi H8 2 0) (RLc H8) := by rw [ec8, e84, e82, eR8]; exact G3
  have e12 : gi H8 1 12 = gi h 1 12 := g8h _ _ (by omega) (by omega) (by omega) (by omega) (by omega) (by omega) (by omega) (by omega) (by omega) (by omega)
  have F8 : IFc H8 := IFc_cg (fun a i q => by
    rcases q with q | q | q
    · exact g8h _ _ (by omega) (by omega) (by omega) (by omega) (by omega) (by omega) (by omega) (by omega) (by omega) (by omega)
    · exact g8h _ _ (by omega) (by omega) (by omega) (by omega) (by omega) (by omega) (by omega) (by omega) (by omega) (by omega)
    · exact g8hi _ _ (by omega) (by omega) (by omega) (by omega) (by omega) (by omega)) e82 e12 (fun i q => g8hi _ _ (by omega) (by omega) (by omega) (by omega) (by omega) (by omega)) F
  have l9 : fL 9 H8 = fL 9 h := fL_o (fun q i q0 q1 => g8h _ _ (by omega) (by omega) (by omega) (by omega) (by omega) (by omega) (by omega) (by omega) (by omega) (by omega))
  have e88 : gi H8 8 0 = gi h 8 0 := g8h _ _ (by omega) (by omega) (by omega) (by omega) (by omega) (by omega) (by omega) (by omega) (by omega) (by omega)
  have e87 : gi H8 7 = gi h3 7 := funext (fun i => g83 _ _ (by omega) (by omega) (by omega) (by omega) (by omega))
  have W8 : IRw H8 := by
    refine IRw_new (h := h) (h2 := h4) (h3 := h5) (P := P) (Q := Q) (ft := ftC h (gi h 1 12) (-1) (-1)) (W := rW H3) wP wQ wPQ IR8 G8 L8 F8.1 e82 (fun r r0 r1 => (W7.1 r r0 r1).1) W3 (by rw [ec8, e84, e87, eR8]; exact gd) ?_ hz gP u7 u8 u9 u10 u11 r89 (cW_far wQ (fun a i p' q => ?_)) ?_ ?_ (eqW_trans ea7 v5) (rW_same (fun i => ?_) (fun i => ?_)) o8 (by rw [ec8, e84]; exact o9) o10
    · rw [ftC_S, ftC_S, l9, e88, e12]
    · rw [g8 a i (by omega) (by omega) (by omega) (by omega) (by omega), eh6, gi_siq (by omega), gi_siq (by omega)]
    · rw [g8 _ _ (by omega) (by omega) (by omega) (by omega) (by omega), eh6, gi_siq (by omega), gi_siq (by omega)]
    · rw [g8 _ _ (by omega) (by omega) (by omega) (by omega) (by omega), eh6, gi_siq (by omega), gi_siq (by omega)]
    · rw [v2 _ _ (by omega) (by omega) (by omega), gH7 _ _ (by omega) (by omega) (by omega) (by omega), eH4, gi_sin (by omega)]
    · rw [v2 _ _ (by omega) (by omega) (by omega), gH7 _ _ (by omega) (by omega) (by omega) (by omega), eH4, gi_sin (by omega)]
  have e8p : gi H8 174 p = 1 := by rw [v2 _ _ (by omega) (by omega) (by omega), eH7, gi_siq (by omega), gi_siq (by omega), gi_si, if_pos ⟨rfl, rfl⟩]
  have e8q : gi H8 173 p = N := by rw [v2 _ _ (by omega) (by omega) (by omega), eH7, gi_siq (by omega), gi_si, if_pos ⟨rfl, rfl⟩]
  have e174' : ∀ q, q ≠ p → gi H8 174 q = gi h 174 q := fun q w => g8hi _ _ (by omega) (by omega) (fun z => w z.2) (by omega) (by omega) (by omega)
  have e173' : ∀ q, q ≠ p → gi H8 173 q = gi h 173 q := fun q w => g8hi _ _ (by omega) (by omega) (by omega) (fun z => w z.2) (by omega) (by omega)
  have e166 : ∀ i, gi H8 166 i = gi h 166 i := fun i => g8hi _ _ (by omega) (by omega) (by omega) (by omega) (by omega) (by omega)
  have gc8 : ∀ k, 0 ≤ k → k < 38 → gi H8 172 (38 * p + k) = gi h 172 (38 * 10 + k) := fun k k0 k1 => by rw [v2 _ _ (by omega) (by omega) (by omega), eH7, gi_siq (by omega), gi_siq (by omega), gi_siq (by omega)]; exact gH6c k k0 k1
  have r814 : ∀ j, gr H8 14 j = gr h2 14 j := fun j => r8 14 j (by omega) (by omega)
  have r810 : gr H8 1 10 = Fr := by rw [r8 _ _ (by omega) (by omega)]; exact r210
  have nD8 : gi H8 D 0 = N := by rw [g8 _ _ (by omega) (by omega) (by omega) (by omega) (by omega), eh6, gi_siq (by omega), gi_si, if_pos ⟨rfl, rfl⟩]
  have RD8 : RIc D H8 := RIc_cg rD eD8 (by rw [e82, g2 _ _ (by omega) (by omega) (by omega)]) (fun i => by rw [e83, g2 _ _ (by omega) (by omega) (by omega)]) RD2
  have B8 : BKS (fun j => if j = n then p else π j) H8 := by
    have B' := B
    obtain ⟨b1, ⟨b2, b3, b4⟩, b5, b6, b7, b8⟩ := B
    rw [en] at b5 b6 b7
    refine ⟨by rw [e813]; omega, ⟨fun j j0 j1 => ?_, fun i j i0 ij j1 => ?_, fun j j0 j1 => ?_⟩, fun j j0 j1 => ?_, fun i j i0 ij j1 => ?_, fun q q0 q1 w => ?_, fun q q0 q1 => ?_⟩
    · rw [r814]
      by_cases z : j = n
      · rw [z, r214]; exact rD
      · rw [r2 _ _ (fun w => z w.2) (by omega)]; exact b2 j j0 j1
    · rw [r814, r814]
      by_cases zi : i = n
      · rw [zi, r214, r2 14 j (by omega) (by omega)]
        exact fun e => hne j (by omega) j1 e.symm
      · rw [r2 14 i (by omega) (by omega)]
        by_cases zj : j = n
        · rw [zj, r214]; exact hne i i0 (by omega)
        · rw [r2 14 j (by omega) (by omega)]; exact b3 i j i0 ij j1
    · rw [r814, r810]
      by_cases z : j = n
      · rw [z, r214]; exact fun e => hFD e.symm
      · rw [r2 _ _ (fun w => z w.2) (by omega), ← eFr]; exact addr_ne B' ⟨j0, j1⟩ ⟨hn.1, n9⟩ z
    · rw [e813] at j1
      rw [r814]
      by_cases z : j = n
      · show RIN (gr h2 14 j) (if j = n then p else π j) H8
        rw [if_pos z, z, r214]
        have e4v : gi H8 D 4 = gi h D 4 := by rw [eD8 _ _ (by omega) (by omega) (by omega), g2 _ _ (by omega) (by omega) (by omega)]
        refine ⟨rD, RD8.2.1, RD8.2.2.1, RD8.2.2.2, by rw [e8p]; decide, SR_cp (p := 10) (by omega) (fun a i p' q r => by rw [eD8 a i p' (by omega) (by omega), g2 a i (by omega) (by omega) (by omega)]) gc8 e166 DS DD.2.1.2, ?_⟩
        rw [e4v]
        exact RX_cp (p := 10) gc8 DD.2.1.2 DX
      · show RIN (gr h2 14 j) (if j = n then p else π j) H8
        rw [if_neg z, r2 14 j (fun w => z w.2) (by omega)]
        obtain ⟨r1', r2', r3', r4', r5', r6', r7'⟩ := b5 j j0 (by omega)
        have eAv := eA8 j j0 (by omega)
        have hpj := hπ j j0 (by omega)
        have c := RIc_cg (h := h) (h' := H8) r1' (fun a i p' q _ => eAv a i p' q) e82 e83 ⟨r1', r2', r3', r4'⟩
        have e172 : ∀ i, 38 * π j ≤ i → i < 38 * π j + 38 → gi H8 172 i = gi h 172 i := fun i i0 i1 => g8hi _ _ (by omega) (by omega) (by omega) (by omega) (by omega) (by omega)
        refine ⟨r1', c.2.1, c.2.2.1, c.2.2.2, by rw [e174' _ hpj]; exact r5', SR_cg (fun a i p' q _ => eAv a i p' (by omega)) e172 e166 r6' r2'.2.1.2, ?_⟩
        rw [eAv _ _ (by omega) (by omega)]
        exact RX_cg e172 r2'.2.1.2 r7'
    · rw [e813] at j1
      show (if i = n then p else π i) ≠ (if j = n then p else π j)
      rw [if_neg (show i ≠ n by omega)]
      by_cases z : j = n
      · rw [if_pos z]; exact hπ i i0 (by omega)
      · rw [if_neg z]; exact b6 i j i0 ij (by omega)
    · by_cases z : q = p
      · exact ⟨n, hn.1, by rw [e813]; omega, by show (if n = n then p else π n) = q; rw [if_pos rfl, z]⟩
      · rw [e174' q z] at w
        obtain ⟨j, j0, j1, j2⟩ := b7 q q0 q1 w
        exact ⟨j, j0, by rw [e813]; omega, by show (if j = n then p else π j) = q; rw [if_neg (by omega)]; exact j2⟩
    · by_cases z : q = p
      · rw [z]; exact Or.inr e8p
      · rw [e174' q z]; exact b8 q q0 q1
  have N8 : INm (fun j => if j = n then p else π j) H8 := by
    unfold INm
    rw [e815, e8133, e813]
    refine ⟨rfl, by omega, fun j j0 j1 => ?_⟩
    rw [r814]
    have old : ∀ i, 0 ≤ i → i < n → gi H8 (gr h2 14 i) 0 = gi h (gr h 14 i) 0 := fun i i0 i1 => by
      rw [r2 14 i (by omega) (by omega)]; exact eA8 i i0 i1 _ _ (by omega) (by omega)
    by_cases z : j = n
    · show (0 ≤ gi H8 (gr h2 14 j) 0 ∧ gi H8 (gr h2 14 j) 0 < N + 1) ∧ gi H8 173 (if j = n then p else π j) = gi H8 (gr h2 14 j) 0 ∧ ∀ i, 0 ≤ i → i < j → gi H8 (gr H8 14 i) 0 < gi H8 (gr h2 14 j) 0
      rw [if_pos z, z, r214, nD8, e8q]
      refine ⟨by omega, rfl, fun i i0 i1 => ?_⟩
      rw [r814, old i i0 i1]
      have := (NM3 i i0 (by omega)).1
      rw [eN] at this
      omega
    · show (0 ≤ gi H8 (gr h2 14 j) 0 ∧ gi H8 (gr h2 14 j) 0 < N + 1) ∧ gi H8 173 (if j = n then p else π j) = gi H8 (gr h2 14 j) 0 ∧ ∀ i, 0 ≤ i → i < j → gi H8 (gr H8 14 i) 0 < gi H8 (gr h2 14 j) 0
      obtain ⟨m1, m2, m3⟩ := NM3 j j0 (by omega)
      rw [eN] at m1
      rw [if_neg z, old j j0 (by omega), e173' _ (hπ j j0 (by omega))]
      refine ⟨by omega, m2, fun i i0 i1 => ?_⟩
      rw [r814, old i i0 (by omega)]; exact m3 i i0 i1
  have e811 : gi H8 1 11 = 0 := by rw [g84 _ _ (by omega) (by omega) (by omega) (by omega) (by omega), g42 _ _ (by omega) (by omega) (by omega) (by omega) (by omega) (by omega) (by omega)]; exact e211
  have D8 : IDr H8 := ⟨by rw [e811, v2 _ _ (by omega) (by omega) (by omega), gH7 _ _ (by omega) (by omega) (by omega) (by omega), eH4, gi_sin (by omega)]; exact o6, Or.inl e811, by rw [r810]; exact rF, fun q => by rw [e811] at q; omega⟩
  have e810 : gi H8 174 10 = 0 := by rw [e174' _ (by omega)]; exact J0
  refine ⟨0, _, N, H8, (fun j => if j = n then p else π j), w1 _ _ c4, c5, ?_, fun _ => ?_, ⟨IR8, D8, B8, e810, N8, G8, H8', L8, F8, W8⟩, Or.inr ⟨?_, ?_, v6, ?_⟩, ?_, by rw [e8133]; omega⟩
  · rw [v2 _ _ (by omega) (by omega) (by omega), gH7 _ _ (by omega) (by omega) (by omega) (by omega), eH4, gi_sin (by omega)]; exact o5
  · show H8.2.2.1 0 = N
    rw [s8]
    exact (gl_sl h6 0 0 N).trans (if_pos rfl)
  · rw [g8 _ _ (by omega) (by omega) (by omega) (by omega) (by omega), eh6, gi_siq (by omega), gi_siq (by omega)]; exact u12
  · rw [g8 _ _ (by omega) (by omega) (by omega) (by omega) (by omega), eh6, gi_siq (by omega), gi_siq (by omega)]; exact u13
  · rw [r89.1]
    have e86 : ∀ a i, Q + 1 ≤ a → a ≤ Q + 16 → gi H8 a i = gi h5 a i := fun a i p' q => by rw [g8 a i (by omega) (by omega) (by omega) (by omega) (by omega), eh6, gi_siq (by omega), gi_siq (by omega)]
    exact still_to (fun a i p' q => by rw [e86 a i (by omega) (by omega), u2 a i (by omega) (by omega)]) (fun r r0 r1 => by
      have e : rsz H8 Q r = rsz h5 Q r := e86 _ _ (by omega) (by omega)
      rw [e, u8 r r0 r1]) stl
  · have s4 : H8.2.2.2 = h.2.2.2 := by rw [s8]; show h6.2.2.2 = _; rw [s6]
    unfold rm gz gc gs
    rw [s4]; exact ⟨rfl, Nat.le_succ _, Nat.le_add_right _ _, by rw [e12]; omega, by rw [e8133]; omega⟩
end AOK
