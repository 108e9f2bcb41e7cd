/-! THE CALL takeBack, on -/
section TB2
variable {h : dm_H} {π : Int → Int}
theorem op_take {d : Nat} (hd : 14 ≤ d) (I : IN0 π h) (r a b c : Int) : ∃ k h1 v h2, dF d 86 [dR 1 10 1, dI r, dI a, dI b, dI c, dR 4 1 196] h = rI k h1 ∧ dF d 214 [dR 1 11 165, dI r, dI a, dI b, dI c] h1 = rI v h2 ∧ gi h2 165 0 = k ∧ (k = 0 → gl h2 0 = v) ∧ IN0 π h2 ∧ (frZ2 h h2 ∨ dwnF h2) ∧ rm h h2 := by
  obtain ⟨w1, w2, w3, w4⟩ := s86 (h := h) (d := d) (by omega) r a b c _ rfl
  obtain ⟨q1, q2, q3, q4⟩ := s87a (d := d - 1) (by omega) I r a b c
  obtain ⟨r1, r2, r3, -⟩ := s214a (d := d) (H := sg h 6) (by omega) I (fun _ _ _ => rfl) r a b c
  by_cases y : 0 ≤ r ∧ r < gi h 2 0
  case neg =>
    obtain ⟨t1, t2, t3⟩ := thr_all I 1
    exact ⟨1, _, 0, _, w2 _ (q1 y), r1 y, thr0, fun q => by omega, t1, Or.inl (frZ_2 t2), t3⟩
  by_cases w : wit (gi h 3 r) 0 99 a b c
  case neg =>
    obtain ⟨t1, t2, t3⟩ := thr_all I 2
    exact ⟨2, _, 0, _, w3 _ (q2 y w), r2 y w, thr0, fun q => by omega, t1, Or.inl (frZ_2 t2), t3⟩
  obtain ⟨g, eg⟩ : ∃ g, fpl (fL 9 h) (gi h 8 0) r (a * 10000 + b * 100 + c) = g := ⟨_, rfl⟩
  by_cases z : g = -1
  case pos =>
    obtain ⟨t1, t2, t3⟩ := thr_all I 3
    exact ⟨3, _, 0, _, w4 _ (q3 y w (by rw [eg, z])), r3 y w (by rw [eg, z]), thr0, fun q => by omega, t1, Or.inl (frZ_2 t2), t3⟩
  have q4 := q4 y w g eg z
  clear q1 q2 q3 r1 r2 r3
  have n6 := I.1.1.1
  have F := I.2.2.2.2.2.2.2.2.1
  obtain ⟨F1, F2, F3, F4, F5, F6, F7, F8, F9⟩ := F
  have F := I.2.2.2.2.2.2.2.2.1
  obtain ⟨⟨wP, wQ, wPQ⟩, W2, W3, W4, W5, W6, W7⟩ := I.2.2.2.2.2.2.2.2.2
  obtain ⟨n, en⟩ : ∃ n, gi h 8 0 = n := ⟨_, rfl⟩
  obtain ⟨Q, eQ⟩ : ∃ Q, gr h 1 9 = Q := ⟨_, rfl⟩
  obtain ⟨P, eP⟩ : ∃ P, gr h 1 8 = P := ⟨_, rfl⟩
  rw [eP] at wP wPQ W2 W3 W4 W6 W7
  rw [eQ] at wQ wPQ
  have qP : P = 95 ∨ P = 112 := wP
  have qQ : Q = 95 ∨ Q = 112 := wQ
  have hn : 0 ≤ n ∧ n ≤ 24 := by have := F1.1; omega
  have hg : 0 ≤ g ∧ g < n := by
    rcases fpl_r (f := fL 9 h) (n := gi h 8 0) (r := r) (c := a * 10000 + b * 100 + c) (by omega) with ⟨q, _⟩ | ⟨q, _⟩
    · rw [eg] at q; exact absurd q z
    · rw [eg, en] at q; exact q
  have ok1 : ∀ s, inF (fL 9 h) n s → okF h s := fun s q => IFc_ok F (by rw [en]; exact q)
  have hp : gi h 170 g = gi h 11 g := congrArg (fun t => t.2.2.1) (F4 g hg.1 (by omega))
  obtain ⟨bb, h2, y1, y2, y3, y4, y5⟩ := jointF (d := d - 1 - 1) (e := d - 1) (by omega) (by omega) wQ I (frF4_refl 9 8 0 h) (m := n) hn en ok1 (gi h 1 12) g g
  have c1 : dF (d - 1) 87 [dR 1 10 1, dI r, dI a, dI b, dI c] h = dL (d - 1 - 1) 87 58 [lR 1 10 1, lI r, lI a, lI b, lI c, lI (a * 10000 + b * 100 + c), lI g, none] [dI bb] h2 := by
    rw [q4, eQ, y1, bk_v]
  have g2 : ∀ a i, ¬ (Q ≤ a ∧ a ≤ Q + 16) → ¬ (137 ≤ a ∧ a ≤ 143) → gi h2 a i = gi h a i := fun a i p q => y2.1 a i (by omega) (by omega) q
  have gr2 : ∀ a i, ¬ (a = 137 ∨ a = 140 ∨ a = 143) → gr h2 a i = gr h a i := fun a i q => y2.2.1 a i (by omega) (by omega) (by omega)
  have s2 : h2.2.2 = h.2.2 := y2.2.2
  have l2 : fL 9 h2 = fL 9 h := fL_o (fun q i q0 q1 => g2 q i (by omega) (by omega))
  have hrz : ∀ r, 0 ≤ r → r < 6 → 0 ≤ gi h 178 r ∧ gi h 178 r ≤ 32 := fun r r0 r1 => by
    have e : gi h 178 r = (cW h P).1 r := (W3 r r0 r1).1
    rw [e]; exact (W7.1 r r0 r1).1
  have ref : ∀ (Hs : dm_H), (∀ a i, 144 ≤ a → gi Hs a i = gi h a i) → ∃ H3, dF d 214 [dR 1 11 165, dI r, dI a, dI b, dI c] Hs = dL (d - 1) 214 118 [lR 1 11 165, lI r, lI a, lI b, lI c, lI 1, lI g, lI (gi h 11 g), none] [dI bb] H3 ∧ (∀ a i, ¬ (a = 165 ∧ (i = 0 ∨ i = 10 ∨ (27 ≤ i ∧ i ≤ 34))) → ¬ (175 ≤ a ∧ a ≤ 180) → ¬ (183 ≤ a ∧ a ≤ 190) → gi H3 a i = gi Hs a i) ∧ (∀ a i, gr H3 a i = gr Hs a i) ∧ H3.2.2 = Hs.2.2 ∧ gi H3 165 0 = 0 ∧ eqW (rW h) (aW H3) ∧ (bb = 1 → SRT (rW H3) ∧ VW (cK h) (gi h 4) (rW H3) ∧ ∀ r, 0 ≤ r → r < 6 → ∀ c, inW (cW h2 Q) r c ↔ inW (rW H3) r c) := by
    intro Hs es
    obtain ⟨-, -, -, rr⟩ := s214a (d := d) (H := Hs) (by omega) I es r a b c
    have rr := rr y w g eg z
    obtain ⟨H0, eH0⟩ : ∃ H0, H0 = si Hs 165 0 0 := ⟨_, rfl⟩
    have gH0 : ∀ a i, ¬ (a = 165 ∧ i = 0) → gi H0 a i = gi Hs a i := fun a i q => by rw [eH0, gi_si, if_neg q]
    obtain ⟨H1, n1, n2, n3, n4, n5⟩ := s174 (h := H0) (d := d - 1) (by omega) (fun r r0 r1 => by rw [gH0 _ _ (by omega), es _ _ (by omega)]; exact hrz r r0 r1)
    obtain ⟨H2, eH2⟩ : ∃ H2, H2 = si H1 165 10 g := ⟨_, rfl⟩
    have gH2 : ∀ a i, ¬ (a = 165 ∧ (i = 0 ∨ i = 10)) → a ≠ 183 → a ≠ 184 → gi H2 a i = gi Hs a i := fun a i p q r => by rw [eH2, gi_siq (by omega), n2 a i q r, gH0 a i (by omega)]
    have gH2' : ∀ a i, 144 ≤ a → ¬ (a = 165 ∧ (i = 0 ∨ i = 10)) → a ≠ 183 → a ≠ 184 → gi H2 a i = gi h a i := fun a i o p q r => by rw [gH2 a i p q r, es a i o]
    have e5 : gi H2 165 5 = n := by rw [gH2' _ _ (by omega) (by omega) (by omega) (by omega), F3, en]
    have l2' : fL 168 H2 = fL 168 h := fL_o (fun q i q0 q1 => gH2' _ _ (by omega) (by omega) (by omega) (by omega))
    obtain ⟨H3, o1, o2, o4⟩ := y5 H2 n (fun a i q => gH2' a i (by omega) (by omega) (by omega) (by omega)) hn e5 (fun s q => by
      rw [l2'] at q
      exact ok1 s (by
        have := (inF_r F s).mp (by rw [F3, en]; exact q)
        rw [en] at this; exact this)) (fun r' c' r0 r1 => by
      rw [ftC_gg]
      exact ft_eq I.1 F (by rw [e5, en]) (fun p p0 p1 => by
        have q := F4 p p0 p1
        rw [gH2' _ _ (by omega) (by omega) (by omega) (by omega), gH2' _ _ (by omega) (by omega) (by omega) (by omega)]
        exact ⟨congrArg (fun t => t.1) q, congrArg (fun t => t.2.1) q⟩) (by rw [eH2, gi_si, if_pos ⟨rfl, rfl⟩]) (by rw [gH2' _ _ (by omega) (by omega) (by omega) (by omega)]; exact F9) (Int.le_refl _) r' c' r0 r1)
    refine ⟨H3, ?_, fun a i p q s => by rw [o2.1 a i (by omega) (by omega) (by omega), gH2 a i (by omega) (by omega) (by omega)], fun a i => by rw [o2.2.1, eH2, gr_si, n3, eH0, gr_si], ?_, ?_, ?_, o4⟩
    · rw [rr, ← eH0, n1, bk_n, b214_108, ← eH2, o1, bk_v, hp]
    · rw [o2.2.2, eH2]; show H1.2.2 = _; rw [n4, eH0]; rfl
    · rw [o2.1 _ _ (by omega) (by omega) (by omega), eH2, gi_siq (by omega), n2 _ _ (by omega) (by omega), eH0, thr0]
    · have a1 : eqW (rW h) (rW H0) := rW_same (fun i => by rw [gH0 _ _ (by omega), es _ _ (by omega)]) (fun i => by rw [gH0 _ _ (by omega), es _ _ (by omega)])
      have a2 : eqW (aW H1) (aW H3) := fun r _ _ => ⟨by show gi H3 184 r = gi H1 184 r; rw [o2.1 _ _ (by omega) (by omega) (by omega), eH2, gi_sin (by omega)], fun y _ _ => by show gi H3 183 _ = gi H1 183 _; rw [o2.1 _ _ (by omega) (by omega) (by omega), eH2, gi_sin (by omega)]⟩
      exact eqW_trans (eqW_trans a1 n5) a2
  rcases y3 with rfl | rfl
  · -- there would be too much
    have c2 : dF (d - 1) 87 [dR 1 10 1, dI r, dI a, dI b, dI c] h = rX 2 (sg h2 6) := by rw [c1, b87_58, if_pos rfl]
    obtain ⟨H3, o1, o2, o3, o4, o5, o9, -⟩ := ref (sg h2 6) (fun a i q => g2 a i (by omega) (by omega))
    obtain ⟨H4, eH4⟩ : ∃ H4, H4 = si H3 165 10 (-1) := ⟨_, rfl⟩
    have gH4 : ∀ a i, ¬ (a = 165 ∧ (i = 0 ∨ i = 10 ∨ (27 ≤ i ∧ i ≤ 34))) → ¬ (175 ≤ a ∧ a ≤ 180) → ¬ (183 ≤ a ∧ a ≤ 190) → gi H4 a i = gi h2 a i := fun a i p s t => by rw [eH4, gi_siq (by omega), o2 a i p s t]; rfl
    have gH4' : ∀ a i, a = 166 ∨ a = 167 ∨ a = 172 ∨ a = 174 → gi H4 a i = gi h a i := fun a i q => by rw [gH4 a i (by omega) (by omega) (by omega), g2 a i (by omega) (by omega)]
    have HB4 := HBr_cg (h := h) (h' := H4) (fun i => gH4' _ _ (by omega)) (fun i => gH4' _ _ (by omega)) (fun i => gH4' _ _ (by omega)) (fun i => gH4' _ _ (by omega)) (BKS_HBr I.1 I.2.2.1)
    have L := I.2.2.2.2.2.2.2.1
    have eaW : eqW (rW h) (aW H4) := eqW_trans o9 (fun r _ _ => ⟨by show gi H4 184 r = gi H3 184 r; rw [eH4, gi_sin (by omega)], fun y _ _ => by show gi H4 183 _ = gi H3 183 _; rw [eH4, gi_sin (by omega)]⟩)
    obtain ⟨H5, t1, t2, t3, t4, t5, t6, t7⟩ := s212 (h := H4) (d := d - 1) (by omega) I.2.2.2.2.2.1 (fun r => by rw [gH4' _ _ (by omega)]; exact (I.1.2.2.1 r).2) HB4 L.1 (fun r r0 r1 => by have := L.2.1 r r0 r1; have := L.2.2; omega) (fun r r0 r1 => by
      have e : gi H4 184 r = gi h 178 r := (eaW r r0 r1).1
      rw [e]; exact hrz r r0 r1)
    obtain ⟨H6, eH6⟩ : ∃ H6, H6 = si H5 165 0 3 := ⟨_, rfl⟩
    have c3 : dF d 214 [dR 1 11 165, dI r, dI a, dI b, dI c] (sg h2 6) = rI 0 H6 := by
      rw [o1, b214_118, if_pos rfl, ← eH4, t1, bk_n, b214_134, ← eH6]
    have gH6 : ∀ a i, ¬ (a = 165 ∧ (i = 0 ∨ i = 10 ∨ i = 11 ∨ (27 ≤ i ∧ i ≤ 34))) → ¬ (175 ≤ a ∧ a ≤ 180) → ¬ (183 ≤ a ∧ a ≤ 190) → gi H6 a i = gi h2 a i := fun a i p s t => by rw [eH6, gi_siq (by omega), t2 a i (by omega) (by omega), gH4 a i (by omega) s t]
    have gH6' : ∀ a i, ¬ (a = 165 ∧ (i = 0 ∨ i = 10 ∨ i = 11 ∨ (27 ≤ i ∧ i ≤ 34))) → ¬ (175 ≤ a ∧ a ≤ 180) → ¬ (183 ≤ a ∧ a ≤ 190) → ¬ (Q ≤ a ∧ a ≤ Q + 16) → ¬ (137 ≤ a ∧ a ≤ 143) → gi H6 a i = gi h a i := fun a i p q s t u => by rw [gH6 a i p q s, g2 a i t u]
    have gr6 : ∀ a i, ¬ (a = 137 ∨ a = 140 ∨ a = 143) → gr H6 a i = gr h a i := fun a i q => by rw [eH6, gr_si, t3, eH4, gr_si, o3]; exact gr2 a i q
    have fw : frW h H6 := ⟨fun a i q => by unfold wdF at q; exact gH6' a i (by omega) (by omega) (by omega) (by omega) (by omega), fun a i _ q => gr6 a i q⟩
    obtain ⟨f1, f2, f3, f4, f5, -⟩ := frW_c I fw
    have F' : IFc H6 := IFc_cg (fun a i q => gH6' a i (by omega) (by omega) (by omega) (by omega) (by omega)) f5 (gH6' _ _ (by omega) (by omega) (by omega) (by omega) (by omega)) (fun i q => by
      by_cases q1 : i = 10
      · rw [q1, eH6, gi_siq (by omega), t6, F8]
      by_cases q2 : i = 11
      · rw [q2, eH6, gi_siq (by omega), t7, F9]
      · exact gH6' _ _ (by omega) (by omega) (by omega) (by omega) (by omega)) F
    have eW : eqW (cW h P) (cW H6 P) := cW_far wP (fun a i p q => gH6' a i (by omega) (by omega) (by omega) (by omega) (by omega))
    have eo : oW H6 = oW h := by
      have a1 : (fun r => gi H6 182 r) = fun r => gi h 182 r := funext (fun r => gH6' _ _ (by omega) (by omega) (by omega) (by omega) (by omega))
      have a2 : (fun r x => gi H6 181 (40 * r + x)) = fun (r x : Int) => gi h 181 (40 * r + x) := by
        funext r x
        exact gH6' _ _ (by omega) (by omega) (by omega) (by omega) (by omega)
      unfold oW
      rw [a1, a2]
    have e12 : gi H6 1 12 = gi h 1 12 := gH6' _ _ (by omega) (by omega) (by omega) (by omega) (by omega)
    have l6 : fL 9 H6 = fL 9 h := fL_o (fun q i q0 q1 => gH6' q i (by omega) (by omega) (by omega) (by omega) (by omega))
    have e8 : gi H6 8 0 = n := by rw [gH6' _ _ (by omega) (by omega) (by omega) (by omega) (by omega)]; exact en
    have W' : IRw H6 := by
      refine IRw_old I eP eQ ⟨by rw [gr6 _ _ (by omega)]; exact eP, by rw [gr6 _ _ (by omega)]; exact eQ⟩ eW ?_ eo (gH6' _ _ (by omega) (by omega) (by omega) (by omega) (by omega)) (gH6' _ _ (by omega) (by omega) (by omega) (by omega) (by omega)) ?_ ⟨f1, f2, f3, f4, f5⟩
      · exact eqW_trans (eqW_trans eaW t5) (rW_same (fun i => by rw [eH6, gi_sin (by omega)]) (fun i => by rw [eH6, gi_sin (by omega)]))
      · rw [ftC_S, ftC_S, e8, en, e12, l6]
    refine ⟨3, _, 0, H6, w4 _ c2, c3, by rw [eH6, thr0], fun q => by omega, IN0_mk I fw F' W', Or.inl ⟨by rw [gr6 _ _ (by omega)], f4, fun a i q => ?_, ⟨by rw [e8, en], fun x x0 x1 => by rw [l6]⟩, fun i hi => ?_, fun i hi => ?_⟩, rm_of (Or.inr ?_) (ct_e (gH6' _ _ (by omega) (by omega) (by omega) (by omega) (by omega) ) (gH6' _ _ (by omega) (by omega) (by omega) (by omega) (by omega) ))⟩
    · rw [eP] at q
      exact gH6' a i (by omega) (by omega) (by omega) (by omega) (by omega)
    · exact gH6' _ _ (by omega) (by omega) (by omega) (by omega) (by omega)
    · exact gH6' _ _ (by omega) (by omega) (by omega) (by omega) (by omega)
    · rw [eH6]; show H5.2.2 = _; rw [t4, eH4]; show H3.2.2 = _; rw [o4]; show (h2.2.2.1, h2.2.2.2.1, h2.2.2.2.2.1 + 1, h2.2.2.2.2.2 + 6) = (h.2.2.1, h.2.2.2.1, h.2.2.2.2.1 + 1, h.2.2.2.2.2 + 6); rw [s2]
  · -- it goes
    obtain ⟨gd, hz, stl⟩ := y4 rfl
    have e80 : gi h2 8 0 = n := by rw [g2 _ _ (by omega) (by omega)]; exact en
    have F2' : FO (fL 9 h) n := by rw [← en]; exact F2
    obtain ⟨h3, x1, x2, x3, x4, x5⟩ := del_c (h := h2) (d := d - 1 - 1) (by omega) (g := g) (by rw [e80]; exact hg) (by omega) (by rw [l2, e80]; exact F2')
    rw [e80] at x3 x4 x5
    rw [l2] at x5
    have g3 : ∀ a i, ¬ (8 ≤ a ∧ a ≤ 12) → gi h3 a i = gi h2 a i := fun a i p => x2.1 a i (by omega) (by omega)
    have eQ3 : eqW (cW h2 Q) (cW h3 Q) := cW_far wQ (fun a i p q => g3 a i (by omega))
    have gd3 := gds_fr0 I eQ3 gd
    have hz3 : ∀ r, gi h 2 0 ≤ r → r < 6 → rsz h3 Q r = 0 := fun r r0 r1 => by
      have e : rsz h3 Q r = rsz h2 Q r := (eQ3 r (by omega) r1).1
      rw [e]; exact hz r r0 r1
    obtain ⟨gP, h4, u1, u2, ⟨u3, u4⟩, u5, u6, u7, u8, u9, u10, u11, u12, u13⟩ := takeF (h2 := h3) (d := d - 1 - 1) (by omega) I eQ (by rw [g3 _ _ (by omega), g2 _ _ (by omega) (by omega)]) ⟨by rw [x2.2.1, gr2 _ _ (by omega)], by rw [x2.2.1, gr2 _ _ (by omega)]⟩ (fun a i p q => by rw [g3 a i (by omega), g2 a i (by omega) (by omega)]) gd3.1 hz3
    rw [eP] at gP u4 u10 u11
    have c2 : dF (d - 1) 87 [dR 1 10 1, dI r, dI a, dI b, dI c] h = rI (gi h 11 g) h4 := by
      rw [c1, b87_58, if_neg (by decide), ix_p hg.1 (by omega), g2 11 g (by omega) (by omega), x1, bk_n, b87_92, u1, bk_n, b87_96]
    have g48 : ∀ a i, 8 ≤ a → a ≤ 12 → gi h4 a i = gi h3 a i := fun a i p q => u2 _ _ (by omega) (by omega)
    have g4 : ∀ a i, ¬ (8 ≤ a ∧ a ≤ 12) → ¬ (Q ≤ a ∧ a ≤ Q + 16) → ¬ (137 ≤ a ∧ a ≤ 143) → ¬ (a = 1 ∧ 13 ≤ i ∧ i ≤ 16) → gi h4 a i = gi h a i := fun a i p q r s => by rw [u2 a i (by omega) s, g3 a i p, g2 a i q r]
    obtain ⟨H3, o1, o2, o3, o4, o5, o9, o10⟩ := ref (sl h4 0 (gi h 11 g)) (fun a i q => g4 a i (by omega) (by omega) (by omega) (by omega))
    obtain ⟨o10, o11, o12⟩ := o10 rfl
    obtain ⟨H4, eH4⟩ : ∃ H4, H4 = si H3 165 10 (-1) := ⟨_, rfl⟩
    have gH4 : ∀ a i, ¬ (a = 165 ∧ (i = 0 ∨ i = 10 ∨ (27 ≤ i ∧ i ≤ 34))) → ¬ (175 ≤ a ∧ a ≤ 180) → ¬ (183 ≤ a ∧ a ≤ 190) → gi H4 a i = gi h4 a i := fun a i p s t => by rw [eH4, gi_siq (by omega), o2 a i p s t]; rfl
    have gH4' : ∀ a i, ¬ (a = 165 ∧ (i = 0 ∨ i = 10 ∨ (27 ≤ i ∧ i ≤ 34))) → ¬ (175 ≤ a ∧ a ≤ 180) → ¬ (183 ≤ a ∧ a ≤ 190) → ¬ (8 ≤ a ∧ a ≤ 12) → ¬ (Q ≤ a ∧ a ≤ Q + 16) → ¬ (137 ≤ a ∧ a ≤ 143) → ¬ (a = 1 ∧ 13 ≤ i ∧ i ≤ 16) → gi H4 a i = gi h a i := fun a i p s t u v w x => by rw [gH4 a i p s t, g4 a i u v w x]
    have l168 : fL 168 H4 = fL 168 h := fL_o (fun q i q0 q1 => gH4' _ _ (by omega) (by omega) (by omega) (by omega) (by omega) (by omega) (by omega))
    have e5 : gi H4 165 5 = n := by rw [gH4' _ _ (by omega) (by omega) (by omega) (by omega) (by omega) (by omega) (by omega), F3, en]
    have FR := FO_r F
    rw [F3, en] at FR
    obtain ⟨H5, m1, m2, m3, m4, m5⟩ := del_r (h := H4) (d := d - 1) (by omega) (g := g) (n := n) e5 hg hn.2 (by rw [l168]; exact FR)
    rw [l168] at m5
    have eg9 : fL 168 h g = fL 9 h g := F4 g hg.1 (by omega)
    have ea5 : eqW (rW h) (aW H5) := eqW_trans o9 (fun r _ _ => ⟨by show gi H5 184 r = gi H3 184 r; rw [m2.1 _ _ (by omega) (by omega), eH4, gi_sin (by omega)], fun y _ _ => by show gi H5 183 _ = gi H3 183 _; rw [m2.1 _ _ (by omega) (by omega), eH4, gi_sin (by omega)]⟩)
    obtain ⟨H6, v1, v2, v3, v4, v5, v6⟩ := s213 (h := H5) (d := d - 1) (by omega) (fun r r0 r1 => by
      have e : gi H5 184 r = gi h 178 r := (ea5 r r0 r1).1
      rw [e]; exact hrz r r0 r1)
    have c3 : dF d 214 [dR 1 11 165, dI r, dI a, dI b, dI c] (sl h4 0 (gi h 11 g)) = rI (gi h 11 g) H6 := by
      rw [o1, b214_118, if_neg (by decide), ← eH4, m1, bk_n, b214_147, v1, bk_n, b214_151]
    have gH6 : ∀ a i, ¬ (a = 165 ∧ (i = 0 ∨ i = 5 ∨ i = 10 ∨ (27 ≤ i ∧ i ≤ 34) ∨ i = 44)) → ¬ (168 ≤ a ∧ a ≤ 171) → ¬ (175 ≤ a ∧ a ≤ 190) → gi H6 a i = gi h4 a i := fun a i p q s => by rw [v2 a i (by omega) (by omega) (by omega), m2.1 a i (by omega) (by omega), gH4 a i (by omega) (by omega) (by omega)]
    have gH6' : ∀ a i, ¬ (a = 165 ∧ (i = 0 ∨ i = 5 ∨ i = 10 ∨ (27 ≤ i ∧ i ≤ 34) ∨ i = 44)) → ¬ (168 ≤ a ∧ a ≤ 171) → ¬ (175 ≤ a ∧ a ≤ 190) → ¬ (8 ≤ a ∧ a ≤ 12) → ¬ (Q ≤ a ∧ a ≤ Q + 16) → ¬ (137 ≤ a ∧ a ≤ 143) → ¬ (a = 1 ∧ 13 ≤ i ∧ i ≤ 16) → gi H6 a i = gi h a i := fun a i p q s t u v w => by rw [gH6 a i p q s, g4 a i t u v w]
    have gr6 : ∀ a i, gr H6 a i = gr h4 a i := fun a i => by rw [v3, m2.2.1, eH4, gr_si, o3]; rfl
    have fw : frW h H6 := ⟨fun a i q => by unfold wdF at q; exact gH6' a i (by omega) (by omega) (by omega) (by omega) (by omega) (by omega) (by omega), fun a i q q' => by rw [gr6, u5 a i q, x2.2.1, gr2 a i q']⟩
    obtain ⟨f1, f2, f3, f4, f5, IR', H', L'⟩ := frW_c I fw
    have l9 : fL 9 H6 = fL 9 h3 := fL_o (fun q i q0 q1 => by rw [gH6 q i (by omega) (by omega) (by omega), g48 q i (by omega) (by omega)])
    have l1686 : fL 168 H6 = fL 168 H5 := fL_o (fun q i q0 q1 => v2 q i (by omega) (by omega) (by omega))
    have e8 : gi H6 8 0 = n - 1 := by rw [gH6 _ _ (by omega) (by omega) (by omega), g48 _ _ (by omega) (by omega)]; exact x3
    have e56 : gi H6 165 5 = n - 1 := by rw [v2 _ _ (by omega) (by omega) (by omega)]; exact m3
    have e12 : gi H6 1 12 = gi h 1 12 := gH6' _ _ (by omega) (by omega) (by omega) (by omega) (by omega) (by omega) (by omega)
    have F' : IFc H6 := by
      refine IFc_mk (m := n - 1) (by omega) e8 e56 (by rw [l9]; exact x4) (by rw [l1686]; exact m4) (fun s => ?_) (fun s q => ?_) ?_ ?_ ?_ ?_
      · have e := inF_r F s
        rw [F3, en] at e
        rw [l9, l1686, x5 s, m5 s, e, eg9]
      · rw [l9] at q
        have o := ok1 s ((x5 s).mp q).1
        unfold okF at o ⊢
        rw [f1, f5, e12]
        exact o
      · rw [gH6' _ _ (by omega) (by omega) (by omega) (by omega) (by omega) (by omega) (by omega), e12]; exact F6
      · rw [e12]; exact F7
      · rw [v2 _ _ (by omega) (by omega) (by omega), m2.1 _ _ (by omega) (by omega), eH4, gi_si, if_pos ⟨rfl, rfl⟩]
      · rw [gH6' _ _ (by omega) (by omega) (by omega) (by omega) (by omega) (by omega) (by omega)]; exact F9
    have W' : IRw H6 := by
      refine IRw_new (h := h) (h2 := h3) (h3 := h4) (P := P) (Q := Q) (ft := ftC h (gi h 1 12) g g) (W := rW H3) wP wQ wPQ IR' (by rw [f1, f2, f5, f4]; exact I.2.2.2.2.2.1) L' F'.1 f5 (fun r r0 r1 => (W7.1 r r0 r1).1) W3 (by rw [f1, f2, f3, f4]; exact gd3) ?_ hz3 gP u7 u8 u9 u10 u11 ⟨by rw [gr6]; exact u3, by rw [gr6]; exact u4⟩ (cW_far wQ (fun a i p q => gH6 a i (by omega) (by omega) (by omega))) (gH6 _ _ (by omega) (by omega) (by omega)) (gH6 _ _ (by omega) (by omega) (by omega)) (eqW_trans ea5 v5) (rW_same (fun i => ?_) (fun i => ?_)) o10 (by rw [f1, f2]; exact o11) (fun r r0 r1 c => ((inW_eq eQ3 r r0 r1 c).symm).trans (o12 r r0 r1 c))
      · rw [ftC_S, e8, e12, l9, ftC_g F2 (by rw [en]; exact hg), en]
        exact ftS_cg x5
      · rw [v2 _ _ (by omega) (by omega) (by omega), m2.1 _ _ (by omega) (by omega), eH4, gi_sin (by omega)]
      · rw [v2 _ _ (by omega) (by omega) (by omega), m2.1 _ _ (by omega) (by omega), eH4, gi_sin (by omega)]
    refine ⟨0, _, gi h 11 g, H6, w1 _ _ c2, c3, ?_, fun _ => ?_, IN0_mk I fw F' W', Or.inr ⟨?_, ?_, v6, ?_⟩, ?_⟩
    · rw [v2 _ _ (by omega) (by omega) (by omega), m2.1 _ _ (by omega) (by omega), eH4, gi_siq (by omega)]; exact o5
    · show H6.2.2.1 0 = gi h 11 g
      rw [v4, m2.2.2, eH4]
      show H3.2.2.1 0 = _
      rw [o4]
      exact (gl_sl h4 0 0 (gi h 11 g)).trans (if_pos rfl)
    · rw [gH6 _ _ (by omega) (by omega) (by omega)]; exact u12
    · rw [gH6 _ _ (by omega) (by omega) (by omega)]; exact u13
    · rw [gr6, u3]
      exact still_to (fun a i p q => by rw [gH6 a i (by omega) (by omega) (by omega), u2 a i (by omega) (by omega), g3 a i (by omega)]) (fun r r0 r1 => by
        have e : rsz H6 Q r = rsz h4 Q r := gH6 _ _ (by omega) (by omega) (by omega)
        have e2 : rsz h3 Q r = rsz h2 Q r := (eQ3 r r0 r1).1
        rw [e, u8 r r0 r1, e2]) stl
    · have s4 : H6.2.2.2 = h.2.2.2 := by
        rw [v4, m2.2.2, eH4]
        show H3.2.2.2 = _
        rw [o4]; show h4.2.2.2 = _; rw [u6, x2.2.2, s2]
      unfold rm gz gc gs
      rw [s4]; exact ⟨rfl, Nat.le_succ _, Nat.le_add_right _ _, ct_e (gH6' _ _ (by omega) (by omega) (by omega) (by omega) (by omega) (by omega) (by omega) ) (gH6' _ _ (by omega) (by omega) (by omega) (by omega) (by omega) (by omega) (by omega) )⟩
end TB2
