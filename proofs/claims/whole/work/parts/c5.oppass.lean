/-! THE CALL pass -/
section PS2
variable {h : dm_H} {π : Int → Int}
theorem s88 {d : Nat} (hd : 1 ≤ d) (x : Int) (y : dm_O) (e : dF (d - 1) 89 [dR 1 10 1, dI x] h = y) :
    (∀ v h', y = rI v h' → dF d 88 [dR 1 10 1, dI x, dR 4 1 196] h = rI 0 (sl h' 0 v)) ∧ (∀ h', y = rX 1 h' → dF d 88 [dR 1 10 1, dI x, dR 4 1 196] h = rI 1 h') ∧ ∀ h', y = rX 2 h' → dF d 88 [dR 1 10 1, dI x, dR 4 1 196] h = rI 2 h' := by
  rw [f88 hd, b88_0, e]
  refine ⟨fun v h' ex => ?_, fun h' ex => ?_, fun h' ex => ?_⟩
  · rw [ex, bk_v, b88_7, ix_p (by omega) (by omega)]
  · rw [ex, bk_c (g := 12) (j := 3) (n := 1) (L' := [lR 1 10 1, lI x, lR 4 1 196, none]) rfl (fun f => rfl)]
    exact b88_13 _ _ _ _ _ _
  · rw [ex, bk_c (g := 15) (j := 3) (n := 1) (L' := [lR 1 10 1, lI x, lR 4 1 196, none]) rfl (fun f => rfl)]
    exact b88_16 _ _ _ _ _ _
theorem op_pass {d : Nat} (hd : 14 ≤ d) (I : IN0 π h) (x : Int) (hT : gi h 1 12 ≤ 2000000000) : ∃ k h1 v h2, dF d 88 [dR 1 10 1, dI x, dR 4 1 196] h = rI k h1 ∧ dF d 215 [dR 1 11 165, dI x] h1 = rI v h2 ∧ gi h2 165 0 = k ∧ (k = 0 → gl h2 0 = v) ∧ IN0 π h2 ∧ (frZ2 h h2 ∨ dwnF h2) ∧ rm h h2 ∧ gi h2 1 12 ≤ gi h 1 12 + 100 := by
  obtain ⟨w1, w2, w3⟩ := s88 (h := h) (d := d) (by omega) x _ rfl
  by_cases y : 1 ≤ x ∧ x ≤ 100
  case neg =>
    have c0 : dF (d - 1) 89 [dR 1 10 1, dI x] h = rX 1 (sg h 6) := by
      rw [f89 (by omega), b89_0]
      by_cases z : x < 1
      · rw [if_pos z, b89_11]
      · rw [if_neg z, if_pos (by omega), b89_11]
    obtain ⟨t1, t2, t3⟩ := thr_all I 1
    refine ⟨1, _, 0, _, w2 _ c0, ?_, thr0, fun q => by omega, t1, Or.inl (frZ_2 t2), t3, ?_⟩
    · rw [f215 (by omega), b215_0, s168 (by omega), bk_v, b215_8, bi_0 y, if_pos rfl, b215_16, thr0, if_pos (by decide)]
    · rw [gi_siq (by omega)]; show gi h 1 12 ≤ _; omega
  have n6 := I.1.1.1
  have F := I.2.2.2.2.2.2.2.2.1
  obtain ⟨F1, F2, F3, F4, F5, F6, F7, F8, F9⟩ := F
  have F := I.2.2.2.2.2.2.2.2.1
  obtain ⟨⟨wP, wQ, wPQ⟩, W2, W3, W4, W5, W6, W7⟩ := I.2.2.2.2.2.2.2.2.2
  obtain ⟨n, en⟩ : ∃ n, gi h 8 0 = n := ⟨_, rfl⟩
  obtain ⟨t, et⟩ : ∃ t, gi h 1 12 + x = t := ⟨_, rfl⟩
  obtain ⟨Q, eQ⟩ : ∃ Q, gr h 1 9 = Q := ⟨_, rfl⟩
  obtain ⟨P, eP⟩ : ∃ P, gr h 1 8 = P := ⟨_, rfl⟩
  rw [eP] at wP wPQ W2 W3 W4 W6 W7
  rw [eQ] at wQ wPQ
  have qP : P = 95 ∨ P = 112 := wP
  have qQ : Q = 95 ∨ Q = 112 := wQ
  have hn : 0 ≤ n ∧ n ≤ 24 := by have := F1.1; omega
  have ok1 : ∀ s, inF (fL 9 h) n s → okF h s := fun s q => IFc_ok F (by rw [en]; exact q)
  have FR := FO_r F
  rw [F3, en] at FR
  have e4t : gi h 165 4 + x = t := by rw [F6]; exact et
  obtain ⟨bb, h2, y1, y2, y3, y4, y5⟩ := jointF (d := d - 1 - 1) (e := d - 1) (by omega) (by omega) wQ I (frF4_refl 9 8 0 h) (m := n) hn en ok1 t (-1) (-1)
  have c1 : dF (d - 1) 89 [dR 1 10 1, dI x] h = dL (d - 1 - 1) 89 40 [lR 1 10 1, lI x, none] [dI bb] h2 := by
    rw [f89 (by omega), b89_0, if_neg (by omega), if_neg (by omega), ck_p (by omega) (by omega), et, eQ, y1, bk_v]
  have g2 : ∀ a i, ¬ (Q ≤ a ∧ a ≤ Q + 16) → ¬ (137 ≤ a ∧ a ≤ 143) → gi h2 a i = gi h a i := fun a i p q => y2.1 a i (by omega) (by omega) q
  have gr2 : ∀ a i, ¬ (a = 137 ∨ a = 140 ∨ a = 143) → gr h2 a i = gr h a i := fun a i q => y2.2.1 a i (by omega) (by omega) (by omega)
  have s2 : h2.2.2 = h.2.2 := y2.2.2
  have l2 : fL 9 h2 = fL 9 h := fL_o (fun q i q0 q1 => g2 q i (by omega) (by omega))
  have hrz : ∀ r, 0 ≤ r → r < 6 → 0 ≤ gi h 178 r ∧ gi h 178 r ≤ 32 := fun r r0 r1 => by
    have e : gi h 178 r = (cW h P).1 r := (W3 r r0 r1).1
    rw [e]; exact (W7.1 r r0 r1).1
  have eft := ftC_S h t
  rw [en] at eft
  obtain ⟨c, ec⟩ : ∃ c, c = cE (fL 168 h) t n.toNat := ⟨_, rfl⟩
  have hc : 0 ≤ c ∧ c ≤ n := by have := cE_r (fL 168 h) t n.toNat; omega
  have P0 : PK (fL 168 h) n (fL 168 h) := ⟨fun s => Iff.rfl, fun x y x0 xy y1 => by have := FR x y x0 xy y1; omega⟩
  -- the reference up to what it finds
  have ref : ∀ (Hs : dm_H), (∀ a i, 144 ≤ a → gi Hs a i = gi h a i) → ∃ H3, dF d 215 [dR 1 11 165, dI x] Hs = dL (d - 1) 215 124 [lR 1 11 165, lI x, lI c, lI n, lI c, none, none, none, none, none] [dI bb] H3 ∧ (∀ a i, ¬ (a = 165 ∧ (i = 0 ∨ i = 5 ∨ (27 ≤ i ∧ i ≤ 34))) → ¬ (168 ≤ a ∧ a ≤ 171) → ¬ (175 ≤ a ∧ a ≤ 180) → ¬ (183 ≤ a ∧ a ≤ 190) → gi H3 a i = gi Hs a i) ∧ (∀ a i, gr H3 a i = gr Hs a i) ∧ H3.2.2 = Hs.2.2 ∧ gi H3 165 0 = 0 ∧ gi H3 165 5 = n - c ∧ FO (fL 168 H3) (n - c) ∧ PK (fL 168 h) n (fL 168 H3) ∧ (∀ s, inF (fL 168 H3) (n - c) s ↔ inF (fL 168 h) n s ∧ ¬ edd t s) ∧ eqW (rW h) (aW H3) ∧ (bb = 1 → SRT (rW H3) ∧ VW (cK h) (gi h 4) (rW H3) ∧ ∀ r, 0 ≤ r → r < 6 → ∀ c, inW (cW h2 Q) r c ↔ inW (rW H3) r c) := by
    intro Hs es
    obtain ⟨H0, eH0⟩ : ∃ H0, H0 = si Hs 165 0 0 := ⟨_, rfl⟩
    have gH0 : ∀ a i, ¬ (a = 165 ∧ i = 0) → gi H0 a i = gi Hs a i := fun a i q => by rw [eH0, gi_si, if_neg q]
    have l0 : fL 168 H0 = fL 168 h := fL_o (fun q i q0 q1 => by rw [gH0 _ _ (by omega), es _ _ (by omega)])
    have lp := p215a (h := H0) (d := d - 1) (x := x) (t := t) (n := n) (by rw [gH0 _ _ (by omega), es _ _ (by omega), F3, en]) hn (by rw [gH0 _ _ (by omega), es _ _ (by omega)]; exact e4t) (by omega) none none none none none none n.toNat 0 (by omega)
    rw [l0, ← ec] at lp
    have lp : dL (d - 1) 215 32 [lR 1 11 165, lI x, lI 0, lI 0, none, none, none, none, none, none] [] H0 = dm_back (dL (d - 1) 215) dm_t215 80 [lR 1 11 165, lI x, lI c, lI n, none, none, none, none, none, none] [] (dF (d - 1) 174 [dR 1 11 165] H0) := lp
    obtain ⟨H1, n1, n2, n3, n4, n5⟩ := s174 (h := H0) (d := d - 1) (by omega) (fun r r0 r1 => by rw [gH0 _ _ (by omega), es _ _ (by omega)]; exact hrz r r0 r1)
    have gH1 : ∀ a i, 144 ≤ a → ¬ (a = 165 ∧ i = 0) → a ≠ 183 → a ≠ 184 → gi H1 a i = gi h a i := fun a i o p q r => by rw [n2 a i q r, gH0 a i p, es a i o]
    have l1 : fL 168 H1 = fL 168 h := fL_o (fun q i q0 q1 => gH1 _ _ (by omega) (by omega) (by omega) (by omega))
    have e51 : gi H1 165 5 = n := by rw [gH1 _ _ (by omega) (by omega) (by omega) (by omega), F3, en]
    obtain ⟨H2, m1, m2, m3, m4, m5, m6, m7⟩ := p215g (h := H1) (d := d - 1) (by omega) (x := x) (t := t) (n := n) (c := c) (f0 := fL 168 h) hn (by rw [gH1 _ _ (by omega) (by omega) (by omega) (by omega)]; exact e4t) (by omega) hc none none none none none c.toNat 0 H1 (by omega) (by omega) (by omega) (frF4_refl 168 165 5 H1) (by rw [l1, show n - 0 = n by omega]; exact FR) (by rw [l1]; exact P0) (fun y y0 y1 => by omega) (by rw [l1, show n - 0 = n by omega, ← ec]; omega)
    have i2 := PK_front hc m5 m6 m7
    have i2' : ∀ s, inF (fL 168 H2) (n - c) s ↔ inF (fL 9 h) n s ∧ ¬ edd t s := fun s => by
      have e := inF_r F s
      rw [F3, en] at e
      rw [i2 s, e]
    have gH2 : ∀ a i, 144 ≤ a → ¬ (a = 165 ∧ (i = 0 ∨ i = 5)) → ¬ (168 ≤ a ∧ a ≤ 171) → a ≠ 183 → a ≠ 184 → gi H2 a i = gi h a i := fun a i o p q r s => by rw [m3.1 a i (by omega) (by omega), gH1 a i o (by omega) r s]
    obtain ⟨H3, o1, o2, o4⟩ := y5 H2 (n - c) (fun a i q => gH2 a i (by omega) (by omega) (by omega) (by omega) (by omega)) (by omega) m2 (fun s q => ok1 s ((i2' s).mp q).1) (fun r' c' _ _ => by
      rw [eft, ftR_S (by rw [gH2 _ _ (by omega) (by omega) (by omega) (by omega) (by omega)]; exact F8) (by rw [gH2 _ _ (by omega) (by omega) (by omega) (by omega) (by omega)]; exact F9), m2]
      constructor
      · rintro ⟨s, s1, s2, s3, s4⟩
        exact ⟨s, (i2' s).mpr ⟨s1, s2⟩, s3, s4⟩
      · rintro ⟨s, s1, s3, s4⟩
        obtain ⟨a1, a2⟩ := (i2' s).mp s1
        exact ⟨s, a1, a2, s3, s4⟩)
    have l3 : fL 168 H3 = fL 168 H2 := fL_o (fun q i q0 q1 => o2.1 q i (by omega) (by omega) (by omega))
    refine ⟨H3, ?_, fun a i p q s u => ?_, fun a i => by rw [o2.2.1, m3.2.1, n3, eH0, gr_si], ?_, ?_, by rw [o2.1 _ _ (by omega) (by omega) (by omega)]; exact m2, by rw [l3]; exact m4, by rw [l3]; exact m5, by rw [l3]; exact i2, ?_, o4⟩
    · rw [f215 (by omega), b215_0, s168 (by omega), bk_v, b215_8, bi_1 y, if_neg (by decide), b215_16, thr0, if_neg (by decide), ← eH0, lp, n1, bk_n, b215_83, e51, m1, o1, bk_v]
    · rw [o2.1 a i (by omega) (by omega) (by omega), m3.1 a i (by omega) (by omega), n2 a i (by omega) (by omega), gH0 a i (by omega)]
    · rw [o2.2.2, m3.2.2, n4, eH0]; rfl
    · rw [o2.1 _ _ (by omega) (by omega) (by omega), m3.1 _ _ (by omega) (by omega), n2 _ _ (by omega) (by omega), eH0, thr0]
    · have a1 : eqW (rW h) (rW H0) := rW_same (fun i => by rw [gH0 _ _ (by omega), es _ _ (by omega)]) (fun i => by rw [gH0 _ _ (by omega), es _ _ (by omega)])
      have a2 : eqW (aW H1) (aW H3) := fun r _ _ => ⟨by show gi H3 184 r = gi H1 184 r; rw [o2.1 _ _ (by omega) (by omega) (by omega), m3.1 _ _ (by omega) (by omega)], fun y _ _ => by show gi H3 183 _ = gi H1 183 _; rw [o2.1 _ _ (by omega) (by omega) (by omega), m3.1 _ _ (by omega) (by omega)]⟩
      exact eqW_trans (eqW_trans a1 n5) a2
  rcases y3 with rfl | rfl
  · -- there would be too much
    have c2 : dF (d - 1) 89 [dR 1 10 1, dI x] h = rX 2 (sg h2 6) := by rw [c1, b89_40, if_pos rfl]
    obtain ⟨H3, o1, o2, o3, o4, o5, o6, o7, oP, oS, o9, -⟩ := ref (sg h2 6) (fun a i q => g2 a i (by omega) (by omega))
    obtain ⟨H4, v6, v7, v8, v9, z1, z2, z3, z4, z5⟩ := p215l (h := H3) (d := d - 1) (by omega) (n := n) (f0 := fL 168 h) hn (fun s q => by
      have e := (inF_r F s)
      rw [F3, en] at e
      exact (ok1 s (e.mp q)).2.1.1) (lI x) (lI c) (lI (n - c)) c.toNat (n - c) H3 none none none none (by omega) (by omega) o6 (frF4_refl 168 165 5 H3) o7 oP
    have gH4 : ∀ a i, ¬ (a = 165 ∧ (i = 0 ∨ i = 5 ∨ (27 ≤ i ∧ i ≤ 34))) → ¬ (168 ≤ a ∧ a ≤ 171) → ¬ (175 ≤ a ∧ a ≤ 180) → ¬ (183 ≤ a ∧ a ≤ 190) → gi H4 a i = gi h2 a i := fun a i p q s t => by rw [z3.1 a i (by omega) (by omega), o2 a i p q s t]; rfl
    have gH4' : ∀ a i, a = 166 ∨ a = 167 ∨ a = 172 ∨ a = 174 → gi H4 a i = gi h a i := fun a i q => by rw [gH4 a i (by omega) (by omega) (by omega) (by omega), g2 a i (by omega) (by omega)]
    have HB4 := HBr_cg (h := h) (h' := H4) (fun i => gH4' _ _ (by omega)) (fun i => gH4' _ _ (by omega)) (fun i => gH4' _ _ (by omega)) (fun i => gH4' _ _ (by omega)) (BKS_HBr I.1 I.2.2.1)
    have L := I.2.2.2.2.2.2.2.1
    have eaW : eqW (rW h) (aW H4) := eqW_trans o9 (fun r _ _ => ⟨by show gi H4 184 r = gi H3 184 r; rw [z3.1 _ _ (by omega) (by omega)], fun y _ _ => by show gi H4 183 _ = gi H3 183 _; rw [z3.1 _ _ (by omega) (by omega)]⟩)
    obtain ⟨H5, t1, t2, t3, t4, t5, t6, t7⟩ := s212 (h := H4) (d := d - 1) (by omega) I.2.2.2.2.2.1 (fun r => by rw [gH4' _ _ (by omega)]; exact (I.1.2.2.1 r).2) HB4 L.1 (fun r r0 r1 => by have := L.2.1 r r0 r1; have := L.2.2; omega) (fun r r0 r1 => by
      have e : gi H4 184 r = gi h 178 r := (eaW r r0 r1).1
      rw [e]; exact hrz r r0 r1)
    obtain ⟨H6, eH6⟩ : ∃ H6, H6 = si H5 165 0 2 := ⟨_, rfl⟩
    have c3 : dF d 215 [dR 1 11 165, dI x] (sg h2 6) = rI 0 H6 := by
      rw [o1, b215_124, if_pos rfl, o6, z1, t1, bk_n, b215_201, ← eH6]
    have gH6 : ∀ a i, ¬ (a = 165 ∧ (i = 0 ∨ i = 5 ∨ i = 10 ∨ i = 11 ∨ (27 ≤ i ∧ i ≤ 34))) → ¬ (168 ≤ a ∧ a ≤ 171) → ¬ (175 ≤ a ∧ a ≤ 180) → ¬ (183 ≤ a ∧ a ≤ 190) → gi H6 a i = gi h2 a i := fun a i p q s t => by rw [eH6, gi_siq (by omega), t2 a i (by omega) (by omega), gH4 a i (by omega) q s t]
    have gH6' : ∀ a i, ¬ (a = 165 ∧ (i = 0 ∨ i = 5 ∨ i = 10 ∨ i = 11 ∨ (27 ≤ i ∧ i ≤ 34))) → ¬ (168 ≤ a ∧ a ≤ 171) → ¬ (175 ≤ a ∧ a ≤ 180) → ¬ (183 ≤ a ∧ a ≤ 190) → ¬ (Q ≤ a ∧ a ≤ Q + 16) → ¬ (137 ≤ a ∧ a ≤ 143) → gi H6 a i = gi h a i := fun a i p q s t u v => by rw [gH6 a i p q s t, g2 a i u v]
    have gr6 : ∀ a i, ¬ (a = 137 ∨ a = 140 ∨ a = 143) → gr H6 a i = gr h a i := fun a i q => by rw [eH6, gr_si, t3, z3.2.1, o3]; exact gr2 a i q
    have fw : frW h H6 := ⟨fun a i q => by unfold wdF at q; exact gH6' a i (by omega) (by omega) (by omega) (by omega) (by omega) (by omega), fun a i _ q => gr6 a i q⟩
    obtain ⟨f1, f2, f3, f4, f5, -⟩ := frW_c I fw
    have e12 : gi H6 1 12 = gi h 1 12 := gH6' _ _ (by omega) (by omega) (by omega) (by omega) (by omega) (by omega)
    have l6 : fL 9 H6 = fL 9 h := fL_o (fun q i q0 q1 => gH6' q i (by omega) (by omega) (by omega) (by omega) (by omega) (by omega))
    have l168 : fL 168 H6 = fL 168 H4 := fL_o (fun q i q0 q1 => by rw [eH6, gi_sin (by omega), t2 q i (by omega) (by omega)])
    have e8 : gi H6 8 0 = n := by rw [gH6' _ _ (by omega) (by omega) (by omega) (by omega) (by omega) (by omega)]; exact en
    have e5 : gi H6 165 5 = n := by rw [eH6, gi_siq (by omega), t2 _ _ (by omega) (by omega)]; exact z2
    have F' : IFc H6 := by
      refine IFc_mk (m := n) hn e8 e5 (by rw [l6, ← en]; exact F2) (by rw [l168]; exact z4) (fun s => ?_) (fun s q => ?_) ?_ ?_ ?_ ?_
      · have e := inF_r F s
        rw [F3, en] at e
        rw [l6, l168, z5.1 s, e]
      · rw [l6] at q
        have o := ok1 s q
        unfold okF at o ⊢
        rw [f1, f5, e12]
        exact o
      · rw [gH6' _ _ (by omega) (by omega) (by omega) (by omega) (by omega) (by omega), e12]; exact F6
      · rw [e12]; exact F7
      · rw [eH6, gi_siq (by omega)]; exact t6
      · rw [eH6, gi_siq (by omega)]; exact t7
    have eW : eqW (cW h P) (cW H6 P) := cW_far wP (fun a i p q => gH6' a i (by omega) (by omega) (by omega) (by omega) (by omega) (by omega))
    have eo : oW H6 = oW h := by
      have a1 : (fun r => gi H6 182 r) = fun r => gi h 182 r := funext (fun r => gH6' _ _ (by omega) (by omega) (by omega) (by omega) (by omega) (by omega))
      have a2 : (fun r x => gi H6 181 (40 * r + x)) = fun (r x : Int) => gi h 181 (40 * r + x) := by
        funext r x
        exact gH6' _ _ (by omega) (by omega) (by omega) (by omega) (by omega) (by omega)
      unfold oW
      rw [a1, a2]
    have W' : IRw H6 := by
      refine IRw_old I eP eQ ⟨by rw [gr6 _ _ (by omega)]; exact eP, by rw [gr6 _ _ (by omega)]; exact eQ⟩ eW ?_ eo (gH6' _ _ (by omega) (by omega) (by omega) (by omega) (by omega) (by omega)) (gH6' _ _ (by omega) (by omega) (by omega) (by omega) (by omega) (by omega)) ?_ ⟨f1, f2, f3, f4, f5⟩
      · exact eqW_trans (eqW_trans eaW t5) (rW_same (fun i => by rw [eH6, gi_sin (by omega)]) (fun i => by rw [eH6, gi_sin (by omega)]))
      · rw [ftC_S, ftC_S, e8, en, e12, l6]
    refine ⟨2, _, 0, H6, w3 _ c2, c3, by rw [eH6, thr0], fun q => by omega, IN0_mk I fw F' W', Or.inl ⟨by rw [gr6 _ _ (by omega)], f4, fun a i q => ?_, ⟨by rw [e8, en], fun x x0 x1 => by rw [l6]⟩, fun i hi => ?_, fun i hi => ?_⟩, rm_of (Or.inr ?_) (ct_e e12 (gH6' _ _ (by omega) (by omega) (by omega) (by omega) (by omega) (by omega) )), by omega⟩
    · rw [eP] at q
      exact gH6' a i (by omega) (by omega) (by omega) (by omega) (by omega) (by omega)
    · exact gH6' _ _ (by omega) (by omega) (by omega) (by omega) (by omega) (by omega)
    · exact gH6' _ _ (by omega) (by omega) (by omega) (by omega) (by omega) (by omega)
    · rw [eH6]; show H5.2.2 = _; rw [t4, z3.2.2, o4]; show (h2.2.2.1, h2.2.2.2.1, h2.2.2.2.2.1 + 1, h2.2.2.2.2.2 + 6) = (h.2.2.1, h.2.2.2.1, h.2.2.2.2.1 + 1, h.2.2.2.2.2 + 6); rw [s2]
  · -- they go
    obtain ⟨gd, hz, stl⟩ := y4 rfl
    obtain ⟨hT2, ehT⟩ : ∃ hT2, hT2 = si h2 1 12 t := ⟨_, rfl⟩
    have gT : ∀ a i, ¬ (a = 1 ∧ i = 12) → gi hT2 a i = gi h2 a i := fun a i q => by rw [ehT, gi_siq q]
    have lT : fL 9 hT2 = fL 9 h := by rw [← l2]; exact fL_o (fun q i q0 q1 => gT q i (by omega))
    have e80 : gi hT2 8 0 = n := by rw [gT _ _ (by omega), g2 _ _ (by omega) (by omega)]; exact en
    have F2' : FO (fL 9 h) n := by rw [← en]; exact F2
    obtain ⟨h3, k, x1, x2, x3, x4, x5, x6, x7, x8⟩ := s90 (h := hT2) (d := d - 1 - 1) (by omega) t (by rw [e80]; exact hn) (by rw [lT, e80]; exact F2')
    rw [e80] at x1 x2 x8
    rw [lT] at x8
    have g3 : ∀ a i, ¬ (8 ≤ a ∧ a ≤ 12) → ¬ (a = 1 ∧ i = 12) → gi h3 a i = gi h2 a i := fun a i p q => by rw [x4 a i (by omega) (by omega), gT a i q]
    have e312 : gi h3 1 12 = t := by rw [x4 _ _ (by omega) (by omega), ehT, gi_si, if_pos ⟨rfl, rfl⟩]
    have gr3 : ∀ a i, gr h3 a i = gr h2 a i := fun a i => by rw [x5, ehT, gr_si]
    have eQ3 : eqW (cW h2 Q) (cW h3 Q) := cW_far wQ (fun a i p q => g3 a i (by omega) (by omega))
    have gd3 := gds_fr0 I eQ3 gd
    have hz3 : ∀ r, gi h 2 0 ≤ r → r < 6 → rsz h3 Q r = 0 := fun r r0 r1 => by
      have e : rsz h3 Q r = rsz h2 Q r := (eQ3 r (by omega) r1).1
      rw [e]; exact hz r r0 r1
    obtain ⟨gP, h4, u1, u2, ⟨u3, u4⟩, u5, u6, u7, u8, u9, u10, u11, u12, u13⟩ := takeF (h2 := h3) (d := d - 1 - 1) (by omega) I eQ (by rw [g3 _ _ (by omega) (by omega), g2 _ _ (by omega) (by omega)]) ⟨by rw [gr3, gr2 _ _ (by omega)], by rw [gr3, gr2 _ _ (by omega)]⟩ (fun a i p q => by rw [g3 a i (by omega) (by omega), g2 a i (by omega) (by omega)]) gd3.1 hz3
    rw [eP] at gP u4 u10 u11
    have c2 : dF (d - 1) 89 [dR 1 10 1, dI x] h = rI (n - k) h4 := by
      rw [c1, b89_40, if_neg (by decide), g2 1 12 (by omega) (by omega), ck_p (by omega) (by omega), et, ← ehT, show gi hT2 1 12 = t by rw [ehT, gi_si, if_pos ⟨rfl, rfl⟩], x1, bk_v, b89_74, u1, bk_n, b89_79]
    have g48 : ∀ a i, 8 ≤ a → a ≤ 12 → gi h4 a i = gi h3 a i := fun a i p q => u2 _ _ (by omega) (by omega)
    have g4 : ∀ a i, ¬ (8 ≤ a ∧ a ≤ 12) → ¬ (Q ≤ a ∧ a ≤ Q + 16) → ¬ (137 ≤ a ∧ a ≤ 143) → ¬ (a = 1 ∧ 12 ≤ i ∧ i ≤ 16) → gi h4 a i = gi h a i := fun a i p q r s => by rw [u2 a i (by omega) (by omega), g3 a i p (by omega), g2 a i q r]
    have e412 : gi h4 1 12 = t := by rw [u2 _ _ (by omega) (by omega)]; exact e312
    obtain ⟨H3, o1, o2, o3, o4, o5, o6, o7, oP, oS, o9, o10⟩ := ref (sl h4 0 (n - k)) (fun a i q => g4 a i (by omega) (by omega) (by omega) (by omega))
    obtain ⟨o10, o11, o12⟩ := o10 rfl
    -- as many on both sides
    have iS : ∀ s, inF (fL 9 h3) k s ↔ inF (fL 168 H3) (n - c) s := fun s => by
      have e := inF_r F s
      rw [F3, en] at e
      rw [x8 s, oS s, e]
    have hk : n - c = k := (FO_eq x2.1 (by omega) x7 o7 iS).1
    obtain ⟨H4, eH4⟩ : ∃ H4, H4 = si H3 165 4 t := ⟨_, rfl⟩
    have gH4 : ∀ a i, ¬ (a = 165 ∧ (i = 0 ∨ i = 4 ∨ i = 5 ∨ (27 ≤ i ∧ i ≤ 34))) → ¬ (168 ≤ a ∧ a ≤ 171) → ¬ (175 ≤ a ∧ a ≤ 180) → ¬ (183 ≤ a ∧ a ≤ 190) → gi H4 a i = gi h4 a i := fun a i p q s t => by rw [eH4, gi_siq (by omega), o2 a i (by omega) q s t]; rfl
    have ea4 : eqW (rW h) (aW H4) := eqW_trans o9 (fun r _ _ => ⟨by show gi H4 184 r = gi H3 184 r; rw [eH4, gi_sin (by omega)], fun y _ _ => by show gi H4 183 _ = gi H3 183 _; rw [eH4, gi_sin (by omega)]⟩)
    obtain ⟨H6, v1, v2, v3, v4, v5, v6⟩ := s213 (h := H4) (d := d - 1) (by omega) (fun r r0 r1 => by
      have e : gi H4 184 r = gi h 178 r := (ea4 r r0 r1).1
      rw [e]; exact hrz r r0 r1)
    have e34 : gi H3 165 4 = gi h 165 4 := by rw [o2 _ _ (by omega) (by omega) (by omega) (by omega)]; show gi h4 165 4 = _; exact g4 _ _ (by omega) (by omega) (by omega) (by omega)
    have c3 : dF d 215 [dR 1 11 165, dI x] (sl h4 0 (n - k)) = rI (n - k) H6 := by
      rw [o1, b215_124, if_neg (by decide), e34, ck_p (by omega) (by omega), e4t, ← eH4, v1, bk_n, b215_222, show c = n - k by omega]
    have gH6 : ∀ a i, ¬ (a = 165 ∧ (i = 0 ∨ i = 4 ∨ i = 5 ∨ (27 ≤ i ∧ i ≤ 34) ∨ i = 44)) → ¬ (168 ≤ a ∧ a ≤ 171) → ¬ (175 ≤ a ∧ a ≤ 190) → gi H6 a i = gi h4 a i := fun a i p q s => by rw [v2 a i (by omega) (by omega) (by omega), gH4 a i (by omega) q (by omega) (by omega)]
    have gH6' : ∀ a i, ¬ (a = 165 ∧ (i = 0 ∨ i = 4 ∨ i = 5 ∨ (27 ≤ i ∧ i ≤ 34) ∨ i = 44)) → ¬ (168 ≤ a ∧ a ≤ 171) → ¬ (175 ≤ a ∧ a ≤ 190) → ¬ (8 ≤ a ∧ a ≤ 12) → ¬ (Q ≤ a ∧ a ≤ Q + 16) → ¬ (137 ≤ a ∧ a ≤ 143) → ¬ (a = 1 ∧ 12 ≤ i ∧ i ≤ 16) → gi H6 a i = gi h a i := fun a i p q s t u v w => by rw [gH6 a i p q s, g4 a i t u v w]
    have gr6 : ∀ a i, gr H6 a i = gr h4 a i := fun a i => by rw [v3, eH4, gr_si, o3]; rfl
    have fw : frW h H6 := ⟨fun a i q => by unfold wdF at q; exact gH6' a i (by omega) (by omega) (by omega) (by omega) (by omega) (by omega) (by omega), fun a i q q' => by rw [gr6, u5 a i q, gr3, gr2 a i q']⟩
    obtain ⟨f1, f2, f3, f4, f5, IR', H', L'⟩ := frW_c I fw
    have l9 : fL 9 H6 = fL 9 h3 := fL_o (fun q i q0 q1 => by rw [gH6 q i (by omega) (by omega) (by omega), g48 q i (by omega) (by omega)])
    have l168 : fL 168 H6 = fL 168 H3 := fL_o (fun q i q0 q1 => by rw [v2 q i (by omega) (by omega) (by omega), eH4, gi_sin (by omega)])
    have e8 : gi H6 8 0 = k := by rw [gH6 _ _ (by omega) (by omega) (by omega), g48 _ _ (by omega) (by omega)]; exact x3
    have e56 : gi H6 165 5 = k := by rw [v2 _ _ (by omega) (by omega) (by omega), eH4, gi_siq (by omega), o6]; exact hk
    have e12 : gi H6 1 12 = t := by rw [gH6 _ _ (by omega) (by omega) (by omega)]; exact e412
    have F' : IFc H6 := by
      refine IFc_mk (m := k) (by omega) e8 e56 (by rw [l9]; exact x7) (by rw [l168, ← hk]; exact o7) (fun s => ?_) (fun s q => ?_) ?_ ?_ ?_ ?_
      · rw [l9, l168, iS s, hk]
      · rw [l9] at q
        obtain ⟨q1, q2⟩ := (x8 s).mp q
        have o := ok1 s q1
        unfold okF at o ⊢
        unfold edd at q2
        rw [f1, f5, e12]
        exact ⟨o.1, o.2.1, o.2.2.1, by omega⟩
      · rw [v2 _ _ (by omega) (by omega) (by omega), eH4, gi_si, if_pos ⟨rfl, rfl⟩, e12]
      · rw [e12]; omega
      · rw [gH6' _ _ (by omega) (by omega) (by omega) (by omega) (by omega) (by omega) (by omega)]; exact F8
      · rw [gH6' _ _ (by omega) (by omega) (by omega) (by omega) (by omega) (by omega) (by omega)]; exact F9
    have W' : IRw H6 := by
      refine IRw_new (h := h) (h2 := h3) (h3 := h4) (P := P) (Q := Q) (ft := ftC h t (-1) (-1)) (W := rW H3) wP wQ wPQ IR' (by rw [f1, f2, f5, f4]; exact I.2.2.2.2.2.1) L' F'.1 f5 (fun r r0 r1 => (W7.1 r r0 r1).1) W3 (by rw [f1, f2, f3, f4]; exact gd3) ?_ hz3 gP u7 u8 u9 u10 u11 ⟨by rw [gr6]; exact u3, by rw [gr6]; exact u4⟩ (cW_far wQ (fun a i p q => gH6 a i (by omega) (by omega) (by omega))) (gH6 _ _ (by omega) (by omega) (by omega)) (gH6 _ _ (by omega) (by omega) (by omega)) (eqW_trans ea4 v5) (rW_same (fun i => ?_) (fun i => ?_)) o10 (by rw [f1, f2]; exact o11) (fun r r0 r1 c => ((inW_eq eQ3 r r0 r1 c).symm).trans (o12 r r0 r1 c))
      · rw [ftC_S, eft, e8, e12, l9]
        exact ftS_cg2 (fun s q => by rw [x8 s]; exact ⟨fun z => z.1, fun z => ⟨z, q⟩⟩)
      · rw [v2 _ _ (by omega) (by omega) (by omega), eH4, gi_sin (by omega)]
      · rw [v2 _ _ (by omega) (by omega) (by omega), eH4, gi_sin (by omega)]
    refine ⟨0, _, n - k, H6, w1 _ _ c2, c3, ?_, fun _ => ?_, IN0_mk I fw F' W', Or.inr ⟨?_, ?_, v6, ?_⟩, ?_, by omega⟩
    · rw [v2 _ _ (by omega) (by omega) (by omega), eH4, gi_siq (by omega)]; exact o5
    · show H6.2.2.1 0 = n - k
      rw [v4, eH4]
      show H3.2.2.1 0 = _
      rw [o4]
      exact (gl_sl h4 0 0 (n - k)).trans (if_pos rfl)
    · rw [gH6 _ _ (by omega) (by omega) (by omega)]; exact u12
    · rw [gH6 _ _ (by omega) (by omega) (by omega)]; exact u13
    · rw [gr6, u3]
      exact still_to (fun a i p q => by rw [gH6 a i (by omega) (by omega) (by omega), u2 a i (by omega) (by omega), g3 a i (by omega) (by omega)]) (fun r r0 r1 => by
        have e : rsz H6 Q r = rsz h4 Q r := gH6 _ _ (by omega) (by omega) (by omega)
        have e2 : rsz h3 Q r = rsz h2 Q r := (eQ3 r r0 r1).1
        rw [e, u8 r r0 r1, e2]) stl
    · have s4 : H6.2.2.2 = h.2.2.2 := by
        rw [v4, eH4]
        show H3.2.2.2 = _
        rw [o4]; show h4.2.2.2 = _; rw [u6, x6, ehT]; show h2.2.2.2 = _; rw [s2]
      unfold rm gz gc gs
      rw [s4]; exact ⟨rfl, Nat.le_succ _, Nat.le_add_right _ _, by rw [e12]; omega, by rw [gH6' 13 3 (by omega) (by omega) (by omega) (by omega) (by omega) (by omega) (by omega) ]; omega⟩
end PS2
