/-! THE CALL fact -/
section FC4
variable {h : dm_H} {π : Int → Int}
theorem s70 {d : Nat} (hd : 1 ≤ d) (r a b c p en : Int) (x : dm_O) (e : dF (d - 1) 71 [dR 1 10 1, dI r, dI a, dI b, dI c, dI p, dI en] h = x) :
    (∀ v h', x = rI v h' → dF d 70 [dR 1 10 1, dI r, dI a, dI b, dI c, dI p, dI en, dR 4 1 196] h = rI 0 (sl h' 0 v)) ∧ (∀ h', x = rX 0 h' → dF d 70 [dR 1 10 1, dI r, dI a, dI b, dI c, dI p, dI en, dR 4 1 196] h = rI 1 h') ∧ (∀ h', x = rX 1 h' → dF d 70 [dR 1 10 1, dI r, dI a, dI b, dI c, dI p, dI en, dR 4 1 196] h = rI 2 h') ∧ ∀ h', x = rX 2 h' → dF d 70 [dR 1 10 1, dI r, dI a, dI b, dI c, dI p, dI en, dR 4 1 196] h = rI 3 h' := by
  rw [f70 hd, b70_0, e]
  refine ⟨fun v h' ex => ?_, fun h' ex => ?_, fun h' ex => ?_, fun h' ex => ?_⟩
  · rw [ex, bk_v, b70_16, ix_p (by omega) (by omega)]
  · rw [ex, bk_c (g := 21) (j := 8) (n := 2) (L' := [lR 1 10 1, lI r, lI a, lI b, lI c, lI p, lI en, lR 4 1 196, none]) rfl (fun f => rfl)]
    exact b70_23 _ _ _ _ _ _ _ _ _ _ _
  · rw [ex, bk_c (g := 25) (j := 8) (n := 2) (L' := [lR 1 10 1, lI r, lI a, lI b, lI c, lI p, lI en, lR 4 1 196, none]) rfl (fun f => rfl)]
    exact b70_27 _ _ _ _ _ _ _ _ _ _ _
  · rw [ex, bk_c (g := 29) (j := 8) (n := 2) (L' := [lR 1 10 1, lI r, lI a, lI b, lI c, lI p, lI en, lR 4 1 196, none]) rfl (fun f => rfl)]
    exact b70_31 _ _ _ _ _ _ _ _ _ _ _
/-- the room that a call leaves -/
theorem rm_of {h h' : dm_H} (s : h'.2.2 = h.2.2 ∨ h'.2.2 = (sg h 6).2.2) (c : gi h' 1 12 ≤ gi h 1 12 + 100 ∧ gi h' 13 3 ≤ gi h 13 3 + 1) : rm h h' := by
  unfold rm gz gc gs
  rcases s with s | s
  · rw [s]; exact ⟨rfl, Nat.le_succ _, Nat.le_add_right _ _, c⟩
  · rw [s]; exact ⟨rfl, Nat.le_refl _, Nat.le_refl _, c⟩
theorem op_fact {d : Nat} (hd : 14 ≤ d) (I : IN0 π h) (r a b c p en : Int) : ∃ k h1 v h2, dF d 70 [dR 1 10 1, dI r, dI a, dI b, dI c, dI p, dI en, dR 4 1 196] h = rI k h1 ∧ dF d 169 [dR 1 11 165, dI r, dI a, dI b, dI c, dI p, dI en] h1 = rI v h2 ∧ gi h2 165 0 = k ∧ (k = 0 → gl h2 0 = v) ∧ IN0 π h2 ∧ (frZ2 h h2 ∨ dwnF h2) ∧ rm h h2 := by
  obtain ⟨w1, w2, w3, w4⟩ := s70 (h := h) (d := d) (by omega) r a b c p en _ rfl
  obtain ⟨q1, q2, q3, q4⟩ := s71a (d := d - 1) (by omega) I r a b c p en
  obtain ⟨r1, r2, r3, -⟩ := s169b (d := d) (H := sg h 6) (by omega) I (fun _ _ _ => rfl) r a b c p en
  by_cases y : 0 ≤ r ∧ r < gi h 2 0
  case neg =>
    obtain ⟨t1, t2, t3⟩ := thr_all I 1
    exact ⟨1, _, 0, _, w2 _ (q1 y), r1 y, thr0, fun q => by omega, t1, Or.inl (frZ_2 t2), t3⟩
  by_cases w : wit (gi h 3 r) 0 99 a b c ∧ (1 ≤ p ∧ p ≤ 99) ∧ (en = -1 ∨ gi h 1 12 < en)
  case neg =>
    obtain ⟨t1, t2, t3⟩ := thr_all I 2
    exact ⟨2, _, 0, _, w3 _ (q2 y w), r2 y w, thr0, fun q => by omega, t1, Or.inl (frZ_2 t2), t3⟩
  by_cases z : fpl (fL 9 h) (gi h 8 0) r (a * 10000 + b * 100 + c) = -1 ∧ gi h 8 0 < 24
  case neg =>
    obtain ⟨t1, t2, t3⟩ := thr_all I 3
    exact ⟨3, _, 0, _, w4 _ (q3 y w z), r3 y w z, thr0, fun q => by omega, t1, Or.inl (frZ_2 t2), t3⟩
  have q4 := q4 y w z
  clear q1 q2 q3 r1 r2 r3
  have n6 := I.1.1.1
  have F := I.2.2.2.2.2.2.2.2.1
  obtain ⟨F1, F2, F3, F4, F5, F6, F7, F8, F9⟩ := F
  have F := I.2.2.2.2.2.2.2.2.1
  obtain ⟨⟨wP, wQ, wPQ⟩, W2, W3, W4, W5, W6, W7⟩ := I.2.2.2.2.2.2.2.2.2
  have hcc := cK_c I.1.1 y.1 y.2
  have hb := wit_99 w.1 (by omega) (by omega)
  obtain ⟨n, en'⟩ : ∃ n, gi h 8 0 = n := ⟨_, rfl⟩
  obtain ⟨cd, ecd⟩ : ∃ cd, a * 10000 + b * 100 + c = cd := ⟨_, rfl⟩
  obtain ⟨Q, eQ⟩ : ∃ Q, gr h 1 9 = Q := ⟨_, rfl⟩
  obtain ⟨P, eP⟩ : ∃ P, gr h 1 8 = P := ⟨_, rfl⟩
  rw [eP] at wP wPQ W2 W3 W4 W6 W7
  rw [eQ] at wQ wPQ
  have qP : P = 95 ∨ P = 112 := wP
  have qQ : Q = 95 ∨ Q = 112 := wQ
  have vcc : vcd (cK h r) cd := by rw [hcc.1, ← ecd]; exact vcd_w hcc.2 w.1
  have new_ok : okF h (r, cd, p, en) := ⟨y, vcc, w.2.1, w.2.2⟩
  rw [ecd, en'] at z
  rw [ecd] at q4
  have hn : 0 ≤ n ∧ n < 24 := by have := F1.1; omega
  have hne : ∀ x, 0 ≤ x → x < n → ¬ ((fL 9 h x).1 = r ∧ (fL 9 h x).2.1 = cd) := by
    rcases fpl_r (f := fL 9 h) (r := r) (c := cd) hn.1 with ⟨_, q⟩ | ⟨q, _⟩
    · exact q
    · omega
  -- the class
  obtain ⟨h1, x1, x2, x3, x4, x5⟩ := ins_c (h := h) (d := d - 1 - 1) (by omega) r cd p en (by omega) (fun x x0 x1 => (F1.2 x x0 x1).2.1) vcc.1 (fun x x0 x1 => hne x x0 (by omega)) F2
  rw [en'] at x3 x4 x5
  have ok1 : ∀ s, inF (fL 9 h1) (n + 1) s → okF h s := fun s q => ((x5 s).mp q).elim (fun v => IFc_ok F (by rw [en']; exact v)) (fun v => by rw [v]; exact new_ok)
  obtain ⟨bb, h2, y1, y2, y3, y4, y5⟩ := jointF (d := d - 1 - 1) (e := d - 1) (by omega) (by omega) wQ I x2 (m := n + 1) (by omega) x3 ok1 (gi h 1 12) (-1) (-1)
  have c1 : dF (d - 1) 71 [dR 1 10 1, dI r, dI a, dI b, dI c, dI p, dI en] h = dL (d - 1 - 1) 71 116 [lR 1 10 1, lI r, lI a, lI b, lI c, lI p, lI en, lI cd] [dI bb] h2 := by
    rw [q4, x1, bk_n, b71_99, x2.2.1 1 9, eQ, x2.1 1 12 (by omega) (by omega), y1, bk_v]
  have g2 : ∀ a i, ¬ (8 ≤ a ∧ a ≤ 12) → ¬ (Q ≤ a ∧ a ≤ Q + 16) → ¬ (137 ≤ a ∧ a ≤ 143) → gi h2 a i = gi h a i := fun a i p q r => by rw [y2.1 a i (by omega) (by omega) r, x2.1 a i (by omega) (by omega)]
  have g28 : ∀ a i, 8 ≤ a → a ≤ 12 → gi h2 a i = gi h1 a i := fun a i p q => y2.1 a i (by omega) (by omega) (by omega)
  have gr2 : ∀ a i, ¬ (a = 137 ∨ a = 140 ∨ a = 143) → gr h2 a i = gr h a i := fun a i q => by rw [y2.2.1 a i (by omega) (by omega) (by omega), x2.2.1]
  have s2 : h2.2.2 = h.2.2 := by rw [y2.2.2, x2.2.2]
  have l2 : fL 9 h2 = fL 9 h1 := fL_o (fun q i q0 q1 => g28 q i (by omega) (by omega))
  have eft := ftC_S h1 (gi h 1 12)
  rw [x3] at eft
  have hrz : ∀ r, 0 ≤ r → r < 6 → 0 ≤ gi h 178 r ∧ gi h 178 r ≤ 32 := fun r r0 r1 => by
    have e : gi h 178 r = (cW h P).1 r := (W3 r r0 r1).1
    rw [e]; exact (W7.1 r r0 r1).1
  -- the reference up to what it finds, from any heap that the class leaves
  have ref : ∀ (Hs : dm_H), (∀ a i, 144 ≤ a → gi Hs a i = gi h a i) → ∃ w7 H3, dF d 169 [dR 1 11 165, dI r, dI a, dI b, dI c, dI p, dI en] Hs = dL (d - 1) 169 141 [lR 1 11 165, lI r, lI a, lI b, lI c, lI p, lI en, w7] [dI bb] H3 ∧ (∀ a i, ¬ (a = 165 ∧ (i = 0 ∨ i = 5 ∨ (27 ≤ i ∧ i ≤ 34))) → ¬ (168 ≤ a ∧ a ≤ 171) → ¬ (175 ≤ a ∧ a ≤ 180) → ¬ (183 ≤ a ∧ a ≤ 190) → gi H3 a i = gi Hs a i) ∧ (∀ a i, gr H3 a i = gr Hs a i) ∧ H3.2.2 = Hs.2.2 ∧ gi H3 165 0 = 0 ∧ gi H3 165 5 = n + 1 ∧ FO (fL 168 H3) (n + 1) ∧ (∀ s, inF (fL 168 H3) (n + 1) s ↔ inF (fL 9 h1) (n + 1) s) ∧ eqW (rW h) (aW H3) ∧ (bb = 1 → SRT (rW H3) ∧ VW (cK h) (gi h 4) (rW H3) ∧ ∀ r, 0 ≤ r → r < 6 → ∀ c, inW (cW h2 Q) r c ↔ inW (rW H3) r c) := by
    intro Hs es
    obtain ⟨-, -, -, rr⟩ := s169b (d := d) (H := Hs) (by omega) I es r a b c p en
    obtain ⟨w7, rr⟩ := rr y w (by rw [ecd, en']; exact z)
    obtain ⟨H0, eH0⟩ : ∃ H0, H0 = si Hs 165 0 0 := ⟨_, rfl⟩
    have gH0 : ∀ a i, ¬ (a = 165 ∧ i = 0) → gi H0 a i = gi Hs a i := fun a i q => by rw [eH0, gi_si, if_neg q]
    obtain ⟨H1, n1, n2, n3, n4, n5⟩ := s174 (h := H0) (d := d - 1) (by omega) (fun r r0 r1 => by rw [gH0 _ _ (by omega), es _ _ (by omega)]; exact hrz r r0 r1)
    have gH1 : ∀ a i, ¬ (a = 165 ∧ i = 0) → a ≠ 183 → a ≠ 184 → gi H1 a i = gi Hs a i := fun a i p q r => by rw [n2 a i q r, gH0 a i p]
    have l1 : fL 168 H1 = fL 168 h := fL_o (fun q i q0 q1 => by rw [gH1 _ _ (by omega) (by omega) (by omega), es _ _ (by omega)])
    have FR := FO_r F
    rw [F3, en'] at FR
    have fe : ∀ x, 0 ≤ x → x < n → fL 168 h x = fL 9 h x := fun x x0 x1 => F4 x x0 (by omega)
    obtain ⟨H2, m1, m2, m3, m4, m5⟩ := ins_r (h := H1) (d := d - 1) (by omega) r cd p en (n := n) (by rw [gH1 _ _ (by omega) (by omega) (by omega), es _ _ (by omega), F3, en']) hn (fun x x0 x1 => by
      have e := congrArg (fun t => t.2.1) (fe x x0 x1)
      have e : gi h 169 x = gi h 10 x := e
      rw [gH1 _ _ (by omega) (by omega) (by omega), es _ _ (by omega), e]
      exact (F1.2 x x0 (by omega)).2.1) vcc.1 (fun x x0 x1 => by
      have e := fe x x0 x1
      have e1 : gi h 168 x = (fL 9 h x).1 := congrArg (fun t => t.1) e
      have e2 : gi h 169 x = (fL 9 h x).2.1 := congrArg (fun t => t.2.1) e
      rw [gH1 _ _ (by omega) (by omega) (by omega), es _ _ (by omega), gH1 _ _ (by omega) (by omega) (by omega), es _ _ (by omega), e1, e2]
      exact hne x x0 x1) (by rw [l1]; exact FR)
    rw [l1] at m5
    have i2 : ∀ s, inF (fL 168 H2) (n + 1) s ↔ inF (fL 9 h1) (n + 1) s := fun s => by
      have e := inF_r F s
      rw [F3, en'] at e
      rw [m5 s, x5 s, e]
    have gH2 : ∀ a i, ¬ (a = 165 ∧ (i = 0 ∨ i = 5)) → ¬ (168 ≤ a ∧ a ≤ 171) → a ≠ 183 → a ≠ 184 → gi H2 a i = gi Hs a i := fun a i p q r s => by rw [m2.1 a i (by omega) (by omega), gH1 a i (by omega) r s]
    obtain ⟨H3, o1, o2, o4⟩ := y5 H2 (n + 1) (fun a i q => by rw [gH2 a i (by omega) (by omega) (by omega) (by omega), es _ _ (by omega)]) (by omega) m3 (fun s q => ok1 s ((i2 s).mp q)) (fun r' c' _ _ => by
      rw [eft, ftR_S (by rw [gH2 _ _ (by omega) (by omega) (by omega) (by omega), es _ _ (by omega)]; exact F8) (by rw [gH2 _ _ (by omega) (by omega) (by omega) (by omega), es _ _ (by omega)]; exact F9), m3]
      constructor
      · rintro ⟨s, s1, _, s3, s4⟩
        exact ⟨s, (i2 s).mpr s1, s3, s4⟩
      · rintro ⟨s, s1, s3, s4⟩
        have s1' := (i2 s).mp s1
        have o := (ok1 s s1').2.2.2
        exact ⟨s, s1', by unfold edd; omega, s3, s4⟩)
    have l3 : fL 168 H3 = fL 168 H2 := fL_o (fun q i q0 q1 => o2.1 q i (by omega) (by omega) (by omega))
    refine ⟨w7, H3, ?_, fun a i p q s t => by rw [o2.1 a i (by omega) (by omega) (by omega), gH2 a i (by omega) (by omega) (by omega) (by omega)], fun a i => by rw [o2.2.1, m2.2.1, n3, eH0, gr_si], ?_, ?_, by rw [o2.1 _ _ (by omega) (by omega) (by omega)]; exact m3, by rw [l3]; exact m4, by rw [l3]; exact i2, ?_, o4⟩
    · rw [rr, ← eH0, n1, bk_n, b169_121, s172 (by omega) _ hb.1 hb.2.1 hb.2.2, bk_v, b169_130, show 10000 * a + 100 * b + c = cd by omega, m1, bk_n, b169_137, o1, bk_v]
    · rw [o2.2.2, m2.2.2, n4, eH0]; rfl
    · rw [o2.1 _ _ (by omega) (by omega) (by omega), m2.1 _ _ (by omega) (by omega), n2 _ _ (by omega) (by omega), eH0, thr0]
    · have a1 : eqW (rW h) (rW H0) := rW_same (fun i => by rw [gH0 _ _ (by omega), es _ _ (by omega)]) (fun i => by rw [gH0 _ _ (by omega), es _ _ (by omega)])
      have a2 : eqW (aW H1) (aW H3) := fun r _ _ => ⟨by show gi H3 184 r = gi H1 184 r; rw [o2.1 _ _ (by omega) (by omega) (by omega), m2.1 _ _ (by omega) (by omega)], fun y _ _ => by show gi H3 183 _ = gi H1 183 _; rw [o2.1 _ _ (by omega) (by omega) (by omega), m2.1 _ _ (by omega) (by omega)]⟩
      exact eqW_trans (eqW_trans a1 n5) a2
  rcases y3 with rfl | rfl
  · -- there would be too much: the fact goes again
    obtain ⟨g, eg⟩ : ∃ g, fpl (fL 9 h1) (n + 1) r cd = g := ⟨_, rfl⟩
    have hg : (0 ≤ g ∧ g < n + 1) ∧ fL 9 h1 g = (r, cd, p, en) := by
      obtain ⟨x, x0, x1', x2'⟩ := (x5 (r, cd, p, en)).mpr (Or.inr rfl)
      rcases fpl_r (f := fL 9 h1) (n := n + 1) (r := r) (c := cd) (by omega) with ⟨_, q⟩ | ⟨q, q1, q2⟩
      · exact absurd ⟨by rw [x2'], by rw [x2']⟩ (q x x0 x1')
      · rw [eg] at q q1 q2
        refine ⟨q, ?_⟩
        have := FO_inj x4 x0 x1' q.1 q.2 (by unfold kyF; rw [x2', q1, q2])
        rw [← this]; exact x2'
    have e80 : gi h2 8 0 = n + 1 := by rw [g28 _ _ (by omega) (by omega)]; exact x3
    have sub : ∀ s, inF (fL 9 h1) (n + 1) s ∧ s ≠ (r, cd, p, en) ↔ inF (fL 9 h) n s := by
      intro s
      rw [x5 s]
      constructor
      · rintro ⟨q | q, v⟩
        · exact q
        · exact absurd q v
      · intro q
        refine ⟨Or.inl q, ?_⟩
        rintro rfl
        obtain ⟨x, x0, x1', x2'⟩ := q
        exact hne x x0 x1' ⟨by rw [x2'], by rw [x2']⟩
    obtain ⟨h3, u1, u2, u3, u4, u5⟩ := del_c (h := h2) (d := d - 1 - 1) (by omega) (g := g) (by rw [e80]; exact hg.1) (by omega) (by rw [l2, e80]; exact x4)
    rw [e80, show n + 1 - 1 = n by omega] at u3 u4 u5
    rw [l2, hg.2] at u5
    have c2 : dF (d - 1) 71 [dR 1 10 1, dI r, dI a, dI b, dI c, dI p, dI en] h = rX 2 (sg h3 6) := by
      rw [c1, b71_116, if_pos rfl, s78 (by omega) _ _ (by omega), l2, e80, eg, bk_v, b71_133, u1, bk_n, b71_136]
    have g3 : ∀ a i, ¬ (8 ≤ a ∧ a ≤ 12) → ¬ (Q ≤ a ∧ a ≤ Q + 16) → ¬ (137 ≤ a ∧ a ≤ 143) → gi h3 a i = gi h a i := fun a i p q r => by rw [u2.1 a i (by omega) (by omega), g2 a i p q r]
    have gr3 : ∀ a i, ¬ (a = 137 ∨ a = 140 ∨ a = 143) → gr h3 a i = gr h a i := fun a i q => by rw [u2.2.1, gr2 a i q]
    obtain ⟨w7, H3, o1, o2, o3, o4, o5, o6, o7, o8, o9, -⟩ := ref (sg h3 6) (fun a i q => g3 a i (by omega) (by omega) (by omega))
    -- the reference takes it back, too
    have hgr : fpl (fL 168 H3) (n + 1) r cd = g := by
      have := FO_eq (by omega) (by omega) x4 o7 (fun s => (o8 s).symm)
      rw [← eg]
      unfold fpl
      exact fz_same _ _ (fun j j0 j1 => by rw [this.2 j j0 (by omega)])
    have hg3 : fL 168 H3 g = (r, cd, p, en) := by
      have := FO_eq (by omega) (by omega) x4 o7 (fun s => (o8 s).symm)
      rw [this.2 g hg.1.1 hg.1.2]; exact hg.2
    obtain ⟨H4, v1, v2, v3, v4, v5⟩ := del_r (h := H3) (d := d - 1) (by omega) (g := g) (n := n + 1) o6 hg.1 (by omega) o7
    rw [show n + 1 - 1 = n by omega] at v3 v4 v5
    rw [hg3] at v5
    have gH4 : ∀ a i, ¬ (a = 165 ∧ (i = 0 ∨ i = 5 ∨ (27 ≤ i ∧ i ≤ 34))) → ¬ (168 ≤ a ∧ a ≤ 171) → ¬ (175 ≤ a ∧ a ≤ 180) → ¬ (183 ≤ a ∧ a ≤ 190) → gi H4 a i = gi h3 a i := fun a i p q s t => by rw [v2.1 a i (by omega) (by omega), o2 a i p q s t]; rfl
    have gH4' : ∀ a i, a = 166 ∨ a = 167 ∨ a = 172 ∨ a = 174 → gi H4 a i = gi h a i := fun a i q => by rw [gH4 a i (by omega) (by omega) (by omega) (by omega), g3 a i (by omega) (by omega) (by omega)]
    have HB4 := HBr_cg (h := h) (h' := H4) (fun i => gH4' _ _ (by omega)) (fun i => gH4' _ _ (by omega)) (fun i => gH4' _ _ (by omega)) (fun i => gH4' _ _ (by omega)) (BKS_HBr I.1 I.2.2.1)
    have L := I.2.2.2.2.2.2.2.1
    have eaW : eqW (rW h) (aW H4) := eqW_trans o9 (fun r _ _ => ⟨by show gi H4 184 r = gi H3 184 r; rw [v2.1 _ _ (by omega) (by omega)], fun y _ _ => by show gi H4 183 _ = gi H3 183 _; rw [v2.1 _ _ (by omega) (by omega)]⟩)
    obtain ⟨H5, t1, t2, t3, t4, t5, t6, t7⟩ := s212 (h := H4) (d := d - 1) (by omega) I.2.2.2.2.2.1 (fun r => by rw [gH4' _ _ (by omega)]; exact (I.1.2.2.1 r).2) HB4 L.1 (fun r r0 r1 => by have := L.2.1 r r0 r1; have := L.2.2; omega) (fun r r0 r1 => by
      have e : gi H4 184 r = gi h 178 r := (eaW r r0 r1).1
      rw [e]; exact hrz r r0 r1)
    obtain ⟨H6, eH6⟩ : ∃ H6, H6 = si H5 165 0 3 := ⟨_, rfl⟩
    have c3 : dF d 169 [dR 1 11 165, dI r, dI a, dI b, dI c, dI p, dI en] (sg h3 6) = rI 0 H6 := by
      rw [o1, b169_141, if_pos rfl, s172 (by omega) _ hb.1 hb.2.1 hb.2.2, bk_v, b169_154, show 10000 * a + 100 * b + c = cd by omega, s173 (by omega) _ _ (by rw [o6]; omega), o6, hgr, bk_v, b169_157, v1, bk_n, b169_160, t1, bk_n, b169_164, ← eH6]
    have gH6 : ∀ a i, ¬ (a = 165 ∧ (i = 0 ∨ i = 5 ∨ i = 10 ∨ i = 11 ∨ (27 ≤ i ∧ i ≤ 34))) → ¬ (168 ≤ a ∧ a ≤ 171) → ¬ (175 ≤ a ∧ a ≤ 180) → ¬ (183 ≤ a ∧ a ≤ 190) → gi H6 a i = gi h3 a i := fun a i p q s t => by rw [eH6, gi_si, if_neg (by omega), t2 a i (by omega) (by omega), gH4 a i (by omega) q s t]
    have gH6' : ∀ a i, ¬ (a = 165 ∧ (i = 0 ∨ i = 5 ∨ i = 10 ∨ i = 11 ∨ (27 ≤ i ∧ i ≤ 34))) → ¬ (168 ≤ a ∧ a ≤ 171) → ¬ (175 ≤ a ∧ a ≤ 180) → ¬ (183 ≤ a ∧ a ≤ 190) → ¬ (8 ≤ a ∧ a ≤ 12) → ¬ (Q ≤ a ∧ a ≤ Q + 16) → ¬ (137 ≤ a ∧ a ≤ 143) → gi H6 a i = gi h a i := fun a i p q s t u v w => by rw [gH6 a i p q s t, g3 a i u v w]
    have gr6 : ∀ a i, ¬ (a = 137 ∨ a = 140 ∨ a = 143) → gr H6 a i = gr h a i := fun a i q => by rw [eH6, gr_si, t3, v2.2.1, o3]; exact gr3 a i q
    have fw : frW h H6 := ⟨fun a i q => by unfold wdF at q; exact gH6' a i (by omega) (by omega) (by omega) (by omega) (by omega) (by omega) (by omega), fun a i _ q => gr6 a i q⟩
    obtain ⟨f1, f2, f3, f4, f5, -⟩ := frW_c I fw
    have l6 : fL 9 H6 = fL 9 h3 := fL_o (fun q i q0 q1 => gH6 q i (by omega) (by omega) (by omega) (by omega))
    have l168 : fL 168 H6 = fL 168 H4 := fL_o (fun q i q0 q1 => by rw [eH6, gi_sin (by omega), t2 q i (by omega) (by omega)])
    have e8 : gi H6 8 0 = n := by rw [gH6 _ _ (by omega) (by omega) (by omega) (by omega)]; exact u3
    have e5 : gi H6 165 5 = n := by rw [eH6, gi_siq (by omega), t2 _ _ (by omega) (by omega)]; exact v3
    have i9 : ∀ s, inF (fL 9 H6) n s ↔ inF (fL 9 h) n s := fun s => by rw [l6, u5 s, sub s]
    have F' : IFc H6 := by
      refine IFc_mk (m := n) (by omega) e8 e5 (by rw [l6]; exact u4) (by rw [l168]; exact v4) (fun s => ?_) (fun s q => ?_) ?_ ?_ ?_ ?_
      · rw [i9 s, l168, v5 s, o8 s, sub s]
      · have o := IFc_ok F (by rw [en']; exact (i9 s).mp q)
        unfold okF at o ⊢
        rw [f1, f5, gH6' 1 12 (by omega) (by omega) (by omega) (by omega) (by omega) (by omega) (by omega)]
        exact o
      · rw [gH6' _ _ (by omega) (by omega) (by omega) (by omega) (by omega) (by omega) (by omega), gH6' _ _ (by omega) (by omega) (by omega) (by omega) (by omega) (by omega) (by omega)]; exact F6
      · rw [gH6' _ _ (by omega) (by omega) (by omega) (by omega) (by omega) (by omega) (by omega)]; exact F7
      · rw [eH6, gi_siq (by omega)]; exact t6
      · rw [eH6, gi_siq (by omega)]; exact t7
    have eW : eqW (cW h P) (cW H6 P) := cW_far wP (fun a i p q => gH6' a i (by omega) (by omega) (by omega) (by omega) (by omega) (by omega) (by omega))
    have eo : oW H6 = oW h := by
      have a1 : (fun r => gi H6 182 r) = fun r => gi h 182 r := funext (fun r => gH6' _ _ (by omega) (by omega) (by omega) (by omega) (by omega) (by omega) (by omega))
      have a2 : (fun r x => gi H6 181 (40 * r + x)) = fun (r x : Int) => gi h 181 (40 * r + x) := by
        funext r x
        exact gH6' _ _ (by omega) (by omega) (by omega) (by omega) (by omega) (by omega) (by omega)
      unfold oW
      rw [a1, a2]
    have W' : IRw H6 := by
      refine IRw_old I eP eQ ⟨by rw [gr6 _ _ (by omega)]; exact eP, by rw [gr6 _ _ (by omega)]; exact eQ⟩ eW ?_ eo (gH6' _ _ (by omega) (by omega) (by omega) (by omega) (by omega) (by omega) (by omega)) (gH6' _ _ (by omega) (by omega) (by omega) (by omega) (by omega) (by omega) (by omega)) ?_ ⟨f1, f2, f3, f4, f5⟩
      · exact eqW_trans (eqW_trans eaW t5) (rW_same (fun i => by rw [eH6, gi_sin (by omega)]) (fun i => by rw [eH6, gi_sin (by omega)]))
      · rw [ftC_S, ftC_S, e8, en', gH6' 1 12 (by omega) (by omega) (by omega) (by omega) (by omega) (by omega) (by omega)]
        exact ftS_cg i9
    have fl9 := FO_eq (by omega) (by omega) (by rw [← en']; exact F2) (by rw [l6]; exact u4) (fun s => (i9 s).symm)
    refine ⟨3, _, 0, H6, w4 _ c2, c3, by rw [eH6, thr0], fun q => by omega, IN0_mk I fw F' W', Or.inl ⟨by rw [gr6 _ _ (by omega)], f4, fun a i q => ?_, ⟨by rw [e8, en'], fun x x0 x1 => fl9.2 x x0 (by omega)⟩, fun i hi => ?_, fun i hi => ?_⟩, rm_of (Or.inr ?_) (ct_e (gH6' _ _ (by omega) (by omega) (by omega) (by omega) (by omega) (by omega) (by omega) ) (gH6' _ _ (by omega) (by omega) (by omega) (by omega) (by omega) (by omega) (by omega) ))⟩
    · rw [eP] at q
      exact gH6' a i (by omega) (by omega) (by omega) (by omega) (by omega) (by omega) (by omega)
    · exact gH6' _ _ (by omega) (by omega) (by omega) (by omega) (by omega) (by omega) (by omega)
    · exact gH6' _ _ (by omega) (by omega) (by omega) (by omega) (by omega) (by omega) (by omega)
    · rw [eH6]; show H5.2.2 = _; rw [t4, v2.2.2, o4]; show (h3.2.2.1, h3.2.2.2.1, h3.2.2.2.2.1 + 1, h3.2.2.2.2.2 + 6) = (h.2.2.1, h.2.2.2.1, h.2.2.2.2.1 + 1, h.2.2.2.2.2 + 6); rw [u2.2.2, s2]
  · -- it stays
    obtain ⟨gd, hz, stl⟩ := y4 rfl
    obtain ⟨gP, h3, u1, u2, ⟨u3, u4⟩, u5, u6, u7, u8, u9, u10, u11, u12, u13⟩ := takeF (h2 := h2) (d := d - 1 - 1) (by omega) I eQ (g2 _ _ (by omega) (by omega) (by omega)) ⟨gr2 _ _ (by omega), gr2 _ _ (by omega)⟩ (fun a i p q => g2 a i (by omega) (by omega) (by omega)) gd.1 hz
    rw [eP] at gP u4 u10 u11
    have c2 : dF (d - 1) 71 [dR 1 10 1, dI r, dI a, dI b, dI c, dI p, dI en] h = rI (n + 1) h3 := by
      rw [c1, b71_116, if_neg (by decide), u1, bk_n, b71_150, u2 _ _ (by omega) (by omega), g28 _ _ (by omega) (by omega), x3]
    have g38 : ∀ a i, 8 ≤ a → a ≤ 12 → gi h3 a i = gi h1 a i := fun a i p q => by rw [u2 _ _ (by omega) (by omega), g28 a i p q]
    have g3 : ∀ a i, ¬ (8 ≤ a ∧ a ≤ 12) → ¬ (Q ≤ a ∧ a ≤ Q + 16) → ¬ (137 ≤ a ∧ a ≤ 143) → ¬ (a = 1 ∧ 13 ≤ i ∧ i ≤ 16) → gi h3 a i = gi h a i := fun a i p q r s => by rw [u2 a i (by omega) s, g2 a i p q r]
    obtain ⟨w7, H3, o1, o2, o3, o4, o5, o6, o7, o8, o9, o10⟩ := ref (sl h3 0 (n + 1)) (fun a i q => g3 a i (by omega) (by omega) (by omega) (by omega))
    obtain ⟨o10, o11, o12⟩ := o10 rfl
    obtain ⟨H4, v1, v2, v3, v4, v5, v6⟩ := s213 (h := H3) (d := d - 1) (by omega) (fun r r0 r1 => by
      have e : gi H3 184 r = gi h 178 r := (o9 r r0 r1).1
      rw [e]; exact hrz r r0 r1)
    have c3 : dF d 169 [dR 1 11 165, dI r, dI a, dI b, dI c, dI p, dI en] (sl h3 0 (n + 1)) = rI (n + 1) H4 := by
      rw [o1, b169_141, if_neg (by decide), v1, bk_n, b169_175, v2 _ _ (by omega) (by omega) (by omega), o6]
    have gH4 : ∀ a i, ¬ (a = 165 ∧ (i = 0 ∨ i = 5 ∨ (27 ≤ i ∧ i ≤ 34) ∨ i = 44)) → ¬ (168 ≤ a ∧ a ≤ 171) → ¬ (175 ≤ a ∧ a ≤ 190) → gi H4 a i = gi h3 a i := fun a i p q s => by rw [v2 a i (by omega) (by omega) (by omega), o2 a i (by omega) q (by omega) (by omega)]; rfl
    have gH4' : ∀ a i, ¬ (a = 165 ∧ (i = 0 ∨ i = 5 ∨ (27 ≤ i ∧ i ≤ 34) ∨ i = 44)) → ¬ (168 ≤ a ∧ a ≤ 171) → ¬ (175 ≤ a ∧ a ≤ 190) → ¬ (8 ≤ a ∧ a ≤ 12) → ¬ (Q ≤ a ∧ a ≤ Q + 16) → ¬ (137 ≤ a ∧ a ≤ 143) → ¬ (a = 1 ∧ 13 ≤ i ∧ i ≤ 16) → gi H4 a i = gi h a i := fun a i p q s t u v w => by rw [gH4 a i p q s, g3 a i t u v w]
    have gr4 : ∀ a i, gr H4 a i = gr h3 a i := fun a i => by rw [v3, o3]; rfl
    have fw : frW h H4 := ⟨fun a i q => by unfold wdF at q; exact gH4' a i (by omega) (by omega) (by omega) (by omega) (by omega) (by omega) (by omega), fun a i q q' => by rw [gr4, u5 a i q, gr2 a i q']⟩
    obtain ⟨f1, f2, f3, f4, f5, IR', H', L'⟩ := frW_c I fw
    have l9 : fL 9 H4 = fL 9 h1 := fL_o (fun q i q0 q1 => by rw [gH4 q i (by omega) (by omega) (by omega), g38 q i (by omega) (by omega)])
    have l168 : fL 168 H4 = fL 168 H3 := fL_o (fun q i q0 q1 => v2 q i (by omega) (by omega) (by omega))
    have e8 : gi H4 8 0 = n + 1 := by rw [gH4 _ _ (by omega) (by omega) (by omega), g38 _ _ (by omega) (by omega)]; exact x3
    have e5 : gi H4 165 5 = n + 1 := by rw [v2 _ _ (by omega) (by omega) (by omega)]; exact o6
    have e12 : gi H4 1 12 = gi h 1 12 := gH4' _ _ (by omega) (by omega) (by omega) (by omega) (by omega) (by omega) (by omega)
    have F' : IFc H4 := by
      refine IFc_mk (m := n + 1) (by omega) e8 e5 (by rw [l9]; exact x4) (by rw [l168]; exact o7) (fun s => by rw [l9, l168, o8 s]) (fun s q => ?_) ?_ ?_ ?_ ?_
      · rw [l9] at q
        have o := ok1 s q
        unfold okF at o ⊢
        rw [f1, f5, e12]
        exact o
      · rw [gH4' _ _ (by omega) (by omega) (by omega) (by omega) (by omega) (by omega) (by omega), e12]; exact F6
      · rw [e12]; exact F7
      · rw [gH4' _ _ (by omega) (by omega) (by omega) (by omega) (by omega) (by omega) (by omega)]; exact F8
      · rw [gH4' _ _ (by omega) (by omega) (by omega) (by omega) (by omega) (by omega) (by omega)]; exact F9
    have W' : IRw H4 := by
      refine IRw_new (h := h) (h2 := h2) (h3 := h3) (P := P) (Q := Q) (ft := ftC h1 (gi h 1 12) (-1) (-1)) (W := rW H3) wP wQ wPQ IR' (by rw [f1, f2, f5, f4]; exact I.2.2.2.2.2.1) L' F'.1 f5 (fun r r0 r1 => (W7.1 r r0 r1).1) W3 (by rw [f1, f2, f3, f4]; exact gd) ?_ hz gP u7 u8 u9 u10 u11 ⟨by rw [gr4]; exact u3, by rw [gr4]; exact u4⟩ (cW_far wQ (fun a i p q => gH4 a i (by omega) (by omega) (by omega))) (gH4 _ _ (by omega) (by omega) (by omega)) (gH4 _ _ (by omega) (by omega) (by omega)) (eqW_trans o9 v5) (rW_same (fun i => v2 _ _ (by omega) (by omega) (by omega)) (fun i => v2 _ _ (by omega) (by omega) (by omega))) o10 (by rw [f1, f2]; exact o11) o12
      rw [ftC_S, eft, e8, e12, l9]
    refine ⟨0, _, n + 1, H4, w1 _ _ c2, c3, ?_, fun _ => ?_, IN0_mk I fw F' W', Or.inr ⟨?_, ?_, v6, ?_⟩, ?_⟩
    · rw [v2 _ _ (by omega) (by omega) (by omega)]; exact o5
    · show H4.2.2.1 0 = n + 1
      rw [v4, o4]
      exact (gl_sl h3 0 0 (n + 1)).trans (if_pos rfl)
    · rw [gH4 _ _ (by omega) (by omega) (by omega)]; exact u12
    · rw [gH4 _ _ (by omega) (by omega) (by omega)]; exact u13
    · rw [gr4, u3]
      exact still_to (fun a i p q => by rw [gH4 a i (by omega) (by omega) (by omega), u2 a i (by omega) (by omega)]) (fun r r0 r1 => by
        have e : rsz H4 Q r = rsz h3 Q r := gH4 _ _ (by omega) (by omega) (by omega)
        rw [e, u8 r r0 r1]) stl
    · have s4 : H4.2.2.2 = h.2.2.2 := by rw [v4, o4]; show h3.2.2.2 = _; rw [u6, s2]
      unfold rm gz gc gs
      rw [s4]; exact ⟨rfl, Nat.le_succ _, Nat.le_add_right _ _, ct_e (gH4' _ _ (by omega) (by omega) (by omega) (by omega) (by omega) (by omega) (by omega) ) (gH4' _ _ (by omega) (by omega) (by omega) (by omega) (by omega) (by omega) (by omega) )⟩
end FC4
