/-! THE CALL reaches, on -/
section RCH2
variable {h : dm_H} {π : Int → Int}
theorem eqf_K {h h' : dm_H} (f : fkj h h') : eqf h h' := ⟨fun i => f.1 _ _ (by omega) (by omega) (by omega) (by omega), fun i => f.1 _ _ (by omega) (by omega) (by omega) (by omega), fun i => f.1 _ _ (by omega) (by omega) (by omega) (by omega), fun i => f.1 _ _ (by omega) (by omega) (by omega) (by omega)⟩
theorem frJ_si {h : dm_H} {i x : Int} : frJ h (si h 137 i x) := ⟨fun a j p => gi_sin (by omega), fun _ _ _ => rfl, rfl⟩
theorem frJ_sv {h : dm_H} {w : mA} : frJ h (sv h 138 w) := ⟨fun a j p => gi_svn (by omega), fun _ _ _ => rfl, rfl⟩
theorem op_reaches {d : Nat} (hd : 10 ≤ d) (I : IN0 π h) (S : still h (gr h 1 8)) (x a b c : Int) : ∃ k h1 v h2, dF d 159 [dR 1 10 1, dI x, dI a, dI b, dI c, dR 4 1 196] h = rI k h1 ∧ dF d 269 [dR 1 11 165, dI x, dI a, dI b, dI c] h1 = rI v h2 ∧ gi h2 165 0 = k ∧ (k = 0 → gl h2 0 = v) ∧ IN0 π h2 ∧ frZ h h2 ∧ rm h h2 := by
  have I' := I
  obtain ⟨a1, a2, a3⟩ := thr_all I 1
  obtain ⟨b1, b2, b3⟩ := thr_all I 2
  obtain ⟨IR, ID, B, J0, NM, G, HH, L, F, W⟩ := I
  have hn := B.1
  have K := IR.1
  have c0 := s125 (h := h) (d := d - 1 - 1) (by omega) x hn
  have w := s159 (h := h) (d := d) (by omega) x a b c _ rfl
  rcases plc_same I' x with ⟨p1, p2⟩ | ⟨g, hg, gx, p1, p2, pg⟩
  · rw [p1, if_pos rfl] at c0
    have c : dF (d - 1) 160 [dR 1 10 1, dI x, dI a, dI b, dI c] h = rX 0 (sg h 6) := by rw [f160 (by omega), b160_0, c0, bk_x rfl]
    have r0 := s239 (h := sg h 6) (d := d - 1) (by omega) x
    have e : fz (fun p => gi (sg h 6) 174 p ≠ 0 ∧ gi (sg h 6) 173 p = x) 10 0 = -1 := p2
    rw [e] at r0
    refine ⟨1, _, 0, _, w.2.1 _ c, ?_, thr0, fun q => by omega, a1, a2, a3⟩
    rw [f269 (by omega), b269_0, r0, bk_v, b269_5, if_pos rfl, b269_45, b269_46, if_pos rfl, b269_69, thr0, if_pos (by decide)]
  rw [p1, if_neg (by omega)] at c0
  have R := B.2.2.1 g hg.1 hg.2
  have V : VW (cK h) (gi h 4) (cW h (gr h 1 8)) := W.2.2.2.2.2.2.1
  obtain ⟨G1, F1, E1⟩ := bothr I' hg.1 hg.2
  obtain ⟨A, eA⟩ : ∃ A, gr h 14 g = A := ⟨_, rfl⟩
  obtain ⟨P, eP⟩ : ∃ P, gr h 1 8 = P := ⟨_, rfl⟩
  rw [eA] at R G1 F1 E1
  rw [eP] at V S E1
  have hp : rw_ P := by rw [← eP]; exact W.1.1
  have hru : ru A := R.1
  have rr := ru_r hru
  obtain ⟨d1, d2, d3, d4, d5, d6, d7, d8, d9, d10, d11⟩ := R.2.1
  obtain ⟨s1, s2, s3, s4, s5, s6, s7⟩ := R.2.2.2.2.2.1
  -- the reference comes to its loop, or not
  have rf : ∀ H, fkj h H → (¬ (gi h A 1 = 0 ∧ wit (gi h A 3) 0 99 a b c) → dF d 269 [dR 1 11 165, dI x, dI a, dI b, dI c] H = rI 0 (si H 165 0 2)) ∧ (gi h A 1 = 0 → wit (gi h A 3) 0 99 a b c → dF d 269 [dR 1 11 165, dI x, dI a, dI b, dI c] H = dL (d - 1) 269 90 [lR 1 11 165, lI x, lI a, lI b, lI c, lI (π g), lI 1, lI (gi h A 4)] [] (si H 165 0 0)) := by
    intro H fH
    have e172 : ∀ i, gi H 172 i = gi h 172 i := fun i => fH.1 _ _ (by omega) (by omega) (by omega) (by omega)
    have r0 := s239 (h := H) (d := d - 1) (by omega) x
    have e : fz (fun p => gi H 174 p ≠ 0 ∧ gi H 173 p = x) 10 0 = π g := (fz_congr 10 0 (fun j _ _ => by rw [fH.1 _ _ (by omega) (by omega) (by omega) (by omega), fH.1 _ _ (by omega) (by omega) (by omega) (by omega)])).trans p2
    rw [e] at r0
    have st : dF d 269 [dR 1 11 165, dI x, dI a, dI b, dI c] H = if gi h A 1 = 0 ∧ wit (gi h A 3) 0 99 a b c then dL (d - 1) 269 46 [lR 1 11 165, lI x, lI a, lI b, lI c, lI (π g), none, none] [dI 1] H else dL (d - 1) 269 46 [lR 1 11 165, lI x, lI a, lI b, lI c, lI (π g), none, none] [dI 0] H := by
      rw [f269 (by omega), b269_0, r0, bk_v, b269_5, if_neg (by omega), s179 (by omega) (π g) 0 H s1 (by omega), bk_v, Int.add_zero, e172, s2, b269_20]
      by_cases q0 : gi h A 1 = 0
      · have q4 := d4 (by omega)
        have hc := (cK_c K q4.1.1 q4.1.2).2.1
        have e166 : gi H 166 (gi h A 2) = gi h A 3 := by rw [fH.1 _ _ (by omega) (by omega) (by omega) (by omega), (IR.2.2.1 _).1, q4.2]
        have h6 := K.1
        rw [if_pos q0, s179 (by omega) (π g) 1 H s1 (by omega), bk_v, e172, s3, b269_31, s171 (by omega) _ a b c H (by omega) (by rw [e166]; omega), e166, bk_v, b269_38]
        by_cases q1 : wit (gi h A 3) 0 99 a b c
        · rw [bi_1 q1, if_neg (by decide), if_pos ⟨q0, q1⟩]
        · rw [bi_0 q1, if_pos rfl, if_neg (fun z => q1 z.2), b269_45]
      · rw [if_neg q0, if_neg (fun z => q0 z.1), b269_45]
    refine ⟨fun q => ?_, fun q q' => ?_⟩
    · rw [st, if_neg q, b269_46, if_neg (by omega), if_pos rfl, b269_69, thr0, if_pos (by decide)]
    · rw [st, if_pos ⟨q, q'⟩, b269_46, if_neg (by omega), if_neg (by decide), b269_69, thr0, if_neg (by decide), s179 (by omega) (π g) 5 _ s1 (by omega), bk_v, gi_sin (by decide), e172, s5, b269_88]
  have no : ¬ (gi h A 1 = 0 ∧ wit (gi h A 3) 0 99 a b c) → ∃ k h1 v h2, dF d 159 [dR 1 10 1, dI x, dI a, dI b, dI c, dR 4 1 196] h = rI k h1 ∧ dF d 269 [dR 1 11 165, dI x, dI a, dI b, dI c] h1 = rI v h2 ∧ gi h2 165 0 = k ∧ (k = 0 → gl h2 0 = v) ∧ IN0 π h2 ∧ frZ h h2 ∧ rm h h2 := by
    intro q
    have c : dF (d - 1) 160 [dR 1 10 1, dI x, dI a, dI b, dI c] h = rX 1 (sg h 6) := by
      rw [f160 (by omega), b160_0, c0, bk_v, b160_5, ix_p hg.1 (by omega), eA]
      by_cases q0 : gi h A 1 = 0
      · rw [if_pos q0, s75 (by omega), bi_0 (fun z => q ⟨q0, z⟩), bk_v, b160_42, if_pos rfl, b160_45]
      · rw [if_neg q0, b160_45]
    exact ⟨2, _, 0, _, w.2.2 _ c, (rf (sg h 6) ⟨fun _ _ _ _ _ _ => rfl, fun _ _ _ => rfl⟩).1 q, thr0, fun q => by omega, b1, b2, b3⟩
  by_cases q : gi h A 1 = 0 ∧ wit (gi h A 3) 0 99 a b c
  case neg => exact no q
  obtain ⟨q0, q1⟩ := q
  have q4 := d4 (by omega)
  have hc := cK_c K q4.1.1 q4.1.2
  have h6 := K.1
  obtain ⟨n, en⟩ : ∃ n, gi h A 3 = n := ⟨_, rfl⟩
  rw [en] at q1 q4 d5
  have n13 : 1 ≤ n ∧ n ≤ 3 := by rw [q4.2]; exact hc.2
  have hb := wit_99 q1 (by omega) (by omega)
  have hf3 : ∀ i, 0 ≤ i → i < n → f3 a b c i = -1 ∨ (0 ≤ f3 a b c i ∧ f3 a b c i ≤ 99) := by
    intro i i0 i1
    right
    unfold f3
    repeat' split
    all_goals omega
  obtain ⟨j2, j3, j4, j5, j9, j10⟩ := bgn_j h A P 0
  obtain ⟨g6, g7, g8⟩ := bgn_gr h A P 0
  obtain ⟨H1, eH1⟩ : ∃ H1, H1 = si (bgn h A P 0) 137 4 1 := ⟨_, rfl⟩
  have f1 : frJ h H1 := by rw [eH1]; exact frJ_trans frJ_b frJ_si
  have va1 : va H1 138 = v0 := by
    rw [eH1, ← bgn_va h A P 0]
    funext s
    unfold va
    rw [gi_sin (by decide)]
  have eh : (fun i => gi H1 (A + 1) i) = gi h (A + 1) := funext (fun i => f1.1 _ _ (by omega))
  have e13 : gi (si (bgn h A P 0) 137 4 1) A 3 = n := by rw [← eH1, f1.1 _ _ (by omega), en]
  have hcode : 0 ≤ a * 10000 + b * 100 + c ∧ a * 10000 + b * 100 + c < 1000000 := by omega
  have s149' := s149 (d := d - 1 - 1) (by omega) n (a * 10000 + b * 100 + c) H1 (A := A) (by rw [eH1]; exact g6) hru (by omega) hcode
  rw [va1, eh, pH_G (f := f3 a b c) (fun j j0 j1 => ⟨by rcases hf3 j (by omega) (by omega) with z | z
                                                        · have : f3 a b c j = -1 := z
                                                          unfold f3 at this
                                                          exfalso
                                                          split at this
                                                          · omega
                                                          · split at this <;> omega
                                                        · omega, cv_f3 hb.1 hb.2.1 hb.2.2 j⟩)] at s149'
  have cst : dF (d - 1) 160 [dR 1 10 1, dI x, dI a, dI b, dI c] h = dm_back (dL (d - 1 - 1) 160) dm_t160 94 [lR 1 10 1, lI x, lI a, lI b, lI c, lI g, lR 1 8 A] [] (dF (d - 1 - 1) 149 [dR 1 5 137, dI n, dI (a * 10000 + b * 100 + c)] H1) := by
    rw [f160 (by omega), b160_0, c0, bk_v, b160_5, ix_p hg.1 (by omega), eA, if_pos q0, en, s75 (by omega), bi_1 q1, bk_v, b160_42, if_neg (by decide), eP, s20 (by omega), bk_n, b160_70, s77 (by omega) a b c _ hb.1 hb.2.1 hb.2.2, bk_v, b160_94, e13, ← eH1]
  have L0 := fun D w1 w6 => s269l (d := d) (h0 := h) (p := π g) (N := gi h A 4) (n := n) (D := D) (by omega) G1 F1 (by rw [s2]; omega) (by rw [s3]; omega) (by rw [s3, (IR.2.2.1 _).1, q4.2]) (by omega) (a := a) (b := b) (c := c) (t := gi h (A + 1)) s4 (fun i i0 i1 => d5 i i0 i1) hf3 w1 w6
  have fin : ∀ (v : Int) (h' : dm_H), frJ h h' → dF (d - 1) 160 [dR 1 10 1, dI x, dI a, dI b, dI c] h = rI v h' → (∃ H2, dL (d - 1) 269 90 [lR 1 11 165, lI x, lI a, lI b, lI c, lI (π g), lI 1, lI (gi h A 4)] [] (si (sl h' 0 v) 165 0 0) = rI v H2 ∧ frM (si (sl h' 0 v) 165 0 0) H2) → ∃ k h1 v h2, dF d 159 [dR 1 10 1, dI x, dI a, dI b, dI c, dR 4 1 196] h = rI k h1 ∧ dF d 269 [dR 1 11 165, dI x, dI a, dI b, dI c] h1 = rI v h2 ∧ gi h2 165 0 = k ∧ (k = 0 → gl h2 0 = v) ∧ IN0 π h2 ∧ frZ h h2 ∧ rm h h2 := by
    rintro v h' fJ cc ⟨H2, x1, x2⟩
    have fS : fkj h (sl h' 0 v) := fkj_trans (fkj_J fJ) fkj_l
    have s := fkj_all I' (fkj_trans (fkj_trans fS fkj_t) (fkj_M x2))
    have t1 : H2.2.2 = (sl h' 0 v).2.2 := by rw [x2.2.2]; rfl
    refine ⟨0, _, v, H2, w.1 _ _ cc, ?_, ?_, fun _ => ?_, s.1, s.2, rm_3 ?_ (ct_e ((fkj_trans (fkj_trans fS fkj_t) (fkj_M x2)).1 _ _ (by omega) (by omega) (by omega) (by omega) ) ((fkj_trans (fkj_trans fS fkj_t) (fkj_M x2)).1 _ _ (by omega) (by omega) (by omega) (by omega) ))⟩
    · rw [(rf (sl h' 0 v) fS).2 q0 (by rw [en]; exact q1), x1]
    · rw [x2.1 _ _ (by omega) (by omega) (by omega) (by omega), thr0]
    · show H2.2.2.1 0 = _
      rw [t1]
      show gl (sl h' 0 v) 0 = _
      rw [gl_sl, if_pos rfl]
    · rw [t1]
      show h'.2.2.2 = h.2.2.2
      rw [fJ.2.2]
  cases hw : pG (gi h (A + 1)) (f3 a b c) n.toNat 0 v0 with
  | none =>
    obtain ⟨u, hu, x1⟩ := s149'.2 hw
    rw [x1, bk_v, b160_97, if_pos rfl] at cst
    have fJ : frJ h (sv H1 138 u) := frJ_trans f1 frJ_sv
    refine fin (-1) _ fJ cst ?_
    have := (L0 0 (lI x) (lI 1)).1 hw (gi h A 4).toNat (si (sl (sv H1 138 u) 0 (-1)) 165 0 0) (by omega) (eqf_K (fkj_trans (fkj_J fJ) (fkj_trans fkj_l fkj_t)))
    rw [show (((gi h A 4).toNat : Nat) : Int) = gi h A 4 by omega] at this
    exact this
  | some v =>
    have x1 := s149'.1 v hw
    have hJ := pG_J (fun j a b => hf3 j (by omega) (by omega)) (v0_J (cR h A)).1 (v0_J (cR h A)).2.1 hw
    have fJ : frJ h (sv H1 138 v) := frJ_trans f1 frJ_sv
    have e137 : ∀ i, i ≠ 4 → gi (sv H1 138 v) 137 i = gi (bgn h A P 0) 137 i := fun i hi => by rw [gi_svn (by decide), eH1, gi_sij hi]
    obtain ⟨h', y1, y2, y3, y4⟩ := jn_step (d := d - 1 - 1) (h := h) (M := 1) (v := v) (by omega) K (RIN_c R) hp V S fJ (by rw [eH1]; exact ⟨g6, g7, g8⟩) ((e137 2 (by decide)).trans j2) ((e137 3 (by decide)).trans j3) (by rw [gi_svn (by decide), eH1, gi_sis]) (by omega) ((e137 5 (by decide)).trans j5) ((e137 9 (by decide)).trans j9) ((e137 10 (by decide)).trans j10) (va_sv hJ.1) ⟨hJ.1, hJ.2.1⟩
    rw [x1, bk_v, b160_97, if_neg (by decide), y1, bk_n, b160_110] at cst
    obtain ⟨i1, i2, i3, i4, i5⟩ := jn_fr hru hp fJ
    -- how far it comes, on both sides
    have eD : dpth (rRl h (π g)) (rW h) (gi h A 4).toNat 0 v = gi h' 137 3 := by
      rw [y4, i1]
      have k1 := dpth_le (rRl h (π g)) (rW h) (gi h A 4).toNat 0 v
      have k2 := dpth_le (cR h A) (cW (sv H1 138 v) P) (gi h A 4).toNat 0 v
      have eb : ∀ m : Nat, (m : Int) ≤ gi h A 4 → (bnd (rRl h (π g)) (rW h) m 0 v ≠ [] ↔ bnd (cR h A) (cW (sv H1 138 v) P) m 0 v ≠ []) := by
        intro m hm
        have GG := GWc K (RIN_c R) V
        rw [E1 m 0 v (by omega) (by omega), bnd_eqW i3 (N := gi h A 4) (fun k k0 k1 q => by
          rcases GG.2 k k0 k1 with z | z | z
          · exact z.2.1
          · exact z.2.1
          · rcases z.1 with w | w <;> omega) m 0 v (by omega) (by omega)]
      generalize eX : dpth (rRl h (π g)) (rW h) (gi h A 4).toNat 0 v = X at k1
      generalize eY : dpth (cR h A) (cW (sv H1 138 v) P) (gi h A 4).toNat 0 v = Y at k2
      have m1 := dpth_ge (rRl h (π g)) (rW h) (gi h A 4).toNat Y.toNat 0 v (by omega)
      have m2 := dpth_ge (cR h A) (cW (sv H1 138 v) P) (gi h A 4).toNat Y.toNat 0 v (by omega)
      have m3 := dpth_ge (rRl h (π g)) (rW h) (gi h A 4).toNat X.toNat 0 v (by omega)
      have m4 := dpth_ge (cR h A) (cW (sv H1 138 v) P) (gi h A 4).toNat X.toNat 0 v (by omega)
      rw [eX] at m1 m3
      rw [eY] at m2 m4
      have o1 := m1.mpr ((eb Y.toNat (by omega)).mpr (m2.mp (by omega)))
      have o2 := m4.mpr ((eb X.toNat (by omega)).mp (m3.mp (by omega)))
      omega
    have fJ2 : frJ h h' := y2
    refine fin (gi h' 137 3) h' fJ2 cst ?_
    have := (L0 (gi h' 137 3) (lI x) (lI 1)).2 v hw eD (gi h A 4).toNat (si (sl h' 0 (gi h' 137 3)) 165 0 0) (by omega) (by
      have := (dpth_le (rRl h (π g)) (rW h) (gi h A 4).toNat 0 v).2
      rw [eD] at this
      omega) (eqf_K (fkj_trans (fkj_J fJ2) (fkj_trans fkj_l fkj_t)))
    rw [show (((gi h A 4).toNat : Nat) : Int) = gi h A 4 by omega] at this
    exact this
end RCH2
