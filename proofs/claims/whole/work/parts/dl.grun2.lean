/-! GOALS: the class's search, on -/
section GR2
variable {h H : dm_H} {π : Int → Int}
theorem Tg_eqW {ρ : mR} {ω ω' : mW} {kd : Int → Int} {N : Int} (G : GW ρ ω N) (e : eqW ω ω') {n : Nat} {v : mA} {g : Int} (hn : (n : Int) ≤ N) : Tg ρ ω' kd n 0 v g ↔ Tg ρ ω kd n 0 v g := by
  have hb : ∀ m : Nat, (m : Int) ≤ N → bnd ρ ω' m 0 v = bnd ρ ω m 0 v := fun m hm => bnd_eqW (N := N) e (fun k k0 k1 q => by
    rcases G.2 k k0 k1 with z | z | z
    · exact z.2.1
    · exact z.2.1
    · rcases z.1 with w | w <;> omega) m 0 v (by omega) (by omega)
  rw [Tg_iff, Tg_iff]
  constructor
  · rintro ⟨m, m1, m2, x, x1, x2⟩
    exact ⟨m, m1, m2, x, by rw [← hb m (by omega)]; exact x1, x2⟩
  · rintro ⟨m, m1, m2, x, x1, x2⟩
    exact ⟨m, m1, m2, x, by rw [hb m (by omega)]; exact x1, x2⟩
/-- rule j is asked for one goal -/
theorem s144j {d : Nat} (hd : 9 ≤ d) (I : IN0 π h) (S : still h (gr h 1 8)) {R : Int → Prop} (hR : ∀ g, R g → okG g) (hN : ∀ a b, R a → nxt h a b → R b) (f : fgr h H) (GI : GIs R H) {x j : Int} (hx : 0 ≤ x ∧ x < gi H 161 4) (hj : 0 ≤ j ∧ j < gi h 13 1) (w2 : Option dm_V) : ∃ H', dL (d - 1) 144 41 [lR 1 3 161, lR 1 7 (gr h 1 8), w2, lI x, lI j] [] H = dL (d - 1) 144 131 [lR 1 3 161, lR 1 7 (gr h 1 8), w2, lI x, lI j] [] H' ∧ fgr h H' ∧ GIs R H' ∧ gmo H H' ∧ (fullG H' ∨ ∀ b, nxj h j (gi H 162 x) b → fnd H' b) := by
  have hW := I.2.2.2.2.2.2.2.2.2.1
  have hP : gr h 1 8 = 95 ∨ gr h 1 8 = 112 := hW.1
  have V : VW (cK h) (gi h 4) (cW h (gr h 1 8)) := I.2.2.2.2.2.2.2.2.2.2.2.2.2.2.2.1
  have hn := I.2.2.1.1
  have hz := GI.1.1
  have Rg := GI.2 x hx.1 hx.2
  have og := hR _ Rg
  obtain ⟨lo, lr⟩ := fgr_lo f
  have hrr := (I.2.2.1.2.2.1 j hj.1 hj.2)
  have hru := ru_r hrr.1
  have l14 : gr H 14 j = gr h 14 j := lr _ _ (by omega)
  have l13 : gi H 13 1 = gi h 13 1 := lo _ _ (by omega)
  obtain ⟨H1, eH1⟩ : ∃ H1, H1 = sr H 161 3 (gr h 14 j) := ⟨_, rfl⟩
  have g1 : ∀ a i, gi H1 a i = gi H a i := fun a i => by rw [eH1]; rfl
  have r1 : ∀ a i, gr H1 a i = if a = 161 ∧ i = 3 then gr h 14 j else gr H a i := fun a i => by rw [eH1]; rfl
  have f1 : fgr h H1 := fgr_trans f ⟨fun a i _ _ _ _ => g1 a i, fun a i _ q => by rw [r1, if_neg q], by rw [eH1]; rfl⟩
  have S1 : GIs R H1 := GIs_cg (fun a i _ => g1 a i) GI
  have m1 : gmo H H1 := gmo_s (fun a i _ => g1 a i)
  have e3 : gr H1 161 3 = gr h 14 j := by rw [r1, if_pos ⟨rfl, rfl⟩]
  have eA : ∀ i, gi H1 (gr h 14 j) i = gi h (gr h 14 j) i := fun i => by rw [g1]; exact lo _ _ (by omega)
  rw [b144_41, l13, if_pos (by omega), ix_p hj.1 (by omega), l14, ← eH1, e3, eA, eA, ix_p hx.1 (by omega), g1 162 x]
  have sh : dm_shr (gi H 162 x) 21 = grl (gi H 162 x) := by
    have o := (okG_r og).1
    have := shr_g (g := gi H 162 x) (by omega) (j := 21) (by omega)
    rw [show (((2 ^ 21 : Nat) : Int)) = 2097152 by decide] at this
    exact this
  by_cases k3 : gi h (gr h 14 j) 1 = 3
  · rw [if_pos k3]
    exact ⟨H1, rfl, f1, S1, m1, Or.inr (fun b n => absurd k3 n.1)⟩
  rw [if_neg k3, sh]
  by_cases kr : gi h (gr h 14 j) 2 = grl (gi H 162 x)
  case neg =>
    rw [if_neg kr]
    exact ⟨H1, rfl, f1, S1, m1, Or.inr (fun b n => absurd n.2.1 kr)⟩
  rw [if_pos kr, s20 (by omega), bk_n, b144_110, ix_p hx.1 (by omega)]
  obtain ⟨A, eAA⟩ : ∃ A, gr h 14 j = A := ⟨_, rfl⟩
  obtain ⟨P, eP⟩ : ∃ P, gr h 1 8 = P := ⟨_, rfl⟩
  obtain ⟨H2, eH2⟩ : ∃ H2, H2 = bgn H1 A P 161 := ⟨_, rfl⟩
  have q4 := hrr.2.1.2.2.2.1 k3
  have hk := cK_c I.1.1 q4.1.1 q4.1.2
  have h6 := I.1.1.1
  have hk3 : 1 ≤ gi h (gr h 14 j) 3 ∧ gi h (gr h 14 j) 3 ≤ 3 := by rw [q4.2]; exact hk.2
  have DS := hrr.2.1
  have nxj1 : ∀ b, nxj h j (gi H 162 x) b → R b := fun b n => hN _ b Rg ⟨j, hj, n⟩
  unfold nxj at nxj1 ⊢
  rw [eAA] at hru q4 hk3 DS kr k3 e3 eA nxj1 ⊢
  rw [eP] at hP V S nxj1 ⊢
  rw [← eH2]
  have fJ : frJ H1 H2 := by rw [eH2]; exact frJ_b
  have f2 : fgr h H2 := fgr_trans f1 (fgr_J fJ)
  have g2 : ∀ a i, ¬ (137 ≤ a ∧ a ≤ 139) → gi H2 a i = gi H a i := fun a i q => by rw [fJ.1 a i q, g1]
  have S2 : GIs R H2 := GIs_cg (fun a i q => g2 a i (by omega)) GI
  have m2 : gmo H H2 := gmo_s (fun a i q => g2 a i (by omega))
  have va2 : va H2 138 = v0 := by rw [eH2]; exact bgn_va H1 A P 161
  have lo2 := fgr_lo f2
  have eA1 : gi H2 (A + 1) = gi h (A + 1) := funext (fun i => lo2.1 _ _ (by omega))
  have em : mcl H2 A = mcl h A := by
    unfold mcl
    rw [lo2.1 A 1 (by omega), lo2.1 A 2 (by omega), lo2.1 A 3 (by omega), lo2.1 4 _ (by omega)]
  have r161 : gr H2 161 3 = A := by rw [fJ.2.1 _ _ (by omega)]; exact e3
  have s := s145 (d := d - 1) (H := H2) (by omega) r161 (by rw [eH2]; exact (bgn_gr H1 A P 161).1) (by rw [← eAA]; exact hrr.1) (g := gi H 162 x) og (by rw [lo2.1 A 2 (by omega)]; omega) (by rw [lo2.1 A 3 (by omega)]; exact hk3)
  rw [eA1, em, va2] at s
  rw [g2 162 x (by omega)]
  cases hw : pG (gi h (A + 1)) (gcl (gi H 162 x)) (mcl h A).toNat 0 v0 with
  | none =>
    obtain ⟨u, z1⟩ := s.2 hw
    rw [z1, bk_v, b144_120, if_pos rfl]
    refine ⟨sv H2 138 u, rfl, fgr_trans f2 (fgr_J frJ_sv), GIs_cg (fun a i q => gi_svn (by omega)) S2, gmo_trans m2 (gmo_s (fun a i q => gi_svn (by omega))), Or.inr (fun b n => ?_)⟩
    obtain ⟨-, -, w, n3, -⟩ := n
    cases n3
  | some w =>
    have z1 := s.1 w hw
    have hJw := pG_J (fun i _ _ => (okG_r og).2 i) (v0_J (cR h A)).1 (v0_J (cR h A)).2.1 hw
    obtain ⟨H3, eH3⟩ : ∃ H3, H3 = sv H2 138 w := ⟨_, rfl⟩
    have f3 : fgr h H3 := by rw [eH3]; exact fgr_trans f2 (fgr_J frJ_sv)
    obtain ⟨lo3, lr3⟩ := fgr_lo f3
    have at3 := low_at I lo3 lr3 hj.1 hj.2
    rw [eAA, eP] at at3
    obtain ⟨x2, x3, x6, xK, x8, x9⟩ := at3
    have GG := GWc xK x2 x8
    have eN : gi H3 A 4 = gi h A 4 := lo3 _ _ (by omega)
    have e4 : gi H3 4 = gi h 4 := funext (fun i => lo3 _ _ (by omega))
    have q137 : ∀ i, gi H3 137 i = gi (bgn H1 A P 161) 137 i := fun i => by rw [eH3, gi_svn (by decide), eH2]
    obtain ⟨j2, j3, j4, j5, j9, j10⟩ := bgn_j H1 A P 161
    obtain ⟨b6, b7, b8⟩ := bgn_gr H1 A P 161
    have r137 : ∀ i, gr H3 137 i = gr (bgn H1 A P 161) 137 i := fun i => by rw [eH3, eH2]; rfl
    have Jst : Js A P 161 (gi H3 A 4) 0 (-1) H3 H3 := ⟨by rw [r137]; exact b6, by rw [r137]; exact b7, by rw [r137]; exact b8, rfl, fun _ => rfl, fun _ => rfl, fun _ => rfl, fun _ => rfl, fun _ => rfl, by rw [q137]; exact j9, by rw [q137]; exact j10, fun r r0 r1 => (x8 r r0 r1).1, fun r p r0 r1 p0 p1 => ((x8 r r0 r1).2.1 p p0 p1).1⟩
    have G0 : GW (cR h A) (cW H3 P) (gi h A 4) := by rw [← x3, ← eN]; exact GG
    have G0h : GW (cR h A) (cW h P) (gi h A 4) := by
      have := GWc I.1.1 (RIN_c hrr) (I.2.2.2.2.2.2.2.2.2.2.2.2.2.2.2.1)
      rw [eAA, eP] at this
      exact this
    have hT : ∀ g, Tg (cR H3 A) (cW H3 P) (gi H3 4) (gi H3 A 4).toNat 0 w g ↔ Tg (cR h A) (cW h P) (gi h 4) (gi h A 4).toNat 0 w g := by
      intro g
      rw [x3, eN, e4]
      exact Tg_eqW G0h x6 (by have := G0h.1; omega)
    obtain ⟨d1, d2, d3, d4, d5, d6, d7, d8, d9, d10, d11⟩ := DS
    obtain ⟨H4, y1, y2, y3, y4, y5⟩ := gol_step (h0 := H3) (h := H3) (A := A) (P := P) (N := gi H3 A 4) (L := gi h A 6) (R := R) (v := w) (d := d - 1) (SWc xK x2 hP) (fun k k0 k1 q y y0 y1 => by
      have hsub : 0 ≤ gi H3 (A + 3) k ∧ gi H3 (A + 3) k < 6 := by
        rcases GG.2 k k0 k1 with z | z | z
        · exact z.2.1
        · exact z.2.1
        · rcases z.1 with w | w
          · have w : gi H3 (A + 2) k = 2 := w
            omega
          · have w : gi H3 (A + 2) k = 3 := w.1
            omega
      exact x9 S _ y hsub.1 hsub.2 y0 y1) (AWc xK x2 x8) (by rw [q137]; exact j9) (by rw [q137]; exact j10) (by rw [q137]; exact j4) (by rw [eH3]; exact r161) (Or.inl ⟨lo3 _ _ (by omega), by rw [eN]; exact d10.2⟩) (fun k k0 k1 q => by
      rw [eN] at k1
      exact d11 k k0 k1 (by rw [← lo3 (A + 2) k (by omega)]; exact q)) (fun k k0 k1 q i i0 i1 => by
      rcases GG.2 k k0 k1 with z | z | z
      · exact z.2.2.2.1 i i0 (by have := z.2.2.1; have e : (cR H3 A).2.2.1 k = gi H3 (A + 4) k := rfl; omega)
      · exact z.2.2.2.1 i i0 (by have := z.2.2.1; have e : (cR H3 A).2.2.1 k = gi H3 (A + 4) k := rfl; omega)
      · rcases z.1 with w | w
        · have w : gi H3 (A + 2) k = 2 := w
          omega
        · have w : gi H3 (A + 2) k = 3 := w.1
          omega) ⟨hJw.1, hJw.2.1, fun s _ ⟨j, j1, j2, _⟩ => by omega⟩ Jst (by rw [eH3]; exact va_sv hJw.1) (frVg_refl H3) (by rw [eH3]; exact GIs_cg (fun a i q => gi_svn (by omega)) S2) (fun g q => nxj1 g ⟨k3, kr, w, hw, (hT g).mp q⟩) (by rw [q137]; exact j5) (by rw [q137]; exact j2) (by omega)
    refine ⟨H4, ?_, fgr_trans f3 (fgr_V y2), y3, gmo_trans (gmo_trans m2 (gmo_s (fun a i q => by rw [eH3, gi_svn (by omega)]))) y4, y5.imp id (fun z b n => ?_)⟩
    · rw [z1, bk_v, b144_120, if_neg (by decide), ← eH3, y1, bk_n]
    · obtain ⟨-, -, w', n3, n4⟩ := n
      cases n3
      exact z b ((hT b).mpr n4)
end GR2
