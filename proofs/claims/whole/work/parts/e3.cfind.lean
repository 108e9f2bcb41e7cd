/-! COSTS: they are found -/
section CFD
variable {h H : dm_H} {π : Int → Int}
theorem ogt_u {H' : dm_H} (g : ogt h H' H (gi h 13 1)) {u : mU} (hu : RLc h u) : ∀ v, v ∈ bnds u (cW h (gr h 1 8)) → ∀ x, plW (cW h (gr h 1 8)) u.2.1 (wrow (cK h) u (cW h (gr h 1 8)) v) x → hF H u.2.1 x ≤ ocv (wcost 0 (cK h) u (cW h (gr h 1 8)) (hF H') v) ∧ pF H u.2.1 x ≤ ocv (wcost 1 (cK h) u (cW h (gr h 1 8)) (pF H') v) := by
  obtain ⟨j, j0, j1, j2, rfl⟩ := hu
  exact g j j0 j1 j2
/-- a round in which nothing falls ends it -/
theorem rnd_end (I : IN0 π h) {Hs He : dm_H} (os : onW h Hs) (oe : onW h He) (fe : fgt h He (gi h 8 0)) (c : cmv (cW h (gr h 1 8)).1 Hs He) (g : ogt h Hs He (gi h 13 1)) (z : gi He 144 13 = 0) : GH_ h (hF He) ∧ GP_ h (pF He) := by
  have V := I.2.2.2.2.2.2.2.2.2.2.2.2.2.2.2.1
  have e := (c.2.1 z).2
  have vs := onW_v I os
  have ve := onW_v I oe
  have l0 : lef (cW h (gr h 1 8)) (hF Hs) (hF He) := fun r x r0 r1 x0 x1 => by have := (e r x r0 r1 x0 (by have := (V r r0 r1).1.2; omega)).1; omega
  have l1 : lef (cW h (gr h 1 8)) (pF Hs) (pF He) := fun r x r0 r1 x0 x1 => by have := (e r x r0 r1 x0 (by have := (V r r0 r1).1.2; omega)).2; omega
  refine ⟨⟨⟨ve.1, fun r cc a r0 r1 q x hx => ?_, fun u hu v hv x hx => ?_⟩, oe.2.2.2.1⟩, ⟨ve.2, fun r cc a r0 r1 q x hx => ?_, fun u hu v hv x hx => ?_⟩, oe.2.2.2.2⟩
  · obtain ⟨i, i1, rfl, rfl, rfl⟩ := q
    exact (fe i i1.1 i1.2 x hx).1
  · exact Int.le_trans (ogt_u g hu v hv x hx).1 (ocv_mono (wcost_v (IN0_psR I) vs.1 hu v) (wcost_v (IN0_psR I) ve.1 hu v) (wcost_mono (IN0_psR I) vs.1 ve.1 l0 hu v))
  · obtain ⟨i, i1, rfl, rfl, rfl⟩ := q
    exact (fe i i1.1 i1.2 x hx).2
  · exact Int.le_trans (ogt_u g hu v hv x hx).2 (ocv_mono (wcost_v (IN0_psR I) vs.2 hu v) (wcost_v (IN0_psR I) ve.2 hu v) (wcost_mono (IN0_psR I) vs.2 ve.2 l1 hu v))
/-- the state between two rounds -/
def rnS (h : dm_H) (c0 c1 : Int → Int → Int) (n : Int) (H : dm_H) : Prop := onW h H ∧ fgt h H (gi h 8 0) ∧ (gi H 144 13 = 0 → GH_ h (hF H) ∧ GP_ h (pF H)) ∧ (gi H 144 13 ≠ 0 → n ≤ 9999 ∨ n - 9999 ≤ nD H) ∧ fin9 (cW h (gr h 1 8)) c0 (hF H) (if n - 1 ≤ 9998 then n - 1 else 9998) ∧ fin9 (cW h (gr h 1 8)) c1 (pF H) (if n - 1 ≤ 9998 then n - 1 else 9998)
theorem s153l {d : Nat} (hd : 11 ≤ d) (I : IN0 π h) (S : still h (gr h 1 8)) {c0 c1 : Int → Int → Int} (g0 : GH_ h c0) (g1 : GP_ h c1) (w1 : Option dm_V) : ∀ (m : Nat) (n : Int) (H : dm_H) (w3 : Option dm_V), 0 ≤ n → n + m = 10200 → rnS h c0 c1 n H → ∃ H', dL (d - 1) 153 102 [lR 1 0 144, w1, lI n, w3] [] H = rV H' ∧ onW h H' ∧ GH_ h (hF H') ∧ GP_ h (pF H') := by
  intro m
  induction m with
  | zero =>
    intro n H w3 n0 nm r
    obtain ⟨o, f, a, b, -, -⟩ := r
    have nn := nD_r H
    have z : gi H 144 13 = 0 := Classical.byContradiction (fun q => by have := b q; omega)
    exact ⟨H, by rw [b153_102, if_pos z, b153_173], o, a z⟩
  | succ m ih =>
    intro n H w3 n0 nm r
    obtain ⟨o, f, a, b, k0, k1⟩ := r
    by_cases z : gi H 144 13 = 0
    · exact ⟨H, by rw [b153_102, if_pos z, b153_173], o, a z⟩
    · obtain ⟨Hs, eHs⟩ : ∃ Hs, Hs = si H 144 13 0 := ⟨_, rfl⟩
      have es : ∀ a i, ¬ (a = 144 ∧ i = 13) → gi Hs a i = gi H a i := fun a i q => by rw [eHs, gi_si, if_neg q]
      have zs : gi Hs 144 13 = 0 := by rw [eHs, gi_sis]
      have hs0 : ∀ r x, r < 6 → hF Hs r x = hF H r x ∧ pF Hs r x = pF H r x := fun r x r1 => by
        unfold hF pF
        rw [es _ _ (by omega), es _ _ (by omega)]
        exact ⟨rfl, rfl⟩
      have nds : nD Hs = nD H := sumI_cg 6 (fun r r0 r1 => sumI_cg 32 (fun x _ _ => by rw [es _ _ (by omega), es _ _ (by omega)]))
      have os : onW h Hs := ⟨frO_t o.1 ⟨fun a i q => es a i (by omega), fun a i _ => by rw [eHs]; rfl, by rw [eHs]; rfl⟩, by rw [eHs]; exact o.2.1, ⟨fun r x r0 r1 x0 x1 rg => by rw [es _ _ (by omega), es _ _ (by omega)]; exact o.2.2.1.1 r x r0 r1 x0 x1 (by rw [← es 2 0 (by omega)]; exact rg), fun r x r0 r1 x0 x1 rg => by rw [nds, es _ _ (by omega)]; exact o.2.2.1.2 r x r0 r1 x0 x1 (by rw [← es 2 0 (by omega)]; exact rg)⟩, fun s hs r x r0 r1 x0 x1 => by rw [(hs0 r x r1).1]; exact o.2.2.2.1 s hs r x r0 r1 x0 x1, fun s hs r x r0 r1 x0 x1 => by rw [(hs0 r x r1).2]; exact o.2.2.2.2 s hs r x r0 r1 x0 x1⟩
      have k0s : fin9 (cW h (gr h 1 8)) c0 (hF Hs) (if n - 1 ≤ 9998 then n - 1 else 9998) := fun r x r0 r1 x0 x1 q => by rw [(hs0 r x r1).1]; exact k0 r x r0 r1 x0 x1 q
      have k1s : fin9 (cW h (gr h 1 8)) c1 (pF Hs) (if n - 1 ≤ 9998 then n - 1 else 9998) := fun r x r0 r1 x0 x1 q => by rw [(hs0 r x r1).2]; exact k1 r x r0 r1 x0 x1 q
      have h6 := I.1.1.1
      have n24 := I.2.2.2.2.2.2.2.2.1.1.1
      have F := I.2.2.2.2.2.2.2.2.1.1.2
      have fs : fgt h Hs (gi h 8 0) := fun i i0 i1 x hx => by
        have := F i i0 i1
        have q := hs0 (gi h 9 i) x (by omega)
        rw [q.1, q.2]; exact f i i0 i1 x hx
      obtain ⟨He, y3, x1, x2, x3, x4⟩ := s153r hd I S os w1 (n := n) ⟨n0, by omega⟩ (gi h 13 1).toNat 0 Hs (by omega) (by have := I.2.2.1.1; omega) os (cmv_refl Hs) (fun j j0 j1 => by omega)
      have fe : fgt h He (gi h 8 0) := fgt_m I (Int.le_refl _) x3 fs
      have V := I.2.2.2.2.2.2.2.2.2.2.2.2.2.2.2.1
      have le := lef_cmv (ω := cW h (gr h 1 8)) x3 (fun r r0 r1 => (V r r0 r1).1.2)
      have vs := onW_v I os
      have hk : ∃ K : Int, (K ≤ 9998) ∧ (K - 1 ≤ if n - 1 ≤ 9998 then n - 1 else 9998) ∧ (if n + 1 - 1 ≤ 9998 then n + 1 - 1 else 9998) = K := by
        refine ⟨_, ?_, ?_, rfl⟩ <;> split <;> (try split) <;> omega
      obtain ⟨K, K1, K2, K3⟩ := hk
      have q0 := fin9_s (cl := cK h) (IN0_psR I) fcH_r K1 g0 vs.1 le.1 (fun r cc a r0 r1 q x hx => by
        obtain ⟨i, i1, rfl, rfl, rfl⟩ := q
        exact (fe i i1.1 i1.2 x hx).1) (fun u hu v hv x hx => (ogt_u x4 hu v hv x hx).1) (fin9_le K2 k0s)
      have q1 := fin9_s (cl := cK h) (IN0_psR I) (fcP_r I) K1 g1 vs.2 le.2 (fun r cc a r0 r1 q x hx => by
        obtain ⟨i, i1, rfl, rfl, rfl⟩ := q
        exact (fe i i1.1 i1.2 x hx).2) (fun u hu v hv x hx => (ogt_u x4 hu v hv x hx).2) (fin9_le K2 k1s)
      have bb' := b z
      have nn := nD_r H
      obtain ⟨H', z1, z2⟩ := ih (n + 1) He y3 (by omega) (by omega) ⟨x2, fe, fun w => rnd_end I os x2 fe x3 x4 w, fun w => by
        by_cases y : n + 1 ≤ 9999
        · exact Or.inl y
        · right
          have e9 : (if n - 1 ≤ 9998 then n - 1 else 9998) = 9998 := by split <;> omega
          by_cases y2 : n = 9999
          · have e9' : n - 1 = 9998 := by omega
            have := nD_fall I g0 g1 os x2 (by rw [e9] at k0s; exact k0s) (by rw [e9] at k1s; exact k1s) x3 zs w
            have := nD_r Hs
            omega
          · have := nD_fall I g0 g1 os x2 (by rw [e9] at k0s; exact k0s) (by rw [e9] at k1s; exact k1s) x3 zs w
            omega, by rw [K3]; exact q0, by rw [K3]; exact q1⟩
      refine ⟨H', ?_, z2⟩
      rw [b153_102, if_neg z, if_pos (by omega), ← eHs, x1, z1]
/-- what is left after finding -/
theorem s153 {d : Nat} (hd : 11 ≤ d) (I : IN0 π h) (S : still h (gr h 1 8)) {c0 c1 : Int → Int → Int} (g0 : GH_ h c0) (g1 : GP_ h c1) : ∃ H', dF d 153 [dR 1 0 144, dR 1 7 (gr h 1 8)] h = rV H' ∧ onW h H' ∧ GH_ h (hF H') ∧ GP_ h (pF H') := by
  have h6 := I.1.1.1
  have n24 := I.2.2.2.2.2.2.2.2.1.1.1
  obtain ⟨H0, eH0⟩ : ∃ H0, H0 = sr h 144 5 (gr h 1 8) := ⟨_, rfl⟩
  have f0 : frO h H0 := by rw [eH0]; exact ⟨fun _ _ _ => rfl, fun a i q => if_neg (by omega), rfl⟩
  have g5 : gr H0 144 5 = gr h 1 8 := by rw [eH0]; exact if_pos (e := gr h 144 5) (show (144 : Nat) = 144 ∧ (5 : Int) = 5 from ⟨rfl, rfl⟩)
  obtain ⟨H1, w3, x1, x2, x3, x4⟩ := s153i (d := d) (by omega) (h := h) h6.2 (lR 1 7 (gr h 1 8)) (gi h 2 0).toNat 0 H0 none (by omega) (by omega) (by rw [eH0]; rfl) f0 g5 (fun r x r0 r1 => by omega)
  have cells : ∀ r x, 0 ≤ r → r < gi h 2 0 → 0 ≤ x → x < 32 → hF H1 r x = 1000000 ∧ pF H1 r x = 1000000 := fun r x r0 r1 x0 x1 => by
    have := x4 r x r0 r1 x0 x1
    exact ⟨if_pos this.1, if_pos this.2⟩
  have e2 : gi H1 2 0 = gi h 2 0 := x2.1 2 0 (by omega)
  have V := I.2.2.2.2.2.2.2.2.2.2.2.2.2.2.2.1
  have n0 := (nD_r H1).1
  have o1 : onW h H1 := ⟨x2, x3, ⟨fun r x r0 r1 y0 y1 rg => Or.inl (x4 r x r0 (by rw [← e2]; exact rg) y0 y1), fun r x r0 r1 y0 y1 rg => by have := (x4 r x r0 (by rw [← e2]; exact rg) y0 y1).1; omega⟩, fun s hs r x r0 r1 y0 y1 => by
    have rg := IN0_hn I r x r0 r1 y0 y1
    have y1' : x < (cW h (gr h 1 8)).1 r := y1
    have := hs.1 r x r0 r1 y0 y1
    rw [(cells r x r0 rg y0 (by have := (V r r0 r1).1.2; omega)).1]
    unfold vcc at this
    omega, fun s hs r x r0 r1 y0 y1 => by
    have rg := IN0_hn I r x r0 r1 y0 y1
    have y1' : x < (cW h (gr h 1 8)).1 r := y1
    have := hs.1 r x r0 r1 y0 y1
    rw [(cells r x r0 rg y0 (by have := (V r r0 r1).1.2; omega)).2]
    unfold vcc at this
    omega⟩
  obtain ⟨H2, w3', y1, y2, y3⟩ := s153f (d := d) (by omega) I (lR 1 7 (gr h 1 8)) (gi h 8 0).toNat 0 H1 w3 (by omega) (by omega) o1 (fun i i0 i1 => by omega)
  have es : ∀ a i, ¬ (a = 144 ∧ i = 13) → gi (si H2 144 13 1) a i = gi H2 a i := fun a i q => by rw [gi_si, if_neg q]
  have hs0 : ∀ r x, r < 6 → hF (si H2 144 13 1) r x = hF H2 r x ∧ pF (si H2 144 13 1) r x = pF H2 r x := fun r x r1 => by
    unfold hF pF
    rw [es _ _ (by omega), es _ _ (by omega)]
    exact ⟨rfl, rfl⟩
  have nds : nD (si H2 144 13 1) = nD H2 := sumI_cg 6 (fun r r0 r1 => sumI_cg 32 (fun x _ _ => by rw [es _ _ (by omega), es _ _ (by omega)]))
  have o3 : onW h (si H2 144 13 1) := ⟨frO_t y2.1 ⟨fun a i q => es a i (by omega), fun a i _ => rfl, rfl⟩, y2.2.1, ⟨fun r x r0 r1 x0 x1 rg => by rw [es _ _ (by omega), es _ _ (by omega)]; exact y2.2.2.1.1 r x r0 r1 x0 x1 (by rw [← es 2 0 (by omega)]; exact rg), fun r x r0 r1 x0 x1 rg => by rw [nds, es _ _ (by omega)]; exact y2.2.2.1.2 r x r0 r1 x0 x1 (by rw [← es 2 0 (by omega)]; exact rg)⟩, fun s hs r x r0 r1 x0 x1 => by rw [(hs0 r x r1).1]; exact y2.2.2.2.1 s hs r x r0 r1 x0 x1, fun s hs r x r0 r1 x0 x1 => by rw [(hs0 r x r1).2]; exact y2.2.2.2.2 s hs r x r0 r1 x0 x1⟩
  have F := I.2.2.2.2.2.2.2.2.1.1.2
  have noc : ∀ (c f : Int → Int → Int), vcf (cW h (gr h 1 8)) c → fin9 (cW h (gr h 1 8)) c f (if (0 : Int) - 1 ≤ 9998 then 0 - 1 else 9998) := fun c f vc r x r0 r1 x0 x1 q => by
    have := vc r x r0 r1 x0 x1
    rw [if_pos (by omega)] at q
    unfold vcc at this
    omega
  obtain ⟨H', z1, z2⟩ := s153l hd I S g0 g1 (lR 1 7 (gr h 1 8)) 10200 0 (si H2 144 13 1) w3' (by omega) (by omega) ⟨o3, fun i i0 i1 x hx => by
    have := F i i0 i1
    have q := hs0 (gi h 9 i) x (by omega)
    rw [q.1, q.2]; exact y3 i i0 i1 x hx, fun q => by rw [gi_sis] at q; omega, fun _ => Or.inl (by omega), noc _ _ g0.1.1, noc _ _ g1.1.1⟩
  refine ⟨H', ?_, z2⟩
  rw [f153 (by omega), b153_0, ← eH0, x1, y1, z1]
end CFD
