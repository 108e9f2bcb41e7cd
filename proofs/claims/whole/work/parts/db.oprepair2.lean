/-! THE CALLS repair and repairAt, on both sides -/
section ORQ
variable {h h' : dm_H} {π : Int → Int}
/-- what costs speak of is not another one -/
def frCo (h h' : dm_H) : Prop := gr h' 1 8 = gr h 1 8 ∧ RLc h' = RLc h ∧ (∀ a i, (gr h 1 8 + 1 ≤ a ∧ a ≤ gr h 1 8 + 16) ∨ (3 ≤ a ∧ a ≤ 5) ∨ (144 ≤ a ∧ a ≤ 160) → gi h' a i = gi h a i) ∧ (gi h' 8 0 = gi h 8 0 ∧ ∀ p, 0 ≤ p → p < gi h 8 0 → fL 9 h' p = fL 9 h p) ∧ gi h' 1 15 = gi h 1 15
/-- what repairs speak of is not another one -/
def frRp (h h' : dm_H) : Prop := gr h' 1 8 = gr h 1 8 ∧ (∀ a i, (gr h 1 8 + 1 ≤ a ∧ a ≤ gr h 1 8 + 16) ∨ a = 164 → gi h' a i = gi h a i) ∧ gi h' 1 16 = gi h 1 16 ∧ gi h' 1 17 = gi h 1 17 ∧ ∀ i, 44 ≤ i → gi h' 165 i = gi h 165 i
theorem frCo_2 (f : frZ2 h h') : frCo h h' := ⟨f.1, f.2.1, fun a i q => f.2.2.1 a i (by omega), f.2.2.2.1, f.2.2.2.2.1 15 (by omega)⟩
theorem frRp_2 (f : frZ2 h h') : frRp h h' := ⟨f.1, fun a i q => f.2.2.1 a i (by omega), f.2.2.2.2.1 16 (by omega), f.2.2.2.2.1 17 (by omega), f.2.2.2.2.2⟩
/-- the repairs that both hold are the same -/
def IRp (h : dm_H) : Prop := (gi h 1 16 = 0 ∧ gi h 165 44 = 0) ∨ (gi h 1 16 = 1 ∧ gi h 165 44 = 1 ∧ gi h 1 17 = gi h 165 45 ∧ (-1 ≤ gi h 1 17 ∧ gi h 1 17 ≤ 2) ∧ (1 ≤ gi h 1 17 → gi h 164 0 = gi h 165 46) ∧ (gi h 1 17 = 2 → gi h 164 1 = gi h 165 47))
theorem IRp_cg (f : frRp h h') (R : IRp h) : IRp h' := by
  obtain ⟨f1, f2, f3, f4, f5⟩ := f
  unfold IRp
  rw [f3, f4, f5 44 (by omega), f5 45 (by omega), f5 46 (by omega), f5 47 (by omega), f2 164 0 (by omega), f2 164 1 (by omega)]
  exact R
theorem still_rp (f : gr h' 1 8 = gr h 1 8 ∧ ∀ a i, (gr h 1 8 + 1 ≤ a ∧ a ≤ gr h 1 8 + 16) → gi h' a i = gi h a i) (S : still h (gr h 1 8)) : still h' (gr h' 1 8) := by
  rw [f.1]
  exact still_to (fun a i p q => f.2 a i (by omega)) (fun r _ _ => f.2 _ _ (by omega)) S
theorem both_rp {d e : Nat} (hd : 12 ≤ d) (he : 14 ≤ e) (I : IN0 π h) (S : still h (gr h 1 8)) (R : IRp h) : ∃ h1, dF d 18 [dR 1 10 1] h = rV h1 ∧ h1.2.2 = h.2.2 ∧ ∀ H, (∀ a i, ¬ (a = 165 ∧ i = 0) → gi H a i = gi h1 a i) → (∀ a i, gr H a i = gr h1 a i) → ∃ H', dF e 272 [dR 1 11 165] H = rV H' ∧ IN0 π H' ∧ IRp H' ∧ gi H' 1 16 = 1 ∧ frCo h H' ∧ H'.2.2 = H.2.2 ∧ gi H' 165 0 = gi H 165 0 ∧ gi H' 1 17 = gi h1 1 17 ∧ (∀ i, gi H' 164 i = gi h1 164 i) ∧ gi H' 1 12 = gi h 1 12 ∧ gi H' 13 3 = gi h 13 3 := by
  have hW := I.2.2.2.2.2.2.2.2.2.1
  have hP : gr h 1 8 = 95 ∨ gr h 1 8 = 112 := hW.1
  have hQ : gr h 1 9 = 95 ∨ gr h 1 9 = 112 := hW.2.1
  have hPQ := hW.2.2
  rcases R with ⟨k1, k2⟩ | ⟨k1, k2, k3, k4, k5, k6⟩
  · obtain ⟨h1, x1, x2, x3, x4, x5⟩ := s18 (d := d) hd I S k1
    refine ⟨h1, x1, x3, fun H g er => ?_⟩
    have fG : fgx h H := fgx_trans x2 ⟨fun a i _ _ _ _ _ q => g a i q, fun a i _ => er a i⟩
    obtain ⟨I2, r8, rL⟩ := fgx_all I fG
    have e44 : gi H 165 44 = 0 := by rw [fG.1 _ _ (by omega) (by omega) (by omega) (by omega) (by omega) (by omega)]; exact k2
    obtain ⟨H', y1, y2, y3, y4, y5, y6, ⟨y7, y8, y9, y10⟩, y11, y12⟩ := s272 (d := e) he I2 e44
    have RH : RPx h (gi H' 165 45) (gi H' 165 46) (gi H' 165 47) := (RPx_cg I fG).mp y6
    obtain ⟨u1, u2, u3⟩ := RPx_one x5 RH
    have v16 : gi H' 1 16 = 1 := by rw [y10 _ (by omega), g _ _ (by omega)]; exact x4
    have v17 : gi H' 1 17 = gi h1 1 17 := by rw [y10 _ (by omega), g _ _ (by omega)]
    have v164 : ∀ i, gi H' 164 i = gi h1 164 i := fun i => by rw [y9 _ _ (by omega), g _ _ (by omega)]
    refine ⟨H', y1, y2, Or.inr ⟨v16, y4, by rw [v17]; exact u1, ?_, ?_, ?_⟩, v16, ⟨by rw [y7, r8], by rw [y8, rL], fun a i q => ?_, ⟨?_, fun p p0 p1 => ?_⟩, ?_⟩, y3, y5, v17, v164, y11.trans (fG.1 _ _ (by omega) (by omega) (by omega) (by omega) (by omega) (by omega) ), y12.trans (fG.1 _ _ (by omega) (by omega) (by omega) (by omega) (by omega) (by omega) )⟩
    · rw [v17]
      rcases x5 with z | z | z | z <;> omega
    · rw [v17, v164]; exact u2
    · rw [v17, v164]; exact u3
    · rw [y9 a i (by rw [r8]; omega), fG.1 a i (by omega) (by omega) (by omega) (by omega) (by omega) (by omega)]
    · rw [y9 _ _ (by omega), fG.1 _ _ (by omega) (by omega) (by omega) (by omega) (by omega) (by omega)]
    · unfold fL
      rw [y9 _ _ (by omega), y9 _ _ (by omega), y9 _ _ (by omega), y9 _ _ (by omega), fG.1 9 _ (by omega) (by omega) (by omega) (by omega) (by omega) (by omega), fG.1 (9 + 1) _ (by omega) (by omega) (by omega) (by omega) (by omega) (by omega), fG.1 (9 + 2) _ (by omega) (by omega) (by omega) (by omega) (by omega) (by omega), fG.1 (9 + 3) _ (by omega) (by omega) (by omega) (by omega) (by omega) (by omega)]
    · rw [y10 _ (by omega), fG.1 _ _ (by omega) (by omega) (by omega) (by omega) (by omega) (by omega)]
  · refine ⟨h, by rw [f18 (by omega), b18_0, if_neg (by omega)], rfl, fun H g er => ?_⟩
    have s := same_all (h' := H) I (fun a i p _ => g a i p) er
    refine ⟨H, by rw [f272 (by omega), b272_0, g 165 44 (by omega), if_neg (by omega)], s.1, Or.inr ?_, by rw [g 1 16 (by omega)]; exact k1, ⟨er _ _, s.2.2.1, fun a i q => g a i (by omega), ⟨g _ _ (by omega), fun p p0 p1 => ?_⟩, g _ _ (by omega)⟩, rfl, rfl, g _ _ (by omega), fun i => g _ _ (by omega), g _ _ (by omega), g _ _ (by omega)⟩
    · rw [g 1 16 (by omega), g 1 17 (by omega), g 165 44 (by omega), g 165 45 (by omega), g 165 46 (by omega), g 165 47 (by omega), g 164 0 (by omega), g 164 1 (by omega)]
      exact ⟨k1, k2, k3, k4, k5, k6⟩
    · unfold fL
      rw [g 9 _ (by omega), g (9 + 1) _ (by omega), g (9 + 2) _ (by omega), g (9 + 3) _ (by omega)]
theorem op_repair {d : Nat} (hd : 16 ≤ d) (I : IN0 π h) (S : still h (gr h 1 8)) (R : IRp h) : ∃ v h1 h2, dF d 17 [dR 1 10 1] h = rI v h1 ∧ dF d 271 [dR 1 11 165] h1 = rI v h2 ∧ gi h2 165 0 = 0 ∧ IN0 π h2 ∧ IRp h2 ∧ frCo h h2 ∧ rm h h2 := by
  obtain ⟨h1, x1, x2, x3⟩ := both_rp (d := d - 1) (e := d - 1) (by omega) (by omega) I S R
  obtain ⟨H', y1, y2, y3, y4, y5, y6, y7, y8, y9, yA, yB⟩ := x3 (si h1 165 0 0) (fun a i q => by rw [gi_si, if_neg q]) (fun _ _ => rfl)
  refine ⟨gi h1 1 17, h1, H', by rw [f17 (by omega), b17_0, x1, bk_n, b17_4], ?_, by rw [y7, thr0], y2, y3, y5, rm_3 (by rw [y6]; show h1.2.2.2 = _; rw [x2]) (ct_e yA yB)⟩
  rw [f271 (by omega), b271_0, y1, bk_n, b271_9]
  rcases y3 with z | z
  · omega
  · rw [← z.2.2.1, y8]
theorem op_repairAt {d : Nat} (hd : 16 ≤ d) (I : IN0 π h) (S : still h (gr h 1 8)) (R : IRp h) (x : Int) : ∃ k h1 v h2, dF d 163 [dR 1 10 1, dI x, dR 4 1 196] h = rI k h1 ∧ dF d 274 [dR 1 11 165, dI x] h1 = rI v h2 ∧ gi h2 165 0 = k ∧ (k = 0 → gl h2 0 = v) ∧ IN0 π h2 ∧ IRp h2 ∧ frCo h h2 ∧ rm h h2 := by
  obtain ⟨h1, x1, x2, x3⟩ := both_rp (d := d - 1 - 1) (e := d - 1) (by omega) (by omega) I S R
  have hP8 : gr h 1 8 = 95 ∨ gr h 1 8 = 112 := I.2.2.2.2.2.2.2.2.2.1.1
  -- the reference, from any heap like that
  have rf : ∀ H, (∀ a i, gi H a i = gi h1 a i) → (∀ a i, gr H a i = gr h1 a i) → ∃ H', IN0 π H' ∧ IRp H' ∧ frCo h H' ∧ H'.2.2 = H.2.2 ∧ (gi H' 1 12 = gi h 1 12 ∧ gi H' 13 3 = gi h 13 3) ∧ ((0 ≤ x ∧ x < gi h1 1 17) → dF d 274 [dR 1 11 165, dI x] H = rI (gi h1 164 x) H' ∧ gi H' 165 0 = 0 ∧ x < 2) ∧ (¬ (0 ≤ x ∧ x < gi h1 1 17) → dF d 274 [dR 1 11 165, dI x] H = rI 0 H' ∧ gi H' 165 0 = 1) := by
    intro H g er
    obtain ⟨H', y1, y2, y3, y4, y5, y6, y7, y8, y9, yA, yB⟩ := x3 H (fun a i _ => g a i) er
    have z : gi H' 1 17 = gi H' 165 45 ∧ (-1 ≤ gi H' 1 17 ∧ gi H' 1 17 ≤ 2) ∧ (1 ≤ gi H' 1 17 → gi H' 164 0 = gi H' 165 46) ∧ (gi H' 1 17 = 2 → gi H' 164 1 = gi H' 165 47) := by
      rcases y3 with z | z
      · omega
      · exact ⟨z.2.2.1, z.2.2.2.1, z.2.2.2.2.1, z.2.2.2.2.2⟩
    obtain ⟨z1, z2, z3, z4⟩ := z
    rw [y8] at z1 z2 z3 z4
    rw [y9] at z3 z4
    have st : dF d 274 [dR 1 11 165, dI x] H = if 0 ≤ x ∧ x ≤ gi H' 165 45 - 1 then dL (d - 1) 274 24 [lR 1 11 165, lI x] [dI 0, dR 1 11 165] H' else dL (d - 1) 274 24 [lR 1 11 165, lI x] [dI 1, dR 1 11 165] H' := by
      rw [f274 (by omega), b274_0, y1, bk_n, b274_4, ck_p (by omega) (by omega), s168 (by omega), bk_v, b274_16]
      by_cases w : 0 ≤ x ∧ x ≤ gi H' 165 45 - 1
      · rw [bi_1 w, if_neg (by decide), if_pos w]
      · rw [bi_0 w, if_pos rfl, if_neg w]
    by_cases q : 0 ≤ x ∧ x < gi h1 1 17
    · have s := same_all (h' := si H' 165 0 0) y2 (fun a i p _ => by rw [gi_si, if_neg p]) (fun _ _ => rfl)
      refine ⟨si H' 165 0 0, s.1, IRp_cg (frRp_2 (frZ_2 s.2)) y3, ?_, by rw [← y6]; rfl, ⟨(gi_sin (by decide)).trans yA, (gi_sin (by decide)).trans yB⟩, fun _ => ⟨?_, thr0, by omega⟩, fun w => absurd q w⟩
      · exact ⟨y5.1, s.2.2.1.trans y5.2.1, fun a i w => by rw [gi_sin (by omega)]; exact y5.2.2.1 a i w, ⟨by rw [gi_sin (by omega)]; exact y5.2.2.2.1.1, fun p p0 p1 => by
          rw [← y5.2.2.2.1.2 p p0 p1]
          unfold fL
          rw [gi_sin (by omega), gi_sin (by omega), gi_sin (by omega), gi_sin (by omega)]⟩, by rw [gi_sin (by omega)]; exact y5.2.2.2.2⟩
      · rw [st, if_pos (by omega), b274_24, thr0, if_neg (by decide)]
        by_cases w : x = 0
        · rw [if_pos w, b274_53, gi_sij (by decide), w, z3 (by omega)]
        · rw [if_neg w, b274_53, gi_sij (by decide), show x = 1 by omega, z4 (by omega)]
    · have s := same_all (h' := si H' 165 0 1) y2 (fun a i p _ => by rw [gi_si, if_neg p]) (fun _ _ => rfl)
      refine ⟨si H' 165 0 1, s.1, IRp_cg (frRp_2 (frZ_2 s.2)) y3, ?_, by rw [← y6]; rfl, ⟨(gi_sin (by decide)).trans yA, (gi_sin (by decide)).trans yB⟩, fun w => absurd w q, fun _ => ⟨?_, thr0⟩⟩
      · exact ⟨y5.1, s.2.2.1.trans y5.2.1, fun a i w => by rw [gi_sin (by omega)]; exact y5.2.2.1 a i w, ⟨by rw [gi_sin (by omega)]; exact y5.2.2.2.1.1, fun p p0 p1 => by
          rw [← y5.2.2.2.1.2 p p0 p1]
          unfold fL
          rw [gi_sin (by omega), gi_sin (by omega), gi_sin (by omega), gi_sin (by omega)]⟩, by rw [gi_sin (by omega)]; exact y5.2.2.2.2⟩
      · rw [st, if_neg (by omega), b274_24, thr0, if_pos (by decide), b274_53]
  have wr : ∀ (y : dm_O), dF (d - 1) 164 [dR 1 10 1, dI x] h = y → (∀ v h', y = rI v h' → dF d 163 [dR 1 10 1, dI x, dR 4 1 196] h = rI 0 (sl h' 0 v)) ∧ (∀ h', y = rX 0 h' → dF d 163 [dR 1 10 1, dI x, dR 4 1 196] h = rI 1 h') := by
    intro y e
    rw [f163 (by omega), b163_0, e]
    refine ⟨fun v h' ex => ?_, fun h' ex => ?_⟩
    · rw [ex, bk_v, b163_7, ix_p (by omega) (by omega)]
    · rw [ex, bk_c (g := 12) (j := 3) (n := 1) (L' := [lR 1 10 1, lI x, lR 4 1 196, none]) rfl (fun f => rfl)]
      exact b163_13 _ _ _ _ _ _
  obtain ⟨w1, w2⟩ := wr _ rfl
  have c0 : dF (d - 1) 164 [dR 1 10 1, dI x] h = dL (d - 1 - 1) 164 4 [lR 1 10 1, lI x] [] h1 := by rw [f164 (by omega), b164_0, x1, bk_n]
  by_cases q : 0 ≤ x ∧ x < gi h1 1 17
  · obtain ⟨H', y1, y2, y3, y4, yC, y5, y6⟩ := rf (sl h1 0 (gi h1 164 x)) (fun _ _ => rfl) (fun _ _ => rfl)
    obtain ⟨z1, z2, z3⟩ := y5 q
    rw [b164_4, if_neg (by omega), if_pos q.2, if_pos z3, ix_p q.1 (by omega)] at c0
    refine ⟨0, _, _, H', w1 _ _ c0, z1, z2, fun _ => ?_, y1, y2, y3, rm_3 (by rw [y4]; show h1.2.2.2 = _; rw [x2]) (ct_e yC.1 yC.2)⟩
    show H'.2.2.1 0 = _
    rw [y4]
    show gl (sl h1 0 (gi h1 164 x)) 0 = _
    rw [gl_sl, if_pos rfl]
  · obtain ⟨H', y1, y2, y3, y4, yC, y5, y6⟩ := rf (sg h1 6) (fun _ _ => rfl) (fun _ _ => rfl)
    obtain ⟨z1, z2⟩ := y6 q
    have e : dL (d - 1 - 1) 164 4 [lR 1 10 1, lI x] [] h1 = rX 0 (sg h1 6) := by
      rw [b164_4]
      by_cases a : x < 0
      · rw [if_pos a, b164_25]
      · rw [if_neg a, if_neg (by omega), b164_25]
    rw [e] at c0
    refine ⟨1, _, 0, H', w2 _ c0, z1, z2, fun w => by omega, y1, y2, y3, rm_of (Or.inr ?_) (ct_e yC.1 yC.2)⟩
    rw [y4]
    show (sg h1 6).2.2 = _
    unfold sg
    rw [x2]
end ORQ
