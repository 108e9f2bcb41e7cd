/-! THE REFERENCE FINDS A LAYER -/
/-- what a layer's run touches -/
def frL (h h' : dm_H) : Prop := (∀ a i, ¬ (177 ≤ a ∧ a ≤ 180) → ¬ (185 ≤ a ∧ a ≤ 190) → ¬ (a = 165 ∧ 27 ≤ i ∧ i ≤ 34) → gi h' a i = gi h a i) ∧ (∀ a i, gr h' a i = gr h a i) ∧ h'.2.2 = h.2.2
theorem frL_refl (h : dm_H) : frL h h := ⟨fun _ _ _ _ _ => rfl, fun _ _ => rfl, rfl⟩
theorem frL_trans {h h1 h2 : dm_H} (a : frL h h1) (b : frL h1 h2) : frL h h2 := ⟨fun c i p q r => by rw [b.1 c i p q r, a.1 c i p q r], fun c i => by rw [b.2.1, a.2.1], by rw [b.2.2, a.2.2]⟩
theorem frL_M {h h' : dm_H} (a : frM h h') : frL h h' := ⟨fun c i p q r => a.1 c i (by omega) (by omega) (by omega) (by omega), a.2.1, a.2.2⟩
theorem UR_fl {cl kd : Int → Int} {u : mU} {p : Int} {h h' : dm_H} (f : frL h h') (U : UR cl kd u p h) : UR cl kd u p h' := by
  obtain ⟨u1, u2, u3, u4, u5, u6, u7, u8, u9⟩ := U
  have e172 : ∀ i, gi h' 172 i = gi h 172 i := fun i => f.1 _ _ (by omega) (by omega) (by omega)
  have e166 : ∀ i, gi h' 166 i = gi h 166 i := fun i => f.1 _ _ (by omega) (by omega) (by omega)
  have e167 : ∀ i, gi h' 167 i = gi h 167 i := fun i => f.1 _ _ (by omega) (by omega) (by omega)
  have elq : ∀ k w, lq h' p k w = lq h p k w := fun k w => e172 _
  have eR : rRl h' p = rRl h p := by
    unfold rRl
    have a1 : rsrt h' p = rsrt h p := by funext k; unfold rsrt; rw [elq, elq]
    have a2 : rsbj h' p = rsbj h p := by funext k; unfold rsbj; rw [elq, elq, elq]
    have a3 : rwid h' p = rwid h p := by funext k; unfold rwid; rw [elq, elq, e166]
    have a4 : rtrm h' p = rtrm h p := by funext k i; unfold rtrm; rw [elq, elq, elq]
    rw [a1, a2, a3, a4]
  exact ⟨u1, by rw [e172]; exact u2, by rw [e172]; exact u3, fun i i0 i1 => by rw [e172]; exact u4 i i0 i1, by rw [e172]; exact u5, by rw [eR]; exact u6, ⟨u7.1, fun k k0 k1 => by rw [elq]; exact u7.2 k k0 k1⟩, by rw [e166]; exact u8, by rw [e167]; exact u9⟩
/-- the facts of the reference, without two -/
def ftR (h : dm_H) : Int → Int → Prop := fun r c => ∃ p, 0 ≤ p ∧ p < gi h 165 5 ∧ p ≠ gi h 165 10 ∧ p ≠ gi h 165 11 ∧ gi h 168 p = r ∧ gi h 169 p = c
def FVr (cl kd : Int → Int) (h : dm_H) : Prop := (0 ≤ gi h 165 5 ∧ gi h 165 5 ≤ 24) ∧ ∀ p, 0 ≤ p → p < gi h 165 5 → (0 ≤ gi h 168 p ∧ gi h 168 p < 6) ∧ gi h 166 (gi h 168 p) = cl (gi h 168 p) ∧ gi h 167 (gi h 168 p) = kd (gi h 168 p) ∧ vcd (cl (gi h 168 p)) (gi h 169 p)
/-- the places' rules -/
def HBr (cl kd : Int → Int) (RL : mU → Prop) (U : Int → mU) (h : dm_H) : Prop := (∀ p, 0 ≤ p → p ≤ 10 → gi h 174 p ≠ 0 → gi h 172 (38 * p) ≠ 3 → RL (U p) ∧ UR cl kd (U p) p h) ∧ ∀ u, RL u → ∃ p, (0 ≤ p ∧ p ≤ 10) ∧ gi h 174 p ≠ 0 ∧ gi h 172 (38 * p) ≠ 3 ∧ u = U p
theorem HBr_fl {cl kd : Int → Int} {RL : mU → Prop} {U : Int → mU} {h h' : dm_H} (f : frL h h') (B : HBr cl kd RL U h) : HBr cl kd RL U h' := by
  have e172 : ∀ i, gi h' 172 i = gi h 172 i := fun i => f.1 _ _ (by omega) (by omega) (by omega)
  have e174 : ∀ i, gi h' 174 i = gi h 174 i := fun i => f.1 _ _ (by omega) (by omega) (by omega)
  refine ⟨fun p p0 p1 q1 q2 => ?_, fun u hu => ?_⟩
  · rw [e174] at q1
    rw [e172] at q2
    obtain ⟨a1, a2⟩ := B.1 p p0 p1 q1 q2
    exact ⟨a1, UR_fl f a2⟩
  · obtain ⟨p, p1, p2, p3, p4⟩ := B.2 u hu
    exact ⟨p, p1, by rw [e174]; exact p2, by rw [e172]; exact p3, p4⟩
theorem cpy_nr {h h' : dm_H} (c : cpy 179 180 177 178 h h') : frL h h' ∧ nW h' = nW h ∧ eqW (nW h) (rW h') ∧ gi h' 165 27 = gi h 165 27 := by
  refine ⟨⟨fun a i n1 _ _ => c.1 a i (by omega) (by omega), c.2.1, c.2.2.1⟩, ?_, fun r r0 r1 => c.2.2.2 r r0 r1, c.1 _ _ (by decide) (by decide)⟩
  unfold nW
  congr 1
  · funext r; exact c.1 _ _ (by decide) (by decide)
  · funext r x; exact c.1 _ _ (by decide) (by decide)
section RLAY
variable {cl kd ly : Int → Int} {oc : Int → Int → Prop} {RL : mU → Prop} {U : Int → mU} {L : Int}
/-- the facts of a layer come -/
theorem rfacts {d : Nat} (hd : 3 ≤ d) (D : DC cl kd) {h : dm_H} (F : FVr cl kd h) (hly : ∀ r, 0 ≤ r → r < 6 → gi h 176 r = ly r) {ω0 : mW} (w2 : Option dm_V) (hw2 : w2 = lI 1) (w4 : Option dm_V) : ∀ (m : Nat) (p : Int) (H : dm_H), 0 ≤ p → p + m = gi h 165 5 → frL h H → NI cl kd ly (ftR h) RL L ω0 H → (gi H 165 27 = 0 → ∀ q, 0 ≤ q → q < p → q ≠ gi h 165 10 → q ≠ gi h 165 11 → ly (gi h 168 q) = L → cov cl kd (nW H) (gi h 168 q) (gi h 169 q)) →
    ∃ h', dL d 185 4 [lR 1 11 165, lI L, w2, lI p, w4] [] H = dL d 185 86 [lR 1 11 165, lI L, w2, lI (gi h 165 5), w4] [] h' ∧ frL h h' ∧ NI cl kd ly (ftR h) RL L ω0 h' ∧ eqW (nW h') (rW h') ∧ (gi h' 165 27 = 0 → ∀ r c, 0 ≤ r → r < 6 → ly r = L → ftR h r c → cov cl kd (nW h') r c) := by
  subst hw2
  intro m
  induction m with
  | zero =>
    intro p H p0 pm fH I C
    have e5 : gi H 165 5 = gi h 165 5 := fH.1 _ _ (by omega) (by omega) (by omega)
    have V := I.1
    rw [b185_4, e5, if_neg (by omega)]
    obtain ⟨h', t1, t2⟩ := s175 (d := d) (by omega) H (a1 := 179) (a2 := 180) (a3 := 177) (a4 := 178) (by decide) (by decide) (by decide) (by decide) (by decide) (fun r r0 r1 => (V r r0 r1).1)
    obtain ⟨c1, c2, c3, c4⟩ := cpy_nr t2
    rw [t1, bk_n, show p = gi h 165 5 by omega]
    refine ⟨h', rfl, frL_trans fH c1, ?_, by rw [c2]; exact c3, fun z r c r0 r1 l f => ?_⟩
    · unfold NI at I ⊢
      rw [c2, c4]; exact I
    · rw [c4] at z
      obtain ⟨q, q0, q1, q2, q3, rfl, rfl⟩ := f
      rw [c2]
      exact C z q q0 (by omega) q2 q3 l
  | succ m ih =>
    intro p H p0 pm fH I C
    have eI : ∀ i, ¬ (27 ≤ i ∧ i ≤ 34) → gi H 165 i = gi h 165 i := fun i hi => fH.1 _ _ (by omega) (by omega) (by omega)
    have e168 : ∀ i, gi H 168 i = gi h 168 i := fun i => fH.1 _ _ (by omega) (by omega) (by omega)
    have e169 : ∀ i, gi H 169 i = gi h 169 i := fun i => fH.1 _ _ (by omega) (by omega) (by omega)
    have e176 : ∀ i, gi H 176 i = gi h 176 i := fun i => fH.1 _ _ (by omega) (by omega) (by omega)
    have e166 : ∀ i, gi H 166 i = gi h 166 i := fun i => fH.1 _ _ (by omega) (by omega) (by omega)
    have e167 : ∀ i, gi H 167 i = gi h 167 i := fun i => fH.1 _ _ (by omega) (by omega) (by omega)
    have h24 := F.1
    obtain ⟨v1, v2, v3, v4⟩ := F.2 p p0 (by omega)
    have hnext : ∀ h', dL d 185 60 [lR 1 11 165, lI L, lI 1, lI p, w4] [] h' = dL d 185 4 [lR 1 11 165, lI L, lI 1, lI (p + 1), w4] [] h' := fun h' => by rw [b185_60, ck_p (by omega) (by omega)]
    have hskip : ¬ (p ≠ gi h 165 10 ∧ p ≠ gi h 165 11 ∧ ly (gi h 168 p) = L) → _ := fun hno => ih (p + 1) H (by omega) (by omega) fH I (fun z q q0 q1 q2 q3 q4 => by
      by_cases y : q = p
      · rw [y] at q2 q3 q4; exact absurd ⟨q2, q3, q4⟩ hno
      · exact C z q q0 (by omega) q2 q3 q4)
    rw [b185_4, eI 5 (by omega), if_pos (by omega), eI 10 (by omega), eI 11 (by omega)]
    by_cases z1 : p = gi h 165 10
    · rw [if_pos z1, hnext]; exact hskip (fun w => w.1 z1)
    rw [if_neg z1]
    by_cases z2 : p = gi h 165 11
    · rw [if_pos z2, hnext]; exact hskip (fun w => w.2.1 z2)
    rw [if_neg z2, ix_p p0 (by omega), e168, ix_p v1.1 v1.2, e176, hly _ v1.1 v1.2]
    by_cases z3 : ly (gi h 168 p) = L
    case neg => rw [if_neg z3, hnext]; exact hskip (fun w => z3 w.2.2)
    rw [if_pos z3, ix_p p0 (by omega), ix_p p0 (by omega), e169]
    obtain ⟨b, h', t1, t2, t3, t4, t5, t6, t7, t8⟩ := s186n (d := d) (by omega) D v1 (by rw [e166]; exact v2) (by rw [e167]; exact v3) z3 I v4 (Or.inr (fun Dm ω' cn hD => cn.2.2.2.1 _ _ v1.1 v1.2 hD z3 ⟨p, p0, by omega, z1, z2, rfl, rfl⟩))
    rw [t1, bk_v, b185_59, hnext]
    refine ih (p + 1) h' (by omega) (by omega) (frL_trans fH (frL_M (frM_N t3))) t4 (fun z q q0 q1 q2 q3 q4 => ?_)
    obtain ⟨y1, y2⟩ := t8 z
    by_cases y : q = p
    · rw [y]; exact y2
    · have vq := (F.2 q q0 (by omega)).1
      exact t5 _ _ vq.1 vq.2 (C y1 q q0 (by omega) q2 q3 q4)
variable (cl kd ly RL U L) in
/-- the rule in place p is closed -/
def clP (h H : dm_H) (p : Int) : Prop := gi h 174 p ≠ 0 → gi h 172 (38 * p) ≠ 3 → ly (U p).2.1 = L → ∀ c, mkd cl (U p) (nW H) c → cov cl kd (nW H) (U p).2.1 c
theorem mkd_e {u : mU} {ω ω' : mW} (D : DC cl kd) (R : RU cl kd ly oc u) (V : VW cl kd ω) (V' : VW cl kd ω') (e : eqW ω ω') {c : Int} (m : mkd cl u ω c) : mkd cl u ω' c := by
  refine mkd_cg (RU_GW D R V) (RU_GW D R V') (fun k k0 k1 q x => ?_) m
  exact (eqW_in e (RU_low R k0 k1 q).1).symm
/-- one pass over the places -/
theorem rpass {d : Nat} (hd : 9 ≤ d) (D : DC cl kd) {ft : Int → Int → Prop} (hR : ∀ u, RL u → RU cl kd ly oc u) {h : dm_H} (B : HBr cl kd RL U h) (hly : ∀ r, 0 ≤ r → r < 6 → gi h 176 r = ly r) {ω0 : mW} : ∀ (n : Nat) (p m : Int) (hs H : dm_H) (w4 : Option dm_V), 0 ≤ p → p + n = 11 → (m = 0 ∨ m = 1) → frL h H → NI cl kd ly ft RL L ω0 H → eqW (nW H) (rW H) → wgh cl kd (nW hs) ≤ wgh cl kd (nW H) → (m = 1 → wgh cl kd (nW hs) < wgh cl kd (nW H)) → (∀ q x, 0 ≤ q → q < 6 → cov cl kd (nW hs) q x → cov cl kd (nW H) q x) → (gi H 165 27 = 0 → m = 0 → ∀ q, 0 ≤ q → q < p → clP cl kd ly U L h H q) →
    ∃ m' h' p' w4', dL d 185 101 [lR 1 11 165, lI L, lI m, lI p, w4] [] H = dL d 185 86 [lR 1 11 165, lI L, lI m', p', w4'] [] h' ∧ (m' = 0 ∨ m' = 1) ∧ frL h h' ∧ NI cl kd ly ft RL L ω0 h' ∧ eqW (nW h') (rW h') ∧ (m' = 1 → wgh cl kd (nW hs) < wgh cl kd (nW h')) ∧ (∀ q x, 0 ≤ q → q < 6 → cov cl kd (nW hs) q x → cov cl kd (nW h') q x) ∧ (gi h' 165 27 = 0 → m' = 0 → ∀ q, 0 ≤ q → q < 11 → clP cl kd ly U L h h' q) ∧ wgh cl kd (nW hs) ≤ wgh cl kd (nW h') ∧ (gi h' 165 27 = 0 → gi H 165 27 = 0) := by
  intro n
  induction n with
  | zero =>
    intro p m hs H w4 p0 pn m01 fH I E W1 W2 C0 C
    rw [b185_101, if_pos (by omega), b185_191]
    exact ⟨m, H, _, _, rfl, m01, fH, I, E, W2, C0, fun z y q q0 q1 => C z y q q0 (by omega), W1, fun y => y⟩
  | succ n ih =>
    intro p m hs H w4 p0 pn m01 fH I E W1 W2 C0 C
    rw [b185_101, if_neg (by omega)]
    by_cases z : gi H 165 27 = 0
    case neg =>
      rw [if_neg z, b185_191]
      exact ⟨m, H, _, _, rfl, m01, fH, I, E, W2, C0, fun y => absurd y z, W1, fun y => y⟩
    have e172 : ∀ i, gi H 172 i = gi h 172 i := fun i => fH.1 _ _ (by omega) (by omega) (by omega)
    have e174 : ∀ i, gi H 174 i = gi h 174 i := fun i => fH.1 _ _ (by omega) (by omega) (by omega)
    have e176 : ∀ i, gi H 176 i = gi h 176 i := fun i => fH.1 _ _ (by omega) (by omega) (by omega)
    rw [if_pos z, ix_p p0 (by omega), e174]
    have hnext : ∀ (m : Int) (w4 : Option dm_V) (h' : dm_H), dL d 185 185 [lR 1 11 165, lI L, lI m, lI p, w4] [] h' = dL d 185 101 [lR 1 11 165, lI L, lI m, lI (p + 1), w4] [] h' := fun m w4 h' => by rw [b185_185, ck_p (by omega) (by omega)]
    have fix : ∀ {X : dm_O} {H' : dm_H}, (∃ m' h' p' w4', X = dL d 185 86 [lR 1 11 165, lI L, lI m', p', w4'] [] h' ∧ (m' = 0 ∨ m' = 1) ∧ frL h h' ∧ NI cl kd ly ft RL L ω0 h' ∧ eqW (nW h') (rW h') ∧ (m' = 1 → wgh cl kd (nW hs) < wgh cl kd (nW h')) ∧ (∀ q x, 0 ≤ q → q < 6 → cov cl kd (nW hs) q x → cov cl kd (nW h') q x) ∧ (gi h' 165 27 = 0 → m' = 0 → ∀ q, 0 ≤ q → q < 11 → clP cl kd ly U L h h' q) ∧ wgh cl kd (nW hs) ≤ wgh cl kd (nW h') ∧ (gi h' 165 27 = 0 → gi H' 165 27 = 0)) → (∃ m' h' p' w4', X = dL d 185 86 [lR 1 11 165, lI L, lI m', p', w4'] [] h' ∧ (m' = 0 ∨ m' = 1) ∧ frL h h' ∧ NI cl kd ly ft RL L ω0 h' ∧ eqW (nW h') (rW h') ∧ (m' = 1 → wgh cl kd (nW hs) < wgh cl kd (nW h')) ∧ (∀ q x, 0 ≤ q → q < 6 → cov cl kd (nW hs) q x → cov cl kd (nW h') q x) ∧ (gi h' 165 27 = 0 → m' = 0 → ∀ q, 0 ≤ q → q < 11 → clP cl kd ly U L h h' q) ∧ wgh cl kd (nW hs) ≤ wgh cl kd (nW h') ∧ (gi h' 165 27 = 0 → gi H 165 27 = 0)) := by
      rintro X H' ⟨m', h', p', w4', y1, y2, y3, y4, y5, y6, y7, y8, y9, _⟩
      exact ⟨m', h', p', w4', y1, y2, y3, y4, y5, y6, y7, y8, y9, fun _ => z⟩
    have hskip : clP cl kd ly U L h H p → ∀ w4, _ := fun hc w4 => ih (p + 1) m hs H w4 (by omega) (by omega) m01 fH I E W1 W2 C0 (fun z y q q0 q1 => by
      by_cases x : q = p
      · rw [x]; exact hc
      · exact C z y q q0 (by omega))
    by_cases z1 : gi h 174 p = 0
    · rw [if_pos z1, hnext]
      exact hskip (fun w => absurd z1 w) _
    rw [if_neg z1, s179 (by omega) p 0 H (by omega) (by omega), bk_v, b185_129, Int.add_zero, e172]
    by_cases z2 : gi h 172 (38 * p) = 3
    · rw [if_pos z2, hnext]
      exact hskip (fun _ w => absurd z2 w) _
    obtain ⟨hRL, hU⟩ := B.1 p p0 (by omega) z1 z2
    have R := hR _ hRL
    have UH := UR_fl fH hU
    rw [if_neg z2, s179 (by omega) p 1 H (by omega) (by omega), bk_v, b185_143, UH.2.2.1, ix_p R.2.1.1 R.2.1.2, e176, hly _ R.2.1.1 R.2.1.2]
    by_cases z3 : ly (U p).2.1 = L
    case neg =>
      rw [if_neg z3, hnext]
      exact hskip (fun _ _ w => absurd w z3) _
    have VH : VW cl kd (nW H) := I.1
    have VR : VW cl kd (rW H) := eqW_VW E VH
    obtain ⟨b, h2, t1, t2, t3⟩ := s188 (d := d) hd D UH R hRL z3 VR (eqW_symm E) I
    obtain ⟨b01, fM, I2, cv2, eq2, wle, wlt, h27⟩ := t2
    have f2 := frL_trans fH (frL_M fM)
    have erW : rW h2 = rW H := eqf_W (frM_f fM)
    rw [if_pos z3, t1, bk_v, b185_153, or_01 m01 b01]
    by_cases hb : b = 0
    · rw [if_pos hb, hnext]
      have e2 := eq2 hb
      have hm : (if m = 1 ∨ b = 1 then (1 : Int) else 0) = m := by
        rcases m01 with q | q
        · rw [if_neg (by omega)]; omega
        · rw [if_pos (Or.inl q)]; omega
      rw [hm]
      refine fix (ih (p + 1) m hs h2 _ (by omega) (by omega) m01 f2 I2 (by rw [erW]; exact eqW_trans (eqW_symm e2) E) (by omega) (fun q => by have := W2 q; omega) (fun q x q0 q1 k => cv2 q x q0 q1 (C0 q x q0 q1 k)) (fun y1 y2 q q0 q1 => ?_))
      by_cases x : q = p
      · rw [x]
        intro _ _ _ c mk
        exact t3 y1 c (mkd_e D R I2.1 VR (eqW_trans (eqW_symm e2) E) mk)
      · intro g1 g2 g3 c mk
        obtain ⟨rl', -⟩ := B.1 q q0 (by omega) g1 g2
        have R' := hR _ rl'
        exact cv2 _ _ R'.2.1.1 R'.2.1.2 (C z y2 q q0 (by omega) g1 g2 g3 c (mkd_e D R' I2.1 VH (eqW_symm e2) mk))
    · rw [if_neg hb]
      have hb1 : b = 1 := by omega
      obtain ⟨h3, c0, c1⟩ := s175 (d := d) (by omega) h2 (a1 := 179) (a2 := 180) (a3 := 177) (a4 := 178) (by decide) (by decide) (by decide) (by decide) (by decide) (fun r r0 r1 => (I2.1 r r0 r1).1)
      obtain ⟨k1, k2, k3, k4⟩ := cpy_nr c1
      rw [c0, bk_n, hnext, if_pos (Or.inr hb1)]
      have I3 : NI cl kd ly ft RL L ω0 h3 := by
        unfold NI at I2 ⊢
        rw [k2, k4]; exact I2
      have := wlt hb1
      exact fix (ih (p + 1) 1 hs h3 _ (by omega) (by omega) (Or.inr rfl) (frL_trans f2 k1) I3 (by rw [k2]; exact k3) (by rw [k2]; omega) (fun _ => by rw [k2]; omega) (fun q x q0 q1 k => by rw [k2]; exact cv2 q x q0 q1 (C0 q x q0 q1 k)) (fun _ y => by omega))
/-- passes end -/
theorem rpasses {d : Nat} (hd : 9 ≤ d) (D : DC cl kd) {ft : Int → Int → Prop} (hR : ∀ u, RL u → RU cl kd ly oc u) {h : dm_H} (B : HBr cl kd RL U h) (hly : ∀ r, 0 ≤ r → r < 6 → gi h 176 r = ly r) {ω0 : mW} : ∀ (n : Nat) (m : Int) (hs H : dm_H) (w3 w4 : Option dm_V), (m = 0 ∨ m = 1) → frL h H → NI cl kd ly ft RL L ω0 H → eqW (nW H) (rW H) → 19200 - wgh cl kd (nW H) + m < n → (∀ q x, 0 ≤ q → q < 6 → cov cl kd (nW hs) q x → cov cl kd (nW H) q x) → (gi H 165 27 = 0 → m = 0 → ∀ q, 0 ≤ q → q < 11 → clP cl kd ly U L h H q) →
    ∃ h', dL d 185 86 [lR 1 11 165, lI L, lI m, w3, w4] [] H = rV h' ∧ frL h h' ∧ NI cl kd ly ft RL L ω0 h' ∧ eqW (nW h') (rW h') ∧ (∀ q x, 0 ≤ q → q < 6 → cov cl kd (nW hs) q x → cov cl kd (nW h') q x) ∧ (gi h' 165 27 = 0 → ∀ q, 0 ≤ q → q < 11 → clP cl kd ly U L h h' q) ∧ (gi h' 165 27 = 0 → gi H 165 27 = 0) := by
  intro n
  induction n with
  | zero =>
    intro m hs H w3 w4 m01 fH I E W
    have := (wgh_ub D I.1).2
    omega
  | succ n ih =>
    intro m hs H w3 w4 m01 fH I E W C0 C
    rw [b185_86]
    by_cases zm : m = 0
    · rw [if_pos zm, b185_194]
      exact ⟨H, rfl, fH, I, E, C0, fun y => C y zm, fun y => y⟩
    rw [if_neg zm]
    by_cases z : gi H 165 27 = 0
    case neg =>
      rw [if_neg z, b185_194]
      exact ⟨H, rfl, fH, I, E, C0, fun y => absurd y z, fun y => y⟩
    rw [if_pos z]
    obtain ⟨m', h', p', w4', t1, t2, t3, t4, t5, t6, t7, t8, t9, t10⟩ := rpass hd D hR B hly 11 0 0 H H w4 (by omega) (by omega) (Or.inl rfl) fH I E (Int.le_refl _) (fun q => by omega) (fun _ _ _ _ k => k) (fun _ _ q q0 q1 => by omega)
    rw [t1]
    have hm : 19200 - wgh cl kd (nW h') + m' < n := by
      have := (wgh_ub D t4.1).2
      have := (wgh_ub D I.1).2
      rcases t2 with q | q
      · omega
      · have := t6 q
        omega
    obtain ⟨hh, y1, y2, y3, y4, y5, y6, y7⟩ := ih m' hs h' p' w4' t2 t3 t4 t5 hm (fun q x q0 q1 k => t7 q x q0 q1 (C0 q x q0 q1 k)) t8
    exact ⟨hh, y1, y2, y3, y4, y5, y6, fun _ => z⟩
theorem s185 {d : Nat} (hd : 10 ≤ d) (D : DC cl kd) (hR : ∀ u, RL u → RU cl kd ly oc u) {h : dm_H} (F : FVr cl kd h) (B : HBr cl kd RL U h) (hly : ∀ r, 0 ≤ r → r < 6 → gi h 176 r = ly r) (hL : 0 ≤ L) (V : VW cl kd (nW h)) (S : SRT (nW h)) (hz : ∀ r, 0 ≤ r → r < 6 → L ≤ ly r → (nW h).1 r = 0) (h27 : gi h 165 27 = 0) (G : gds cl kd ly (ftR h) RL L (nW h)) :
    ∃ h', dF d 185 [dR 1 11 165, dI L] h = rV h' ∧ frL h h' ∧ ((gi h' 165 27 = 0 ∧ VW cl kd (nW h') ∧ SRT (nW h') ∧ eqW (nW h') (rW h') ∧ (∀ r, 0 ≤ r → r < 6 → L + 1 ≤ ly r → (nW h').1 r = 0) ∧ gds cl kd ly (ftR h) RL (L + 1) (nW h')) ∨ (gi h' 165 27 = 1 ∧ muc cl kd ly (ftR h) RL)) := by
  rw [f185 (by omega), b185_0]
  have I0 : NI cl kd ly (ftR h) RL L (nW h) h := ⟨V, S, fun r r0 r1 _ => ⟨rfl, fun _ _ _ => rfl⟩, Or.inr (fun Dm ω' cn r r0 r1 hD l c hc => by
    obtain ⟨x, x0, x1, _⟩ := hc
    rw [hz r r0 r1 (by omega)] at x1
    omega), Or.inl h27⟩
  obtain ⟨h1, t1, t2, t3, t4, t5⟩ := rfacts (d := d - 1) (by omega) D F hly (RL := RL) (L := L) (ω0 := nW h) (lI 1) rfl none (gi h 165 5).toNat 0 h (by omega) (by have := F.1; omega) (frL_refl h) I0 (fun _ q q0 q1 => by omega)
  rw [t1]
  obtain ⟨h', u1, u2, u3, u4, u5, u6, u7⟩ := rpasses (d := d - 1) (by omega) D hR B hly 19203 1 h1 h1 _ none (Or.inr rfl) t2 t3 t4 (by have := (wgh_ub D t3.1).1; omega) (fun _ _ _ _ k => k) (fun _ y => by omega)
  rw [u1]
  refine ⟨h', rfl, u2, ?_⟩
  obtain ⟨v1, v2, v3, v4, v5⟩ := u3
  rcases v5 with v5 | ⟨v5, v6⟩
  · left
    have low : ∀ r, 0 ≤ r → r < 6 → ly r < L → ∀ c, inW (nW h) r c ↔ inW (nW h') r c := fun r r0 r1 l c => (otW_in v3 r0 r1 (by omega) c).symm
    have cl1 : clod cl kd ly (ftR h) RL (fun _ => True) L (nW h') := by
      refine ⟨fun r c r0 r1 _ l f => u5 r c r0 r1 (t5 (u7 v5) r c r0 r1 l f), fun u hu _ l c m => ?_⟩
      obtain ⟨p, p1, p2, p3, rfl⟩ := B.2 u hu
      exact u6 v5 p p1.1 (by omega) p2 p3 l c m
    have sd : sdW cl kd ly (ftR h) RL L (nW h) (nW h') := by
      rcases v4 with q | q
      · exact absurd ⟨fun _ _ _ _ _ _ _ => trivial, v1, fun r r0 r1 _ l c => low r r0 r1 l c, cl1⟩ (q (nW h'))
      · exact q
    refine ⟨v5, v1, v2, u4, fun r r0 r1 l => ?_, v1, fun M M0 M1 => ?_⟩
    · rw [(v3 r r0 r1 (by omega)).1]
      exact hz r r0 r1 (by omega)
    · by_cases hM : M < L
      · exact (gds_cg D hR v1 low G).2 M M0 hM
      have eM : M = L := by omega
      subst eM
      refine ⟨cl1, fun Dm ω' hd' V' lw cl' r r0 r1 q l c hc => sd Dm ω' ⟨hd', V', fun r r0 r1 q l c => (low r r0 r1 l c).trans (lw r r0 r1 q l c), cl'⟩ r r0 r1 q l c hc⟩
  · exact Or.inr ⟨v5, L, nW h, hL, G, fun ω' V' lw cl' => v6 ω' ⟨fun _ _ _ _ _ _ _ => trivial, V', fun r r0 r1 _ l c => lw r r0 r1 l c, cl'⟩⟩
end RLAY
