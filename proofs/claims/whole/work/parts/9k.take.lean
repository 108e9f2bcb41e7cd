/-! ROWS ARE TAKEN OVER, put aside, brought back -/
section TKO
variable {h : dm_H}
/-- rows put aside, rows had -/
def aW (h : dm_H) : mW := (fun r => gi h 184 r, fun r x => gi h 183 (40 * r + x))
def oW (h : dm_H) : mW := (fun r => gi h 182 r, fun r x => gi h 181 (40 * r + x))
theorem cW_far {P : Nat} (hP : rw_ P) {h h' : dm_H} (e : ∀ a i, P + 1 ≤ a → a ≤ P + 8 → gi h' a i = gi h a i) : eqW (cW h P) (cW h' P) := by
  have q : P = 95 ∨ P = 112 := hP
  intro r r0 r1
  exact ⟨e _ _ (by omega) (by omega), fun x _ _ => e _ _ (by omega) (by omega)⟩
theorem inW_eq {ω ω' : mW} (e : eqW ω ω') : ∀ r, 0 ≤ r → r < 6 → ∀ c, inW ω r c ↔ inW ω' r c := fun r r0 r1 c => (eqW_in e ⟨r0, r1⟩).symm
theorem s83 {d : Nat} (hd : 3 ≤ d) {P Q : Nat} (eP : gr h 1 8 = P) (eQ : gr h 1 9 = Q) (hP : rw_ P) (hQ : rw_ Q) (hPQ : P ≠ Q) {cl kd : Int → Int} (V : VW cl kd (cW h Q)) (VP : ∀ r, 0 ≤ r → r < 6 → 0 ≤ rsz h P r ∧ rsz h P r ≤ 32) (hn : 0 ≤ gi h 2 0 ∧ gi h 2 0 ≤ 6) (h0 : ∀ r, gi h 2 0 ≤ r → r < 6 → rsz h Q r = 0 ∧ rsz h P r = 0) :
    ∃ h', dF d 83 [dR 1 10 1] h = rV h' ∧ (∀ a i, ¬ (Q + 3 ≤ a ∧ a ≤ Q + 8) → ¬ (a = 1 ∧ 13 ≤ i ∧ i ≤ 16) → gi h' a i = gi h a i) ∧ (gr h' 1 8 = Q ∧ gr h' 1 9 = P) ∧ (∀ a i, ¬ (a = 1 ∧ (i = 8 ∨ i = 9)) → gr h' a i = gr h a i) ∧ h'.2.2 = h.2.2 ∧ SRT (cW h' Q) ∧ (∀ r, 0 ≤ r → r < 6 → rsz h' Q r = rsz h Q r) ∧ (∀ r, 0 ≤ r → r < 6 → ∀ c, inW (cW h' Q) r c ↔ inW (cW h Q) r c) ∧ gi h' 1 13 = ms (cW h' Q) (cW h P) ∧ gi h' 1 14 = ms (cW h P) (cW h' Q) ∧ gi h' 1 15 = 0 ∧ gi h' 1 16 = 0 := by
  have q1 : Q = 95 ∨ Q = 112 := hQ
  have q2 : P = 95 ∨ P = 112 := hP
  obtain ⟨h1, x1, x2, x3, x4, x5, x6, x7⟩ := s84 (d := d - 1) (by omega) hQ V hn (fun r r0 r1 => (h0 r r0 r1).1)
  have eqP : eqW (cW h P) (cW h1 P) := cW_far hP (fun a i p q => x2 a i (by omega))
  have VQ1 : ∀ r, 0 ≤ r → r < 6 → 0 ≤ rsz h1 Q r ∧ rsz h1 Q r ≤ 32 := fun r r0 r1 => by rw [x5 r r0 r1]; exact (V r r0 r1).1
  have VP1 : ∀ r, 0 ≤ r → r < 6 → 0 ≤ rsz h1 P r ∧ rsz h1 P r ≤ 32 := fun r r0 r1 => by
    have := (eqP r r0 r1).1
    have e : rsz h1 P r = rsz h P r := this
    rw [e]; exact VP r r0 r1
  have e2 : gi h1 2 0 = gi h 2 0 := x2 _ _ (by omega)
  obtain ⟨m1, em1⟩ : ∃ m1, m1 = ms (cW h1 Q) (cW h1 P) := ⟨_, rfl⟩
  have y1 := s85 (d := d - 1) (h := h1) (P := Q) (Q := P) (by omega) (by rw [e2]; exact hn) VQ1 VP1 (fun r r0 r1 => by
    rw [e2] at r0
    rw [x5 r (by omega) r1]; exact (h0 r r0 r1).1)
  rw [← em1] at y1
  have c1 : ∀ (x : Int) (R : Nat), R = 95 ∨ R = 112 → cW (si h1 1 13 x) R = cW h1 R := by
    intro x R hR
    have a1 : rsz (si h1 1 13 x) R = rsz h1 R := by funext r; exact gi_sin (by omega)
    have a2 : rws (si h1 1 13 x) R = rws h1 R := by funext r y; exact gi_sin (by omega)
    unfold cW
    rw [a1, a2]
  have y2 := s85 (d := d - 1) (h := si h1 1 13 m1) (P := P) (Q := Q) (by omega) (by rw [gi_sin (by omega), e2]; exact hn) (fun r r0 r1 => by
    have : rsz (si h1 1 13 m1) P r = rsz h1 P r := gi_sin (by omega)
    rw [this]; exact VP1 r r0 r1) (fun r r0 r1 => by
    have : rsz (si h1 1 13 m1) Q r = rsz h1 Q r := gi_sin (by omega)
    rw [this]; exact VQ1 r r0 r1) (fun r r0 r1 => by
    rw [gi_sin (by omega), e2] at r0
    have : rsz (si h1 1 13 m1) P r = rsz h1 P r := gi_sin (by omega)
    rw [this]
    have e : rsz h1 P r = rsz h P r := (eqP r (by omega) r1).1
    rw [e]; exact (h0 r r0 r1).2)
  rw [c1 _ _ q1, c1 _ _ q2] at y2
  rw [f83 (by omega), b83_0, eQ, x1, bk_n, b83_7, x3, x3, eP, eQ, y1, bk_v, b83_19, gr_si, gr_si, x3, x3, eP, eQ, y2, bk_v, b83_34]
  obtain ⟨m2, em2⟩ : ∃ m2, m2 = ms (cW h1 P) (cW h1 Q) := ⟨_, rfl⟩
  rw [← em2]
  obtain ⟨H, eH⟩ : ∃ H, H = si (si (sr (sr (si (si h1 1 13 m1) 1 14 m2) 1 8 (gr (si (si h1 1 13 m1) 1 14 m2) 1 9)) 1 9 (gr (si (si h1 1 13 m1) 1 14 m2) 1 8)) 1 15 0) 1 16 0 := ⟨_, rfl⟩
  rw [← eH]
  have go : ∀ a i, ¬ (a = 1 ∧ 13 ≤ i ∧ i ≤ 16) → gi H a i = gi h1 a i := by
    intro a i hai
    rw [eH, gi_si, if_neg (by omega), gi_si, if_neg (by omega), gi_sr, gi_sr, gi_si, if_neg (by omega), gi_si, if_neg (by omega)]
  have cH : ∀ R : Nat, R = 95 ∨ R = 112 → cW H R = cW h1 R := by
    intro R hR
    have a1 : rsz H R = rsz h1 R := by funext r; exact go _ _ (by omega)
    have a2 : rws H R = rws h1 R := by funext r y; exact go _ _ (by omega)
    unfold cW
    rw [a1, a2]
  refine ⟨H, rfl, fun a i p q => by rw [go a i q, x2 a i p], ⟨?_, ?_⟩, fun a i p => ?_, by rw [eH]; exact x4, ?_, fun r r0 r1 => ?_, fun r r0 r1 c => ?_, ?_, ?_, ?_, ?_⟩
  · rw [eH, gr_si, gr_si, gr_sr, if_neg (by omega), gr_sr, if_pos ⟨rfl, rfl⟩, gr_si, gr_si, x3, eQ]
  · rw [eH, gr_si, gr_si, gr_sr, if_pos ⟨rfl, rfl⟩, gr_si, gr_si, x3, eP]
  · rw [eH, gr_si, gr_si, gr_sr, if_neg (by omega), gr_sr, if_neg (by omega), gr_si, gr_si, x3]
  · rw [cH _ q1]; exact x6
  · have : rsz H Q r = rsz h1 Q r := go _ _ (by omega)
    rw [this, x5 r r0 r1]
  · rw [cH _ q1]; exact x7 r r0 r1 c
  · rw [cH _ q1]
    have : gi H 1 13 = m1 := by
      rw [eH, gi_si, if_neg (by omega), gi_si, if_neg (by omega), gi_sr, gi_sr, gi_si, if_neg (by omega), gi_si, if_pos ⟨rfl, rfl⟩]
    rw [this, em1]
    exact (ms_eq (eqW_refl _) (fun r r0 r1 c => (inW_eq eqP r r0 r1 c).symm) (fun r r0 r1 => (VQ1 r r0 r1).1)).symm
  · rw [cH _ q1]
    have : gi H 1 14 = m2 := by
      rw [eH, gi_si, if_neg (by omega), gi_si, if_neg (by omega), gi_sr, gi_sr, gi_si, if_pos ⟨rfl, rfl⟩]
    rw [this, em2]
    exact ms_eq eqP (fun r r0 r1 c => Iff.rfl) (fun r r0 r1 => (VP r r0 r1).1)
  · rw [eH, gi_si, if_neg (by omega), gi_si, if_pos ⟨rfl, rfl⟩]
  · rw [eH, gi_si, if_pos ⟨rfl, rfl⟩]
/-- the reference puts its rows aside -/
theorem s174 {d : Nat} (hd : 2 ≤ d) (hz : ∀ r, 0 ≤ r → r < 6 → 0 ≤ gi h 178 r ∧ gi h 178 r ≤ 32) : ∃ h', dF d 174 [dR 1 11 165] h = rV h' ∧ (∀ a i, a ≠ 183 → a ≠ 184 → gi h' a i = gi h a i) ∧ (∀ a i, gr h' a i = gr h a i) ∧ h'.2.2 = h.2.2 ∧ eqW (rW h) (aW h') := by
  obtain ⟨h', x1, x2, x3, x4, x5⟩ := s175 (d := d - 1) (by omega) h (a1 := 177) (a2 := 178) (a3 := 183) (a4 := 184) (by omega) (by omega) (by omega) (by omega) (by omega) hz
  rw [f174 (by omega), b174_0, x1, bk_n, b174_20]
  exact ⟨h', rfl, x2, x3, x4, x5⟩
theorem s213 {d : Nat} (hd : 2 ≤ d) (hz : ∀ r, 0 ≤ r → r < 6 → 0 ≤ gi h 184 r ∧ gi h 184 r ≤ 32) : ∃ h', dF d 213 [dR 1 11 165] h = rV h' ∧ (∀ a i, a ≠ 181 → a ≠ 182 → ¬ (a = 165 ∧ i = 44) → gi h' a i = gi h a i) ∧ (∀ a i, gr h' a i = gr h a i) ∧ h'.2.2 = h.2.2 ∧ eqW (aW h) (oW h') ∧ gi h' 165 44 = 0 := by
  obtain ⟨h', x1, x2, x3, x4, x5⟩ := s175 (d := d - 1) (by omega) h (a1 := 183) (a2 := 184) (a3 := 181) (a4 := 182) (by omega) (by omega) (by omega) (by omega) (by omega) hz
  rw [f213 (by omega), b213_0, x1, bk_n, b213_20]
  refine ⟨_, rfl, fun a i p q r => by rw [gi_si, if_neg r, x2 a i p q], x3, x4, fun r r0 r1 => ?_, by rw [gi_si, if_pos ⟨rfl, rfl⟩]⟩
  obtain ⟨e1, e2⟩ := x5 r r0 r1
  exact ⟨by show gi (si h' 165 44 0) 182 r = _; rw [gi_sin (by omega)]; exact e1, fun x x0 xz => by show gi (si h' 165 44 0) 181 _ = _; rw [gi_sin (by omega)]; exact e2 x x0 xz⟩
theorem HBr_cg {cl kd : Int → Int} {RL : mU → Prop} {U : Int → mU} {h h' : dm_H} (e172 : ∀ i, gi h' 172 i = gi h 172 i) (e174 : ∀ i, gi h' 174 i = gi h 174 i) (e166 : ∀ i, gi h' 166 i = gi h 166 i) (e167 : ∀ i, gi h' 167 i = gi h 167 i) (B : HBr cl kd RL U h) : HBr cl kd RL U h' := by
  refine ⟨fun p p0 p1 q1 q2 => ?_, fun u hu => ?_⟩
  · rw [e174] at q1
    rw [e172] at q2
    obtain ⟨a1, a2⟩ := B.1 p p0 p1 q1 q2
    exact ⟨a1, UR_c e172 e166 e167 a2⟩
  · obtain ⟨p, p1, p2, p3, p4⟩ := B.2 u hu
    exact ⟨p, p1, by rw [e174]; exact p2, by rw [e172]; exact p3, p4⟩
/-- the reference brings back what it had put aside -/
theorem s212 {d : Nat} (hd : 5 ≤ d) {cl kd ly : Int → Int} {RL : mU → Prop} {U : Int → mU} {n : Int} (G : GOOD cl kd n RL) (hk : ∀ r, gi h 167 r = kd r) (B : HBr cl kd RL U h) (l : lyL kd (ocL RL) RL ly) (l5 : ∀ r, 0 ≤ r → r < 6 → ly r ≤ 5) (hz : ∀ r, 0 ≤ r → r < 6 → 0 ≤ gi h 184 r ∧ gi h 184 r ≤ 32) : ∃ h', dF d 212 [dR 1 11 165] h = rV h' ∧ (∀ a i, ¬ (175 ≤ a ∧ a ≤ 178) → ¬ (a = 165 ∧ (i = 10 ∨ i = 11)) → gi h' a i = gi h a i) ∧ (∀ a i, gr h' a i = gr h a i) ∧ h'.2.2 = h.2.2 ∧ eqW (aW h) (rW h') ∧ gi h' 165 10 = -1 ∧ gi h' 165 11 = -1 := by
  have hS : ∀ u, RL u → HSu u := fun u hu => (G u hu).1.2.2.1.1
  obtain ⟨h', x1, x2, x3, x4, x5⟩ := s175 (d := d - 1) (by omega) h (a1 := 183) (a2 := 184) (a3 := 177) (a4 := 178) (by omega) (by omega) (by omega) (by omega) (by omega) hz
  obtain ⟨H, eH⟩ : ∃ H, H = si (si h' 165 10 (-1)) 165 11 (-1) := ⟨_, rfl⟩
  have g : ∀ a i, ¬ (a = 165 ∧ (i = 10 ∨ i = 11)) → gi H a i = gi h' a i := fun a i hi => by rw [eH, gi_si, if_neg (by omega), gi_si, if_neg (by omega)]
  have BH : HBr cl kd RL U H := HBr_cg (fun i => by rw [g _ _ (by omega), x2 _ _ (by omega) (by omega)]) (fun i => by rw [g _ _ (by omega), x2 _ _ (by omega) (by omega)]) (fun i => by rw [g _ _ (by omega), x2 _ _ (by omega) (by omega)]) (fun i => by rw [g _ _ (by omega), x2 _ _ (by omega) (by omega)]) B
  obtain ⟨h1, y1, y2, y3, y4, y5, y6⟩ := s178 (d := d - 1) (h := H) (by omega) BH hS
  have oc1 : ocH h1 175 = ocL RL := ocH_L y6
  have B1 : HBr cl kd RL U h1 := HBr_cg (fun i => y2 _ _ (by omega)) (fun i => y2 _ _ (by omega)) (fun i => y2 _ _ (by omega)) (fun i => y2 _ _ (by omega)) BH
  obtain ⟨h2, z1, z2, z3, z4, z5⟩ := s182 (d := d - 1) (h := h1) (by omega) B1 hS (fun r => by rw [y2 _ _ (by omega), g _ _ (by omega), x2 _ _ (by omega) (by omega)]; exact hk r) y5 (f := ly) (by rw [oc1]; exact l) l5
  rw [f212 (by omega), b212_0, x1, bk_n, b212_20, ← eH, y1, bk_n, b212_34, z1, bk_n, b212_38]
  refine ⟨h2, rfl, fun a i p q => by rw [z2 a i (by omega), y2 a i (by omega), g a i q, x2 a i (by omega) (by omega)], fun a i => by rw [z3, y3, eH]; exact x3 a i, by rw [z4, y4, eH]; exact x4, fun r r0 r1 => ?_, ?_, ?_⟩
  · obtain ⟨e1, e2⟩ := x5 r r0 r1
    refine ⟨?_, fun x x0 xz => ?_⟩
    · show gi h2 178 r = _
      rw [z2 _ _ (by omega), y2 _ _ (by omega), g _ _ (by omega)]; exact e1
    · show gi h2 177 (40 * r + x) = _
      rw [z2 _ _ (by omega), y2 _ _ (by omega), g _ _ (by omega)]; exact e2 x x0 xz
  · rw [z2 _ _ (by omega), y2 _ _ (by omega), eH, gi_si, if_neg (by omega), gi_si, if_pos ⟨rfl, rfl⟩]
  · rw [z2 _ _ (by omega), y2 _ _ (by omega), eH, gi_si, if_pos ⟨rfl, rfl⟩]
end TKO
