/-! THE DERIVATION GOES THROUGH A RULE -/
section DS4
variable {A P : Nat} {h0 : dm_H} {oc : Int → Int → Prop} {ft : Int → Int → Prop} {RL : mU → Prop} {s N rd na : Int}
theorem Js_iv {V : Nat} (hr : ru A) (hp : rw_ P) {h h2 : dm_H} {L : Int} (J : Js A P V N rd na h0 h) (I : inv P h0 ft RL s L h) (I2 : inv P h0 ft RL s L h2) : Js A P V N rd na h0 h2 := by
  obtain ⟨j1, j2, j3, j4, j5, j6, j7, j8, j9, j10, j11, j12, j13⟩ := J
  have e := fun a ha => frD_A hr hp I.1 a (Or.inl ha)
  have e2 := fun a ha => frD_A hr hp I2.1 a (Or.inl ha)
  have er : ∀ a i, gr h2 a i = gr h a i := fun a i => by rw [I.1.2.1, I2.1.2.1]
  have hP : P = 95 ∨ P = 112 := hp
  have ej : ∀ i, i = 9 ∨ i = 10 → gi h2 137 i = gi h 137 i := fun i hi => by
    rw [I.1.1 137 i (by omega) (by omega) (by omega) (by omega) (by omega) (by omega), I2.1.1 137 i (by omega) (by omega) (by omega) (by omega) (by omega) (by omega)]
  refine ⟨by rw [er]; exact j1, by rw [er]; exact j2, by rw [er]; exact j3, by rw [e2 A (by omega), ← e A (by omega)]; exact j4, fun i => e2 _ (by omega) i, fun i => e2 _ (by omega) i, fun i => e2 _ (by omega) i, fun i => e2 _ (by omega) i, fun i => e2 _ (by omega) i, by rw [ej 9 (by omega)]; exact j10, by rw [ej 10 (by omega)]; exact j11, fun r r0 r1 => (I2.2.1 r r0 r1).1, fun r p r0 r1 p0 p1 => ((I2.2.1 r r0 r1).2.1 p p0 p1).1⟩
theorem vis_mono (hrd : rd < s) {cl kd : Int → Int} {h h' : dm_H} {r : Int} (hr : 0 ≤ r ∧ r < 6) (g : gro cl kd P s h h') (h9 : gi h 137 9 = rd ∧ gi h' 137 9 = rd ∧ gi h' 137 10 = gi h 137 10) {k x : Int} (x0 : 0 ≤ x) (x1 : x < rsz h' P r) (e : vis h' P k r x) : x < rsz h P r ∧ vis h P k r x ∧ rws h' P r x = rws h P r x := by
  obtain ⟨g1, g2, g3, g4⟩ := g r hr.1 hr.2
  have hns : rst h' P r x ≠ s := by
    have := e.2
    unfold wHi at this
    rw [h9.2.1] at this
    split at this <;> omega
  have hlt : x < rsz h P r := by
    rcases Int.lt_or_le x (rsz h P r) with y | y
    · exact y
    · exact absurd (g3 x x0 y x1) hns
  rcases g2 x x0 hlt with ⟨y1, y2⟩ | ⟨y1, _⟩
  · refine ⟨hlt, ?_, y1⟩
    unfold vis wLo wHi at e ⊢
    rw [y2, h9.2.1, h9.2.2] at e
    rw [h9.1]
    exact e
  · exact absurd y1 hns
theorem der_step {t0 : Int} (W : DW A P h0 oc RL s N rd) (hab : abf (cR h0 A) N.toNat 0 ≤ 999999) {v : mA} (hv : Jv A h0 0 v) {h : dm_H} (J : Js A P 143 N rd na h0 h) (hva : va h 138 = v) (hI : inv P h0 ft RL s (gi h0 7 (gi h0 A 2)) h) (hP0 : PS A P h0 oc ft RL N (gi h0 7 (gi h0 A 2)) 0 v) (hE0 : EX (cR h0 A) 0 v) (h5 : gi h 137 5 = 0) (hT : gi h P 5 = t0) (h2 : gi h 137 2 = 0) {d : Nat} (hd : 8 ≤ d) :
    ∃ h', dF d 22 [dR 1 5 137, dI 0] h = rV h' ∧ inv P h0 ft RL s (gi h0 7 (gi h0 A 2)) h' ∧ gro (cK h0) (gi h0 4) P s h h' ∧ (gi h' P 5 = 0 → t0 = 0 ∧ ∀ w, vb A P h0 h' N.toNat 0 v w → cov (cK h0) (gi h0 4) (cW h' P) (gi h0 A 2) (hdc (cK h0) (uR h0 A) w)) := by
  have W0 := W
  obtain ⟨w1, w2, w3, w4, w5, w6, w7, w8, w9, w10, w11, w12⟩ := W0
  have hru := w1.1
  have hrw := w1.2.1
  have hN4 := w1.2.2.1
  have hPP : P = 95 ∨ P = 112 := hrw
  have hr6 : 0 ≤ gi h0 A 2 ∧ gi h0 A 2 < 6 := w3.2.1
  have D := RK_D w2
  have hs' : ∀ k, 0 ≤ k → k < N → (N - k).toNat = (N - (k + 1)).toNat + 1 := fun k _ _ => by omega
  have habs : ∀ k, 0 ≤ k → k < N → abf (cR h0 A) (N - k).toNat k = (if gi h0 (A + 2) k = 0 then 32 else 1) * abf (cR h0 A) (N - (k + 1)).toNat (k + 1) := fun k k0 k1 => by
    rw [hs' k k0 k1]; rfl
  have habp := fun n k => abf_pos (cR h0 A) n k
  have extg : ∀ {h h' : dm_H}, gro (cK h0) (gi h0 4) P s h h' → ext P h h' := fun g r r0 r1 => (g r r0 r1).1
  have eqj : ∀ {h h' : dm_H}, Jq P h h' → gi h' P 5 = gi h P 5 := fun q => Jq_P hrw q P 5 (by omega) (by omega)
  -- one literal that is no atom goes on
  have hpass : ∀ k v w h h2 h', 0 ≤ k → k < N → gi h0 (A + 2) k ≠ 0 → gro (cK h0) (gi h0 4) P s h h2 → gi h2 137 2 = gi h 137 2 → (∀ hx x, inv P h0 ft RL s (gi h0 7 (gi h0 A 2)) hx → stp (cR h0 A) (cW hx P) k v x → x = w) → (inv P h0 ft RL s (gi h0 7 (gi h0 A 2)) h' ∧ gro (cK h0) (gi h0 4) P s h2 h' ∧ (gi h2 137 2 ≤ gi h' 137 2 ∧ gi h' 137 2 ≤ gi h2 137 2 + abf (cR h0 A) (N - (k + 1)).toNat (k + 1)) ∧ ((gi h' 137 5 = 0 ∧ gi h' P 5 = t0 ∧ ∀ x, vb A P h0 h' (N - (k + 1)).toNat (k + 1) w x → cov (cK h0) (gi h0 4) (cW h' P) (gi h0 A 2) (hdc (cK h0) (uR h0 A) x)) ∨ (gi h' 137 5 ≠ 0 ∧ gi h' P 5 = 1))) →
      (inv P h0 ft RL s (gi h0 7 (gi h0 A 2)) h' ∧ gro (cK h0) (gi h0 4) P s h h' ∧ (gi h 137 2 ≤ gi h' 137 2 ∧ gi h' 137 2 ≤ gi h 137 2 + abf (cR h0 A) (N - k).toNat k) ∧ ((gi h' 137 5 = 0 ∧ gi h' P 5 = t0 ∧ ∀ x, vb A P h0 h' (N - k).toNat k v x → cov (cK h0) (gi h0 4) (cW h' P) (gi h0 A 2) (hdc (cK h0) (uR h0 A) x)) ∨ (gi h' 137 5 ≠ 0 ∧ gi h' P 5 = 1))) := by
    rintro k v w h h2 h' k0 k1 hne g e hw ⟨q1, q2, q3, q4⟩
    refine ⟨q1, gro_trans g q2, ?_, ?_⟩
    · rw [habs k k0 k1, if_neg hne]; exact ⟨by omega, by omega⟩
    · rcases q4 with ⟨z1, z2, z3⟩ | z
      · refine Or.inl ⟨z1, z2, fun x hx => ?_⟩
        rw [hs' k k0 k1] at hx
        obtain ⟨y, y1, y2⟩ := hx
        rcases y1 with ⟨y1, _⟩ | ⟨_, y1⟩
        · exact absurd y1 hne
        · rw [hw h' y q1 y1] at y2
          exact z3 x y2
      · exact Or.inr z
  -- one literal that stops
  have hhalt : ∀ k v h h2, 0 ≤ k → k < N → inv P h0 ft RL s (gi h0 7 (gi h0 A 2)) h2 → gro (cK h0) (gi h0 4) P s h h2 → gi h2 137 2 = gi h 137 2 → gi h2 137 5 = 0 → gi h2 P 5 = t0 → (∀ x, ¬ vst A P h0 h2 k v x) →
      (inv P h0 ft RL s (gi h0 7 (gi h0 A 2)) h2 ∧ gro (cK h0) (gi h0 4) P s h h2 ∧ (gi h 137 2 ≤ gi h2 137 2 ∧ gi h2 137 2 ≤ gi h 137 2 + abf (cR h0 A) (N - k).toNat k) ∧ ((gi h2 137 5 = 0 ∧ gi h2 P 5 = t0 ∧ ∀ x, vb A P h0 h2 (N - k).toNat k v x → cov (cK h0) (gi h0 4) (cW h2 P) (gi h0 A 2) (hdc (cK h0) (uR h0 A) x)) ∨ (gi h2 137 5 ≠ 0 ∧ gi h2 P 5 = 1))) := by
    intro k v h h2 k0 k1 i g e z1 z2 hno
    refine ⟨i, g, ?_, Or.inl ⟨z1, z2, fun x hx => ?_⟩⟩
    · have := habp (N - k).toNat k; exact ⟨by omega, by omega⟩
    · rw [hs' k k0 k1] at hx
      obtain ⟨y, y1, _⟩ := hx
      exact absurd y1 (hno y)
  have hqp : ∀ k v h h' h'', 0 ≤ k → k ≤ N → Jq P h' h'' → (∀ i, gi h'' 137 i = gi h' 137 i) → gi h' 137 9 = rd → (inv P h0 ft RL s (gi h0 7 (gi h0 A 2)) h' ∧ gro (cK h0) (gi h0 4) P s h h' ∧ (gi h 137 2 ≤ gi h' 137 2 ∧ gi h' 137 2 ≤ gi h 137 2 + abf (cR h0 A) (N - k).toNat k) ∧ ((gi h' 137 5 = 0 ∧ gi h' P 5 = t0 ∧ ∀ x, vb A P h0 h' (N - k).toNat k v x → cov (cK h0) (gi h0 4) (cW h' P) (gi h0 A 2) (hdc (cK h0) (uR h0 A) x)) ∨ (gi h' 137 5 ≠ 0 ∧ gi h' P 5 = 1))) →
      (inv P h0 ft RL s (gi h0 7 (gi h0 A 2)) h'' ∧ gro (cK h0) (gi h0 4) P s h h'' ∧ (gi h 137 2 ≤ gi h'' 137 2 ∧ gi h'' 137 2 ≤ gi h 137 2 + abf (cR h0 A) (N - k).toNat k) ∧ ((gi h'' 137 5 = 0 ∧ gi h'' P 5 = t0 ∧ ∀ x, vb A P h0 h'' (N - k).toNat k v x → cov (cK h0) (gi h0 4) (cW h'' P) (gi h0 A 2) (hdc (cK h0) (uR h0 A) x)) ∨ (gi h'' 137 5 ≠ 0 ∧ gi h'' P 5 = 1))) := by
    rintro k v h h' h'' k0 k1 q e e9 ⟨q1, q2, q3, q4⟩
    have i2 := inv_q hrw q q1
    refine ⟨i2, gro_trans q2 (gro_q hrw q), by rw [e]; exact q3, ?_⟩
    rw [e, eqj q]
    rcases q4 with ⟨z1, z2, z3⟩ | z
    · refine Or.inl ⟨z1, z2, fun x hx => ?_⟩
      exact smW_cov (Jq_W hrw q) hr6 (z3 x (vb_mono W q1 i2 (gro_q hrw q) ⟨e9, by rw [e]; exact e9, e 10⟩ _ k v x k0 (by omega) hx))
    · exact Or.inr z
  have key := step_rule (A := A) (P := P) (V := 143) (d0 := 3) (N := N) (rd := rd) (na := na) (h0 := h0)
    (Pre := fun k v h => inv P h0 ft RL s (gi h0 7 (gi h0 A 2)) h ∧ PS A P h0 oc ft RL N (gi h0 7 (gi h0 A 2)) k v ∧ EX (cR h0 A) k v ∧ gi h 137 5 = 0 ∧ gi h P 5 = t0 ∧ 0 ≤ gi h 137 2 ∧ gi h 137 2 + abf (cR h0 A) (N - k).toNat k ≤ 999999)
    (Mid := fun k v h g h2 => Jv A h0 k v ∧ inv P h0 ft RL s (gi h0 7 (gi h0 A 2)) h2 ∧ PS A P h0 oc ft RL N (gi h0 7 (gi h0 A 2)) k v ∧ EX (cR h0 A) k v ∧ gro (cK h0) (gi h0 4) P s h h2 ∧ gi h2 137 2 = gi h 137 2 ∧ (0 ≤ gi h 137 2 ∧ gi h 137 2 + abf (cR h0 A) (N - k).toNat k ≤ 999999) ∧ (k < N → gi h2 137 5 = 0 ∧ gi h2 P 5 = t0 ∧ (g = 0 → gi h0 A 7 ≤ k ∧ cov (cK h0) (gi h0 4) (cW h2 P) (gi h0 A 2) (hdc (cK h0) (uR h0 A) v))) ∧ (k = N → (gi h2 P 5 = t0 ∧ gi h2 137 5 = 0 ∧ cov (cK h0) (gi h0 4) (cW h2 P) (gi h0 A 2) (hdc (cK h0) (uR h0 A) v)) ∨ (gi h2 P 5 = 1 ∧ gi h2 137 5 ≠ 0)))
    (Post := fun k v h h' => inv P h0 ft RL s (gi h0 7 (gi h0 A 2)) h' ∧ gro (cK h0) (gi h0 4) P s h h' ∧ (gi h 137 2 ≤ gi h' 137 2 ∧ gi h' 137 2 ≤ gi h 137 2 + abf (cR h0 A) (N - k).toNat k) ∧ ((gi h' 137 5 = 0 ∧ gi h' P 5 = t0 ∧ ∀ w, vb A P h0 h' (N - k).toNat k v w → cov (cK h0) (gi h0 4) (cW h' P) (gi h0 A 2) (hdc (cK h0) (uR h0 A) w)) ∨ (gi h' 137 5 ≠ 0 ∧ gi h' P 5 = 1)))
    (LI := fun k v h h2 p hh => inv P h0 ft RL s (gi h0 7 (gi h0 A 2)) hh ∧ PS A P h0 oc ft RL N (gi h0 7 (gi h0 A 2)) k v ∧ EX (cR h0 A) k v ∧ gro (cK h0) (gi h0 4) P s h h2 ∧ gro (cK h0) (gi h0 4) P s h2 hh ∧ (0 ≤ gi h 137 2 ∧ gi h 137 2 + abf (cR h0 A) (N - k).toNat k ≤ 999999) ∧ gi h 137 2 ≤ gi hh 137 2 ∧ gi hh 137 2 ≤ gi h 137 2 + p * abf (cR h0 A) (N - (k + 1)).toNat (k + 1) ∧ ((gi hh 137 5 = 0 ∧ gi hh P 5 = t0 ∧ ∀ x, 0 ≤ x → x < p → vis hh P k (gi h0 (A + 3) k) x → ∀ w, bA (tm h0 A k) (rws hh P (gi h0 (A + 3) k) x) (gi h0 (A + 4) k).toNat 0 v = some w → ∀ w', vb A P h0 hh (N - (k + 1)).toNat (k + 1) w w' → cov (cK h0) (gi h0 4) (cW hh P) (gi h0 A 2) (hdc (cK h0) (uR h0 A) w')) ∨ (gi hh 137 5 ≠ 0 ∧ gi hh P 5 = 1)))
    w1 (by omega) ?hR ?hE ?hS ?hN1 ?hN2 ?hM ?hL0 ?hLt ?hLf ?hLe
  case hR =>
    rintro d k v h hd k0 kN J hva Jv ⟨p1, p2, p3, p4, p5, p6, p7⟩
    have q : Jq P h (dpt h k) := Jq_d
    have i1 := inv_q hrw q p1
    have J1 := Js_iv hru hrw J p1 i1
    have va1 : va (dpt h k) 138 = v := by rw [← hva]; funext x; unfold va dpt; rw [gi_sin (by omega)]
    have c1 : gi (dpt h k) 137 2 = gi h 137 2 := by unfold dpt; rw [gi_sij (by omega)]
    have c5 : gi (dpt h k) 137 5 = 0 := by unfold dpt; rw [gi_sij (by omega)]; exact p4
    have t5 : gi (dpt h k) P 5 = t0 := by rw [eqj q]; exact p5
    have hrch : rch d 143 k (dpt h k) = dF d 32 [dR 1 1 143, dI k] (dpt h k) := by
      unfold rch
      rw [if_neg (by omega), if_neg (by omega), if_pos rfl]
    obtain ⟨s1, s2, s3⟩ := s32 (ft := ft) hd W i1 va1 Jv kN
    rw [hrch]
    by_cases e : k < N
    · by_cases e2 : k < gi h0 A 7
      · rw [s1 e2]
        exact ⟨1, _, rfl, Or.inr rfl, J1, va1, c1, extg (gro_q hrw q), Jv, i1, p2, p3, gro_q hrw q, c1, ⟨p6, p7⟩, fun _ => ⟨c5, t5, fun z => by omega⟩, fun z => by omega⟩
      · obtain ⟨g, g01, g1, g2⟩ := s2 (by omega) e
        clear s1 s2 s3
        rw [g1]
        exact ⟨g, _, rfl, g01, J1, va1, c1, extg (gro_q hrw q), Jv, i1, p2, p3, gro_q hrw q, c1, ⟨p6, p7⟩, fun _ => ⟨c5, t5, fun z => ⟨by omega, g2 z⟩⟩, fun z => by omega⟩
    · have ekN : k = N := by omega
      obtain ⟨b, h1, t, e1⟩ := s3 ekN
      clear s1 s2 s3
      rw [e1]
      have hc : ∀ Dm ω', cnd P h0 ft RL Dm ω' (gi h0 7 (gi h0 A 2)) → Dm (gi h0 A 2) → cov (cK h0) (gi h0 4) ω' (gi h0 A 2) (hdc (cK h0) (uR h0 A) v) := by
        intro Dm ω' cn hD
        obtain ⟨v', y1, y2, y3⟩ := p2 Dm ω' cn hD
        have hm : v' ∈ bnds (uR h0 A) ω' := y1 v' (by rw [show (N - k).toNat = 0 by omega]; exact List.mem_singleton.mpr rfl)
        have ek : k = (uR h0 A).2.2.2.2 := by rw [ekN]; exact w8
        have Jv' : Jg (cR h0 A) k v := Jv
        rw [ek] at y2 y3 Jv'
        have hcv := hd_cvr (u := uR h0 A) D w3 w4 Jv' y2 y3
        obtain ⟨x, x1, x2⟩ := cn.2.2.2.2 _ w5 hD rfl _ (Or.inl ⟨w4, v', hm, rfl⟩)
        exact ⟨x, x1, cvr_trans x2 hcv⟩
      have hX : ∀ a i, (a = 138 ∨ a = 137) → gi (if b = 0 then h1 else si h1 143 8 1) a i = gi (dpt h k) a i := by
        intro a i ha
        have e0 : gi h1 a i = gi (dpt h k) a i := t.2.1.1 a i (by omega) (by omega)
        split
        · exact e0
        · rw [gi_sin (by omega)]; exact e0
      have hX5 : gi (if b = 0 then h1 else si h1 143 8 1) P 5 = gi h1 P 5 := by
        split
        · rfl
        · rw [gi_sin (by omega)]
      have hXW : smW (cW h1 P) (cW (if b = 0 then h1 else si h1 143 8 1) P) := by
        intro r r0 r1
        split
        · exact ⟨rfl, fun _ => rfl⟩
        · exact ⟨by show rsz (si h1 143 8 1) P r = rsz h1 P r; unfold rsz; rw [gi_sin (by omega)], fun x => by show rws (si h1 143 8 1) P r x = rws h1 P r x; unfold rws; rw [gi_sin (by omega)]⟩
      obtain ⟨n1, n2, n3⟩ := inv_put hrw hr6 rfl i1 t hc
      generalize (if b = 0 then h1 else si h1 143 8 1) = X at *
      have G1 := gro_trans (gro_q hrw q) n2
      by_cases z : gi h1 P 5 = 0
      · rw [if_pos z]
        refine ⟨0, X, rfl, Or.inl rfl, Js_iv hru hrw J1 i1 n1, ?_, by rw [hX 137 2 (Or.inr rfl)]; exact c1, extg G1, Jv, n1, p2, p3, G1, by rw [hX 137 2 (Or.inr rfl)]; exact c1, ⟨p6, p7⟩, fun z => absurd z e, fun _ => Or.inl ⟨by rw [hX5, z, ← t5]; exact (n3 z).1.symm, by rw [hX 137 5 (Or.inr rfl)]; exact c5, smW_cov hXW hr6 (n3 z).2⟩⟩
        rw [← va1]; funext x; unfold va; rw [hX 138 x (Or.inl rfl)]
      · rw [if_neg z]
        have qX : Jq P X (si X 137 5 1) := Jq_j (Or.inr (Or.inr rfl))
        have nX := inv_q hrw qX n1
        have G2 := gro_trans G1 (gro_q hrw qX)
        have hz1 : gi h1 P 5 = 1 := by
          rcases n1.2.2.2.2.2.2.1 with y | y
          · rw [hX5] at y; exact absurd y z
          · rw [hX5] at y; exact y.1
        have cc : gi (si X 137 5 1) 137 2 = gi h 137 2 := by rw [gi_sij (by decide), hX 137 2 (Or.inr rfl)]; exact c1
        refine ⟨0, _, rfl, Or.inl rfl, Js_iv hru hrw J1 i1 nX, ?_, cc, extg G2, Jv, nX, p2, p3, G2, cc, ⟨p6, p7⟩, fun z => absurd z e, fun _ => Or.inr ⟨by rw [eqj qX, hX5]; exact hz1, by rw [gi_sis]; decide⟩⟩
        rw [← va1]; funext x; unfold va; rw [gi_sin (by decide), hX 138 x (Or.inl rfl)]
  case hE =>
    rintro v h g h2 J2 va2 Jv ⟨-, m1, m2, m3, m4, m5, m6, m7, m8⟩
    have q : Jq P h2 (fin h2) := Jq_tr (Jq_j (Or.inl rfl)) (Jq_j (Or.inr (Or.inr rfl)))
    have f2 : gi (fin h2) 137 2 = gi h2 137 2 + 1 := by unfold fin; rw [gi_sij (by omega), gi_sis]
    have f5 : gi (fin h2) 137 5 = if gi h2 137 5 = 0 ∧ gi h2 137 2 + 1 < gi h2 137 4 then 0 else 1 := by unfold fin; rw [gi_sis]
    have e4 : gi h2 137 4 = 1000000 := by rw [m1.1.1 137 4 (by omega) (by omega) (by omega) (by omega) (by omega) (by omega)]; exact w12
    have hz : (N - N).toNat = 0 := by omega
    have ha : abf (cR h0 A) (N - N).toNat N = 1 := by rw [hz]; rfl
    refine ⟨inv_q hrw q m1, gro_trans m4 (gro_q hrw q), ⟨by omega, by omega⟩, ?_⟩
    rcases m8 rfl with ⟨z1, z2, z3⟩ | ⟨z1, z2⟩
    · refine Or.inl ⟨by rw [f5, if_pos ⟨z2, by omega⟩], by rw [eqj q]; exact z1, fun w hw => ?_⟩
      rw [hz] at hw
      rw [show w = v from hw]
      exact smW_cov (Jq_W hrw q) hr6 z3
    · exact Or.inr ⟨by rw [f5, if_neg (fun y => z2 y.1)]; omega, by rw [eqj q]; exact z1⟩
  case hS =>
    rintro k v h g h2 k0 kN J2 va2 ⟨Jv, m1, m2, m3, m4, m5, m6, m7, m8⟩ hz
    obtain ⟨z1, z2, z3⟩ := m7 kN
    clear m7 m8
    have g0 : g = 0 := by rcases hz with y | y; exact y; exact absurd z1 y
    obtain ⟨z4, z5⟩ := z3 g0
    clear z3
    have := habp (N - k).toNat k
    refine ⟨m1, m4, ⟨by omega, by omega⟩, Or.inl ⟨z1, z2, fun w hw => ?_⟩⟩
    rw [hdc_known W z4 Jv (vb_lev W _ k v w k0 (by omega) Jv.1 hw)]
    exact z5
  case hN1 =>
    rintro k v h h2 k0 kN s1 J2 va2 Jv ⟨-, m1, m2, m3, m4, m5, m6, m7, m8⟩ -
    obtain ⟨z1, z2, -⟩ := m7 kN
    clear m7 m8
    refine ⟨fun hf => ?_, fun hf => ?_⟩
    · refine hhalt k v h h2 k0 kN m1 m4 m5 z1 z2 (fun x hx => ?_)
      rcases hx with ⟨y, _⟩ | ⟨_, ⟨y, _⟩ | ⟨_, y, _⟩ | ⟨y, _⟩ | ⟨_, y, _⟩⟩
      · omega
      · have y : gi h0 (A + 2) k = 0 := y; omega
      · obtain ⟨p, p0, p1, p2⟩ := hf
        exact y ⟨_, ⟨p, p0, p1, rfl⟩, p2⟩
      · have y : gi h0 (A + 2) k = 2 := y; omega
      · exact absurd s1 y
    · have hst : stp (cR h0 A) (cW h2 P) k v v := Or.inr (Or.inl ⟨s1, fun ⟨c, ⟨p, p0, p1, p2⟩, q⟩ => hf ⟨p, p0, p1, by rw [← p2] at q; exact q⟩, rfl⟩)
      obtain ⟨a1, a2⟩ := PS_step W k0 kN m1 m2 m3 Jv hst
      have hb := habs k k0 kN
      rw [if_neg (by omega)] at hb
      refine ⟨⟨m1, a1, a2, z1, z2, by omega, by omega⟩, fun h' J' va' q => hpass k v v h h2 h' k0 kN (by omega) m4 m5 (fun hx x hI hs => ?_) q⟩
      rcases hs with ⟨y, _⟩ | ⟨_, _, y⟩ | ⟨_, _, y⟩ | ⟨_, y, _⟩
      · have y : gi h0 (A + 2) k = 0 := y; omega
      · exact y
      · exact y
      · exact absurd s1 y
  case hN2 =>
    rintro k v h h2 k0 kN s1 J2 va2 Jv ⟨-, m1, m2, m3, m4, m5, m6, m7, m8⟩ -
    obtain ⟨z1, z2, -⟩ := m7 kN
    clear m7 m8
    refine ⟨fun hf => ?_, fun hf => ?_⟩
    · refine hhalt k v h h2 k0 kN m1 m4 m5 z1 z2 (fun x hx => ?_)
      rcases hx with ⟨y, _⟩ | ⟨_, ⟨y, _⟩ | ⟨y, _, _⟩ | ⟨_, y, _⟩ | ⟨_, _, y, _⟩⟩
      · omega
      · have y : gi h0 (A + 2) k = 0 := y; omega
      · have y : gi h0 (A + 2) k = 1 := y; omega
      · have y : cmpb (gi h0 (A + 3) k) (tv v (tm h0 A k 0)) (tv v (tm h0 A k 1)) = true := y
        rw [hf] at y; cases y
      · exact absurd s1 y
    · have hst : stp (cR h0 A) (cW h2 P) k v v := Or.inr (Or.inr (Or.inl ⟨s1, hf, rfl⟩))
      obtain ⟨a1, a2⟩ := PS_step W k0 kN m1 m2 m3 Jv hst
      have hb := habs k k0 kN
      rw [if_neg (by omega)] at hb
      refine ⟨⟨m1, a1, a2, z1, z2, by omega, by omega⟩, fun h' J' va' q => hpass k v v h h2 h' k0 kN (by omega) m4 m5 (fun hx x hI hs => ?_) q⟩
      rcases hs with ⟨y, _⟩ | ⟨_, _, y⟩ | ⟨_, _, y⟩ | ⟨_, _, y, _⟩
      · have y : gi h0 (A + 2) k = 0 := y; omega
      · exact y
      · exact y
      · exact absurd s1 y
  case hM =>
    rintro k v h h2 k0 kN s1 J2 va2 Jv ⟨-, m1, m2, m3, m4, m5, m6, m7, m8⟩ -
    obtain ⟨z1, z2, -⟩ := m7 kN
    clear m7 m8
    have n0 : (cR h0 A).1 k ≠ 0 ∧ (cR h0 A).1 k ≠ 1 ∧ (cR h0 A).1 k ≠ 2 := by
      show gi h0 (A + 2) k ≠ 0 ∧ gi h0 (A + 2) k ≠ 1 ∧ gi h0 (A + 2) k ≠ 2
      omega
    have hb := habs k k0 kN
    rw [if_neg (by omega)] at hb
    have hone : ∀ {ω x y}, stp (cR h0 A) ω k v x → (v (slot (tm h0 A k 2)) = -1 ∧ y = upd1 v (slot (tm h0 A k 2)) (rck (gi h0 (A + 3) k) (tv v (tm h0 A k 0)) (tv v (tm h0 A k 1))) ∨ v (slot (tm h0 A k 2)) ≠ -1 ∧ y = v) → x = y := by
      intro ω x y e hy
      rcases e with ⟨q, _⟩ | ⟨q, _⟩ | ⟨q, _⟩ | ⟨_, _, _, ⟨q1, q2⟩ | ⟨q1, _, q2⟩⟩
      · exact absurd q n0.1
      · exact absurd q n0.2.1
      · exact absurd q n0.2.2
      · rcases hy with ⟨_, w⟩ | ⟨w, _⟩
        · rw [w]; exact q2
        · exact absurd q1 w
      · rcases hy with ⟨w, _⟩ | ⟨_, w⟩
        · exact absurd w q1
        · rw [w]; exact q2
    refine ⟨fun c1 => ?_, fun c1 c2 => ?_, fun c1 c2 => ?_⟩
    · have hst : stp (cR h0 A) (cW h2 P) k v (upd1 v (slot (tm h0 A k 2)) (rck (gi h0 (A + 3) k) (tv v (tm h0 A k 0)) (tv v (tm h0 A k 1)))) := Or.inr (Or.inr (Or.inr ⟨n0.1, n0.2.1, n0.2.2, Or.inl ⟨c1, rfl⟩⟩))
      obtain ⟨a1, a2⟩ := PS_step W k0 kN m1 m2 m3 Jv hst
      have hy := fun {ω x} (e : stp (cR h0 A) ω k v x) => hone e (Or.inl ⟨c1, rfl⟩)
      generalize upd1 v (slot (tm h0 A k 2)) (rck (gi h0 (A + 3) k) (tv v (tm h0 A k 0)) (tv v (tm h0 A k 1))) = w at *
      have q : Jq P h2 (sv h2 138 w) := Jq_v
      have e2 : gi (sv h2 138 w) 137 2 = gi h2 137 2 := gi_svn (by decide)
      refine ⟨⟨inv_q hrw q m1, a1, a2, by rw [gi_svn (by decide)]; exact z1, by rw [eqj q]; exact z2, by omega, by omega⟩, fun h' J' qq => ?_⟩
      exact hqp k v h h' _ k0 (by omega) Jq_v (fun i => gi_svn (by decide)) J'.2.2.2.2.2.2.2.2.2.1 (hpass k v w h (sv h2 138 w) h' k0 kN (by omega) (gro_trans m4 (gro_q hrw q)) (by omega) (fun hx x hI hs => hy hs) qq)
    · have hst : stp (cR h0 A) (cW h2 P) k v v := Or.inr (Or.inr (Or.inr ⟨n0.1, n0.2.1, n0.2.2, Or.inr ⟨c1, c2, rfl⟩⟩))
      obtain ⟨a1, a2⟩ := PS_step W k0 kN m1 m2 m3 Jv hst
      exact ⟨⟨m1, a1, a2, z1, z2, by omega, by omega⟩, fun h' J' va' q => hpass k v v h h2 h' k0 kN (by omega) m4 m5 (fun hx x hI hs => hone hs (Or.inr ⟨c1, rfl⟩)) q⟩
    · refine hhalt k v h h2 k0 kN m1 m4 m5 z1 z2 (fun x hx => ?_)
      rcases hx with ⟨y, _⟩ | ⟨_, ⟨y, _⟩ | ⟨y, _⟩ | ⟨y, _⟩ | ⟨_, _, _, ⟨q1, _⟩ | ⟨_, q2, _⟩⟩⟩
      · omega
      · exact absurd y n0.1
      · exact absurd y n0.2.1
      · exact absurd y n0.2.2
      · exact absurd q1 c1
      · exact absurd q2 c2
  case hL0 =>
    rintro k v h h2 k0 kN s1 J2 va2 Jv ⟨-, m1, m2, m3, m4, m5, m6, m7, m8⟩ -
    obtain ⟨z1, z2, -⟩ := m7 kN
    clear m7 m8
    exact ⟨m1, m2, m3, m4, gro_refl P s h2, m6, by omega, by rw [Int.zero_mul]; omega, Or.inl ⟨z1, z2, fun x x0 x1 => by omega⟩⟩
  case hLt =>
    rintro k v h h2 p hh w k0 kN s0 Jh vah Jv p0 pE ⟨l1, l2, l3, l4, l5, l6, l7, l8, l9⟩ hst' hvis hba hrep
    have z := DW_sub W k0 kN (Or.inl s0)
    obtain ⟨b1, b2, b3⟩ := l9.resolve_right (fun y => y.1 hst')
    have hsz := (l5 _ z.1.1 z.1.2).1
    have h32 := (l1.2.1 _ z.1.1 z.1.2).1.2
    have h32 : rsz hh P (gi h0 (A + 3) k) ≤ 32 := h32
    have hst : stp (cR h0 A) (cW hh P) k v w := Or.inl ⟨s0, _, ⟨p, p0, show p < rsz hh P (gi h0 (A + 3) k) by omega, rfl⟩, hba⟩
    obtain ⟨a1, a2⟩ := PS_step W k0 kN l1 l2 l3 Jv hst
    have q : Jq P hh (si (sv hh 138 w) 139 k p) := Jq_tr Jq_v Jq_p
    have e2 : ∀ i, gi (si (sv hh 138 w) 139 k p) 137 i = gi hh 137 i := fun i => by rw [gi_sin (by decide), gi_svn (by decide)]
    have hb := habs k k0 kN
    rw [if_pos s0] at hb
    have hmul : (p + 1) * abf (cR h0 A) (N - (k + 1)).toNat (k + 1) = p * abf (cR h0 A) (N - (k + 1)).toNat (k + 1) + abf (cR h0 A) (N - (k + 1)).toNat (k + 1) := by rw [Int.add_mul, Int.one_mul]
    have hap := habp (N - (k + 1)).toNat (k + 1)
    have hmle : (p + 1) * abf (cR h0 A) (N - (k + 1)).toNat (k + 1) ≤ 32 * abf (cR h0 A) (N - (k + 1)).toNat (k + 1) := Int.mul_le_mul_of_nonneg_right (by omega) (by omega)
    have e22 := e2 2
    have hrs : rd < s := w10.2.2.2
    have j9 := Jh.2.2.2.2.2.2.2.2.2.1
    have j10 := Jh.2.2.2.2.2.2.2.2.2.2.1
    generalize abf (cR h0 A) (N - (k + 1)).toNat (k + 1) = ab1 at *
    refine ⟨⟨inv_q hrw q l1, a1, a2, by rw [e2]; exact hst', by rw [eqj q]; exact b2, by omega, by omega⟩, fun h' J' ⟨q1, q2, q3, q4⟩ => ?_⟩
    have qY : Jq P h' (sv h' 138 v) := Jq_v
    have iY := inv_q hrw qY q1
    have gX := gro_trans (gro_q (cl := cK h0) (kd := gi h0 4) (s := s) hrw q) q2
    have gY := gro_trans gX (gro_q hrw qY)
    have eY : ∀ i, gi (sv h' 138 v) 137 i = gi h' 137 i := fun i => gi_svn (by decide)
    have eY2 := eY 2
    have k9 : gi hh 137 9 = rd ∧ gi (sv h' 138 v) 137 9 = rd ∧ gi (sv h' 138 v) 137 10 = gi hh 137 10 := ⟨j9, by rw [eY]; exact J'.2.2.2.2.2.2.2.2.2.1, by rw [eY, j10]; exact J'.2.2.2.2.2.2.2.2.2.2.1⟩
    have k9' : gi h' 137 9 = rd ∧ gi (sv h' 138 v) 137 9 = rd ∧ gi (sv h' 138 v) 137 10 = gi h' 137 10 := ⟨J'.2.2.2.2.2.2.2.2.2.1, k9.2.1, eY 10⟩
    refine ⟨iY, l2, l3, l4, gro_trans l5 gY, l6, by omega, by omega, ?_⟩
    rcases q4 with ⟨c1, c2, c3⟩ | ⟨c1, c2⟩
    · refine Or.inl ⟨by rw [eY]; exact c1, by rw [eqj qY]; exact c2, fun x x0 x1 hv w1 hw1 w' hw' => ?_⟩
      have hsY := (gY _ z.1.1 z.1.2).1
      obtain ⟨d1, d2, d3⟩ := vis_mono hrs z.1 gY k9 x0 (by omega) hv
      by_cases ex : x = p
      · rw [ex] at d3 hw1
        rw [d3, hba] at hw1
        cases hw1
        have := c3 w' (vb_mono W q1 iY (gro_q hrw qY) k9' _ (k + 1) w w' (by omega) (by omega) hw')
        exact smW_cov (Jq_W hrw qY) hr6 this
      · rw [d3] at hw1
        exact gro_cov gY hr6 (b3 x x0 (by omega) d2 w1 hw1 w' (vb_mono W l1 iY gY k9 _ (k + 1) w1 w' (by omega) (by omega) hw'))
    · exact Or.inr ⟨by rw [eY]; exact c1, by rw [eqj qY]; exact c2⟩
  case hLf =>
    rintro k v h h2 p hh z' k0 kN s0 Jh vah Jv p0 pE ⟨l1, l2, l3, l4, l5, l6, l7, l8, l9⟩ hst' hno
    have z := DW_sub W k0 kN (Or.inl s0)
    obtain ⟨b1, b2, b3⟩ := l9.resolve_right (fun y => y.1 hst')
    have hsz := (l5 _ z.1.1 z.1.2).1
    have qY : Jq P hh (si hh 139 k z') := Jq_p
    have iY := inv_q hrw qY l1
    have gY := gro_q (cl := cK h0) (kd := gi h0 4) (s := s) hrw qY
    have eY : ∀ i, gi (si hh 139 k z') 137 i = gi hh 137 i := fun i => gi_sin (by decide)
    have eY2 := eY 2
    have hmul : (p + 1) * abf (cR h0 A) (N - (k + 1)).toNat (k + 1) = p * abf (cR h0 A) (N - (k + 1)).toNat (k + 1) + abf (cR h0 A) (N - (k + 1)).toNat (k + 1) := by rw [Int.add_mul, Int.one_mul]
    have hap := habp (N - (k + 1)).toNat (k + 1)
    have hrs : rd < s := w10.2.2.2
    have j9 := Jh.2.2.2.2.2.2.2.2.2.1
    have k9 : gi hh 137 9 = rd ∧ gi (si hh 139 k z') 137 9 = rd ∧ gi (si hh 139 k z') 137 10 = gi hh 137 10 := ⟨j9, by rw [eY]; exact j9, eY 10⟩
    refine ⟨iY, l2, l3, l4, gro_trans l5 gY, l6, by omega, by omega, Or.inl ⟨by rw [eY]; exact b1, by rw [eqj qY]; exact b2, fun x x0 x1 hv w1 hw1 w' hw' => ?_⟩⟩
    have hsY := (gY _ z.1.1 z.1.2).1
    obtain ⟨d1, d2, d3⟩ := vis_mono hrs z.1 gY k9 x0 (by omega) hv
    rw [d3] at hw1
    have hvb := vb_mono W l1 iY gY k9 _ (k + 1) w1 w' (by omega) (by omega) hw'
    by_cases ex : x = p
    · subst ex
      by_cases hr : rep hh A P k (gi h0 (A + 3) k) (gi h0 (A + 4) k) x
      · obtain ⟨_, e, e0, e1, e2, e3⟩ := hr
        rw [Js_tm Jh k] at e3
        rw [← bA_alike (c := rws hh P (gi h0 (A + 3) k) e) (fun j j0 j1 => e3 j j0 (by omega))] at hw1
        exact gro_cov gY hr6 (b3 e e0 e1 e2 w1 hw1 w' hvb)
      · exact absurd ⟨d2, ⟨w1, hw1⟩, hr⟩ hno
    · exact gro_cov gY hr6 (b3 x x0 (by omega) d2 w1 hw1 w' hvb)
  case hLe =>
    rintro k v h h2 p hh k0 kN s0 Jh vah ⟨l1, l2, l3, l4, l5, l6, l7, l8, l9⟩ p0 p1 hend
    have z := DW_sub W k0 kN (Or.inl s0)
    have hsz := (l5 _ z.1.1 z.1.2).1
    have h32 : rsz hh P (gi h0 (A + 3) k) ≤ 32 := (l1.2.1 _ z.1.1 z.1.2).1.2
    have hb := habs k k0 kN
    rw [if_pos s0] at hb
    have hap := habp (N - (k + 1)).toNat (k + 1)
    have hmle : p * abf (cR h0 A) (N - (k + 1)).toNat (k + 1) ≤ 32 * abf (cR h0 A) (N - (k + 1)).toNat (k + 1) := Int.mul_le_mul_of_nonneg_right (by omega) (by omega)
    refine ⟨l1, gro_trans l4 l5, ⟨by omega, by omega⟩, ?_⟩
    rcases l9 with ⟨b1, b2, b3⟩ | b
    · refine Or.inl ⟨b1, b2, fun w' hw' => ?_⟩
      rw [hs' k k0 kN] at hw'
      obtain ⟨y, y1, y2⟩ := hw'
      rcases y1 with ⟨_, x, x0, x1, x2, x3⟩ | ⟨y1, _⟩
      · have hp : p = rsz h2 P (gi h0 (A + 3) k) := by
          rcases hend with q | q
          · exact q
          · exact absurd b1 q
        have hxp : x < p := by
          rw [hp]
          rcases Int.lt_or_le x (rsz h2 P (gi h0 (A + 3) k)) with q | q
          · exact q
          · have q1 := (l5 _ z.1.1 z.1.2).2.2.1 x x0 q x1
            have q2 := x2.2
            have hrs : rd < s := w10.2.2.2
            have j9 := Jh.2.2.2.2.2.2.2.2.2.1
            unfold wHi at q2
            rw [j9] at q2
            split at q2 <;> omega
        exact b3 x x0 hxp x2 y x3 w' y2
      · exact absurd s0 y1
    · exact Or.inr b
  obtain ⟨h', r1, r2, r3, r4, r5, r6, r7⟩ := key N.toNat d 0 v h (by omega) (by omega) (by omega) J hva hv ⟨hI, hP0, hE0, h5, hT, by omega, by rw [show (N - 0).toNat = N.toNat by omega]; omega⟩ (by omega) (by
    have : bb ((N.toNat : Nat) : Int) ≤ 1048576 := by
      unfold bb
      have h1 : 32 ^ ((N.toNat : Nat) : Int).toNat ≤ 32 ^ 4 := Nat.pow_le_pow_right (by omega) (by omega)
      omega
    omega)
  rw [show (N - 0).toNat = N.toNat by omega] at r7
  refine ⟨h', r1, r7.1, r7.2.1, fun q => ?_⟩
  rcases r7.2.2.2 with ⟨_, y0, y⟩ | ⟨_, y⟩
  · exact ⟨by rw [← y0]; exact q, y⟩
  · omega
end DS4
