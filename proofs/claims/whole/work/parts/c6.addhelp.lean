/-! THE CALL add: helpers -/
section ADH
variable {h H : dm_H}
/-- a rule of the reference is copied -/
theorem SR_cp {A : Nat} {p q : Int} (hq : 0 ≤ q ∧ q ≤ 10) (e : ∀ a i, A ≤ a → a ≤ A + 5 → ¬ (a = A ∧ (i = 0 ∨ i = 7)) → gi H a i = gi h a i) (e2 : ∀ k, 0 ≤ k → k < 38 → gi H 172 (38 * q + k) = gi h 172 (38 * p + k)) (e3 : ∀ i, gi H 166 i = gi h 166 i) (S : SR h A p) (hN : gi h A 4 ≤ 4) : SR H A q := by
  obtain ⟨s1, s2, s3, s4, s5, s6, s7⟩ := S
  have ea : ∀ i, i ≠ 7 → i ≠ 0 → gi H A i = gi h A i := fun i hi h0 => e A i (by omega) (by omega) (by omega)
  have el : ∀ k w, 0 ≤ k → k < gi h A 4 → 0 ≤ w → w < 8 → lq H q k w = lq h p k w := fun k w k0 k1 w0 w1 => by
    have := e2 (6 + 8 * k + w) (by omega) (by omega)
    unfold lq
    rw [show 38 * q + 6 + 8 * k + w = 38 * q + (6 + 8 * k + w) by omega, this, show 38 * p + 6 + 8 * k + w = 38 * p + (6 + 8 * k + w) by omega]
  have e0 := e2 0 (by omega) (by omega)
  rw [Int.add_zero, Int.add_zero] at e0
  refine ⟨hq, by rw [e0, ea 1 (by omega) (by omega)]; exact s2, by rw [e2 _ (by omega) (by omega), ea 2 (by omega) (by omega)]; exact s3, fun i i0 i1 => by rw [e2 _ (by omega) (by omega), e (A + 1) i (by omega) (by omega) (by omega)]; exact s4 i i0 i1, by rw [e2 _ (by omega) (by omega), ea 4 (by omega) (by omega)]; exact s5, ?_, fun k k0 k1 => by rw [ea 4 (by omega) (by omega)] at k1; rw [el k 0 k0 k1 (by omega) (by omega)]; exact s7 k k0 k1⟩
  rw [ea 4 (by omega) (by omega)]
  intro k k0 k1
  obtain ⟨q1, q2, q3, q4⟩ := s6 k k0 k1
  have w0 := el k 0 k0 k1 (by omega) (by omega)
  have w1 := el k 1 k0 k1 (by omega) (by omega)
  have w2 := el k 2 k0 k1 (by omega) (by omega)
  refine ⟨?_, ?_, ?_, fun i i0 i1 => ?_⟩
  · show rsrt H q k = gi H (A + 2) k
    rw [e _ k (by omega) (by omega) (by omega)]
    unfold rsrt
    rw [w0, w2]; exact q1
  · show rsbj H q k = gi H (A + 3) k
    rw [e _ k (by omega) (by omega) (by omega)]
    unfold rsbj
    rw [w0, w1, w2]; exact q2
  · show rwid H q k = gi H (A + 4) k
    rw [e _ k (by omega) (by omega) (by omega)]
    unfold rwid
    rw [w0, w1, e3]; exact q3
  · have := q4 i i0 i1
    show (if lq H q k 0 = 2 ∧ i = 2 then lq H q k 1 else lq H q k (3 + i)) = gi H (A + 5) (k * 3 + i)
    rw [w0, w1, el k (3 + i) k0 k1 (by omega) (by omega), e (A + 5) _ (by omega) (by omega) (by omega)]
    exact this
theorem RX_cp {p q N : Int} (e2 : ∀ k, 0 ≤ k → k < 38 → gi H 172 (38 * q + k) = gi h 172 (38 * p + k)) (hN : N ≤ 4) (X : RX h p N) : RX H q N := by
  intro k k0 k1
  have el : ∀ w, 0 ≤ w → w < 8 → lq H q k w = lq h p k w := fun w w0 w1 => by
    have := e2 (6 + 8 * k + w) (by omega) (by omega)
    unfold lq
    rw [show 38 * q + 6 + 8 * k + w = 38 * q + (6 + 8 * k + w) by omega, this, show 38 * p + 6 + 8 * k + w = 38 * p + (6 + 8 * k + w) by omega]
  rw [el 0 (by omega) (by omega), el 2 (by omega) (by omega), el 5 (by omega) (by omega)]
  exact X k k0 k1
theorem LSH_sim {cl : Int → Int} {n N : Int} {ρ ρ' : mR} (e : simR ρ ρ' N) {k : Int} (k0 : 0 ≤ k) (k1 : k < N) (L : LSH cl n ρ k) : LSH cl n ρ' k := by
  obtain ⟨e1, e2, e3, e4⟩ := e k k0 k1
  have a0 := e4 0 (by omega) (by omega)
  have a1 := e4 1 (by omega) (by omega)
  have a2 := e4 2 (by omega) (by omega)
  unfold LSH
  rw [e1, e2, e3]
  rcases L with ⟨b1, b2, b3, b4, b5, b6⟩ | ⟨b1, b2, b3, b4, b5⟩ | ⟨b1, b2, b3, b4, b5⟩
  · exact Or.inl ⟨b1, b2, b3, b4, fun i i0 i1 => by rw [e4 i i0 i1]; exact b5 i i0 i1, fun i i0 i1 => by rw [e4 i (by omega) i1]; exact b6 i i0 i1⟩
  · exact Or.inr (Or.inl ⟨b1, b2, b3, fun i i0 i1 => by rw [e4 i i0 (by omega)]; exact b4 i i0 i1, by rw [a2]; exact b5⟩)
  · exact Or.inr (Or.inr ⟨b1, b2, b3, fun i i0 i1 => by rw [e4 i i0 (by omega)]; exact b4 i i0 i1, by rw [a2]; exact b5⟩)
theorem vrs_sim {N : Int} {ρ ρ' : mR} (e : simR ρ ρ' N) {k s : Int} (k0 : 0 ≤ k) (k1 : k < N) (w : ρ.2.2.1 k ≤ 3) : vrs ρ' k s ↔ vrs ρ k s := by
  obtain ⟨e1, e2, e3, e4⟩ := e k k0 k1
  unfold vrs
  rw [e3]
  constructor
  · rintro ⟨i, i0, i1, i2⟩
    exact ⟨i, i0, i1, by rw [← e4 i i0 (by omega)]; exact i2⟩
  · rintro ⟨i, i0, i1, i2⟩
    exact ⟨i, i0, i1, by rw [e4 i i0 (by omega)]; exact i2⟩
theorem SAFE_sim {N kind cols : Int} {ρ ρ' : mR} {hd hd' : Int → Int} (e : simR ρ ρ' N) (hN : 0 ≤ N) (hw : ∀ k, 0 ≤ k → k < N → 0 ≤ ρ.2.2.1 k ∧ ρ.2.2.1 k ≤ 3) (hc : cols ≤ 3) (h1 : kind = 1 → 1 ≤ cols) (eh : ∀ i, 0 ≤ i → i < 3 → hd' i = hd i) : SAFE ρ' N kind cols hd' ↔ SAFE ρ N kind cols hd := by
  have kn : ∀ {k s : Int}, k ≤ N → (kng ρ' k s ↔ kng ρ k s) := fun k1 => kng_sim e (fun k k0 k1 _ => hw k k0 k1) k1
  unfold SAFE SAFL
  refine and_congr ⟨fun z q => ?_, fun z q => ?_⟩ (and_congr ⟨fun z k k0 k1 => ?_, fun z k k0 k1 => ?_⟩ ⟨fun z i i0 i1 => ?_, fun z i i0 i1 => ?_⟩)
  · rw [← eh _ (by have := h1 q; omega) (by omega)]; exact z q
  · rw [eh _ (by have := h1 q; omega) (by omega)]; exact z q
  · obtain ⟨e1, e2, e3, e4⟩ := e k k0 k1
    intro q
    obtain ⟨a, b⟩ := z k k0 k1 (by rw [e1]; exact q)
    refine ⟨fun s s1 v => (kn (by omega)).mp (a s s1 ((vrs_sim e k0 k1 (hw k k0 k1).2).mpr v)), fun q3 => ?_⟩
    have b := b (by rw [e1]; exact q3)
    rw [e4 2 (by omega) (by omega)] at b
    exact fun y => b ((kn (by omega)).mpr y)
  · obtain ⟨e1, e2, e3, e4⟩ := e k k0 k1
    intro q
    rw [e1] at q
    obtain ⟨a, b⟩ := z k k0 k1 q
    refine ⟨fun s s1 v => (kn (by omega)).mpr (a s s1 ((vrs_sim e k0 k1 (hw k k0 k1).2).mp v)), fun q3 => ?_⟩
    rw [e1] at q3
    rw [e4 2 (by omega) (by omega)]
    exact fun y => b q3 ((kn (by omega)).mp y)
  · rw [← eh i i0 (by omega)]
    exact fun q => (kn (Int.le_refl _)).mp (z i i0 i1 q)
  · rw [eh i i0 (by omega)]
    exact fun q => (kn (Int.le_refl _)).mpr (z i i0 i1 q)
/-- isUnsafe, of the draft -/
theorem s231D {d : Nat} (hd : 4 ≤ d) {A : Nat} (IR : IRel h) (D : DSH A h) (S : SR h A 10) (X : RX h 10 (gi h A 4)) : ∃ b, dF d 231 [dR 1 11 165, dI 10] h = rI b h ∧ (b = 0 ∨ b = 1) ∧ (b = 0 ↔ SAFE (cR h A) (gi h A 4) (gi h A 1) (gi h A 3) (gi h (A + 1))) := by
  obtain ⟨d1, d2, d3, d4, d5, d6, d7, d8, d9, d10, d11⟩ := D
  obtain ⟨s1, s2, s3, s4, s5, s6, s7⟩ := S
  have n6 := IR.1.1
  have ec : hcl h 10 = gi h A 3 := by
    unfold hcl
    rw [s2, s3]
    by_cases z : gi h A 1 = 3
    · rw [if_pos z, (d3 z).2]
    · rw [if_neg z, (IR.2.2.1 _).1, (d4 z).2]
  have hc : 0 ≤ gi h A 3 ∧ gi h A 3 ≤ 3 := by
    by_cases z : gi h A 1 = 3
    · have := (d3 z).2; omega
    · have q := d4 z
      have := cK_c IR.1 q.1.1 q.1.2
      rw [q.2]; omega
  have h1 : gi h A 1 = 1 → 1 ≤ gi h A 3 := fun q => by
    have q := d4 (by omega)
    have := cK_c IR.1 q.1.1 q.1.2
    rw [q.2]; omega
  obtain ⟨b, y1, y2, y3⟩ := s231 (p := 10) (h := h) hd (N := gi h A 4) (by omega) d2 s5 (by rw [s2]; exact d1) (fun q => by
    rw [s2] at q
    rw [s3]
    have := (d4 q).1; omega) (by rw [ec]; exact hc) (by rw [s2, ec]; exact h1) (cl := cK h) (n := gi h 2 0) (fun k k0 k1 => LSH_sim s6 k0 k1 (d7 k k0 k1)) ⟨s1, s7⟩ (fun k k0 k1 q => (X k k0 k1).2 (by omega)) (fun i i0 i1 => by
    rw [s4 i i0 i1]
    by_cases z : i < gi h A 3
    · exact (d5 i i0 z).2
    · rw [d6 i (by omega) i1]; omega)
  refine ⟨b, y1, y2, y3.trans ?_⟩
  rw [s2, ec]
  exact SAFE_sim s6 d2.1 (fun k k0 k1 => by have := LSH_w (d7 k k0 k1); omega) hc.2 h1 s4
theorem s108c {d : Nat} (hd : 5 ≤ d) (K : RK h) (B : CBS h) : ∃ x h', dF d 108 [dR 1 9 13] h = rI x h' ∧ frK h h' ∧ ((x = -3 ∧ ∃ u, RLc h u ∧ LYL (ocL (RLc h)) u) ∨ (x = -4 ∧ (∀ u, RLc h u → ¬ LYL (ocL (RLc h)) u) ∧ ∃ u, RLc h u ∧ u.1 = 0 ∧ ¬ NSH (gi h 4) (ocL (RLc h)) u (cK h u.2.1)) ∨ (x = -1 ∧ GOOD (cK h) (gi h 4) (gi h 2 0) (RLc h) ∧ CH h' ∧ CL h')) := by
  have C := CBS_CB K B
  have g1 := CBS_G1 K B
  have hA : ∀ j, 0 ≤ j → j < gi h 13 1 → ru (gr h 14 j) := fun j j0 j1 => (C.2.2 j j0 j1).1
  have hn := B.1
  have h6 := K.1
  obtain ⟨h1, x1, x2, x3, x4, x5, x6, -⟩ := s109 (d := d - 1) (by omega) C
  have f1 : frK h h1 := ⟨fun a i p _ _ _ _ => x2 a i p, x3, x4⟩
  have oc1 : ocH h1 6 = ocL (RLc h) := ocH_L x6
  have e13 : ∀ {H : dm_H}, frK h H → gi H 13 1 = gi h 13 1 := fun f => f.1 _ _ (by omega) (by omega) (by omega) (by omega) (by omega)
  -- the shape of the rules wherever
  have shp : ∀ {H : dm_H}, frK h H → ∀ j, 0 ≤ j → j < gi h 13 1 → DSH (gr h 14 j) H ∧ uR H (gr h 14 j) = uR h (gr h 14 j) ∧ cR H (gr h 14 j) = cR h (gr h 14 j) := by
    intro H f j j0 j1
    have r := hA j j0 j1
    have u := uR_cg (A := gr h 14 j) (h := h) (h' := H) (fun a i p q _ => frK_A r f a i p (by omega))
    exact ⟨DSH_cg (fun a i p q _ => frK_A r f a i p q) (f.1 _ _ (by omega) (by omega) (by omega) (by omega) (by omega)) (fun i => f.1 _ _ (by omega) (by omega) (by omega) (by omega) (by omega)) (B.2 j j0 j1).2.1, u⟩
  -- layerless
  have ll : ∀ (m : Nat) (x : Int), 0 ≤ x → x + m = gi h 13 1 → (∀ j, 0 ≤ j → j < x → gi h (gr h 14 j) 1 ≠ 3 → ¬ LYL (ocL (RLc h)) (uR h (gr h 14 j))) →
      (dL (d - 1) 108 6 [lR 1 9 13, lI x] [] h1 = rI (-3) h1 ∧ ∃ u, RLc h u ∧ LYL (ocL (RLc h)) u) ∨ (dL (d - 1) 108 6 [lR 1 9 13, lI x] [] h1 = dL (d - 1) 108 38 [lR 1 9 13, lI 0] [] h1 ∧ ∀ u, RLc h u → ¬ LYL (ocL (RLc h)) u) := by
    intro m
    induction m with
    | zero =>
      intro x x0 xm no
      right
      rw [b108_6, e13 f1, if_neg (by omega)]
      refine ⟨rfl, ?_⟩
      rintro u ⟨j, j0, j1, j2, rfl⟩
      exact no j j0 (by omega) j2
    | succ m ih =>
      intro x x0 xm no
      have r := hA x x0 (by omega)
      obtain ⟨D, ue, ce⟩ := shp f1 x x0 (by omega)
      have eA : ∀ i, gi h1 (gr h 14 x) i = gi h (gr h 14 x) i := fun i => frK_A r f1 _ i (by omega) (by omega)
      have h20 : gi h1 2 0 = gi h 2 0 := x2 _ _ (by omega)
      obtain ⟨b, y1, y2, y3⟩ := s111 (h := h1) (A := gr h 14 x) (d := d - 1) (by omega) x5 D.2.1 (fun q => by have := (D.2.2.2.1 q).1; omega) (fun k k0 k1 q => by
        have L := D.2.2.2.2.2.2.1 k k0 k1
        have q : (cR h1 (gr h 14 x)).1 k = 0 ∨ (cR h1 (gr h 14 x)).1 k = 1 := q
        show 0 ≤ (cR h1 (gr h 14 x)).2.1 k ∧ (cR h1 (gr h 14 x)).2.1 k < 6
        rcases L with w | w | w
        · have := w.2.1; omega
        · omega
        · omega)
      rw [oc1, ue, eA] at y3
      rw [b108_6, e13 f1, if_pos (by omega), ix_p x0 (by omega), x3, y1, bk_v, b108_24]
      rcases y2 with rfl | rfl
      · rw [if_pos rfl, ck_p (by omega) (by omega)]
        refine ih (x + 1) (by omega) (by omega) (fun j j0 j1 j2 => ?_)
        by_cases z : j = x
        · rw [z] at j2 ⊢
          exact fun w => by have := y3.mpr ⟨j2, w⟩; omega
        · exact no j j0 (by omega) j2
      · rw [if_neg (by decide)]
        have w := y3.mp rfl
        exact Or.inl ⟨rfl, _, ⟨x, x0, by omega, w.1, rfl⟩, w.2⟩
  -- shrinking
  have sh : (∀ u, RLc h u → ¬ LYL (ocL (RLc h)) u) → ∀ (m : Nat) (x : Int) (H : dm_H), 0 ≤ x → x + m = gi h 13 1 → frK h1 H → (∀ i, gi H 6 i = gi h1 6 i) → (∀ j, 0 ≤ j → j < x → gi h (gr h 14 j) 1 = 0 → NSH (gi h 4) (ocL (RLc h)) (uR h (gr h 14 j)) (cK h (gi h (gr h 14 j) 2))) →
      ∃ y h', dL (d - 1) 108 38 [lR 1 9 13, lI x] [] H = rI y h' ∧ frK h h' ∧ ((y = -4 ∧ ∃ u, RLc h u ∧ u.1 = 0 ∧ ¬ NSH (gi h 4) (ocL (RLc h)) u (cK h u.2.1)) ∨ (y = -1 ∧ GOOD (cK h) (gi h 4) (gi h 2 0) (RLc h) ∧ CH h' ∧ CL h')) := by
    intro nl m
    induction m with
    | zero =>
      intro x H x0 xm fH e6 no
      have fh := frK_trans f1 fH
      rw [b108_38, e13 fh, if_neg (by omega)]
      have G : GOOD (cK h) (gi h 4) (gi h 2 0) (RLc h) := by
        intro u hu
        refine ⟨g1 u hu, nl u hu, ?_⟩
        obtain ⟨j, j0, j1, j2, rfl⟩ := hu
        exact fun q => no j j0 (by omega) q
      have rH : RLc H = RLc h := frK_RL hA fh
      have TH : LT (eg (RLc H)) (bh H 6) := by
        rw [rH]
        have : bh H 6 = bh h1 6 := by
          funext r q
          unfold bh
          rw [e6]
        rw [this]; exact x6
      have ocH' : ocH H 6 = ocL (RLc h) := by rw [ocH_L TH, rH]
      have e4 : gi H 4 = gi h 4 := funext (fun i => fh.1 _ _ (by omega) (by omega) (by omega) (by omega) (by omega))
      obtain ⟨f, p1, p2⟩ := lay_ex (kd := gi h 4) ⟨_, x6⟩ g1 nl
      have C1 : CB H := by
        refine ⟨by rw [e13 fh]; exact hn, by rw [fh.1 _ _ (by omega) (by omega) (by omega) (by omega) (by omega)]; exact h6, fun j j0 j1 => ?_⟩
        rw [e13 fh] at j1
        obtain ⟨D, ue, ce⟩ := shp fh j j0 j1
        rw [fh.2.1]
        refine ⟨hA j j0 j1, D.2.1, fun q => (D.2.2.2.1 q).1, fun k k0 k1 q => ?_⟩
        have L := D.2.2.2.2.2.2.1 k k0 k1
        have q : (cR H (gr h 14 j)).1 k = 0 ∨ (cR H (gr h 14 j)).1 k = 1 := q
        show 0 ≤ (cR H (gr h 14 j)).2.1 k ∧ (cR H (gr h 14 j)).2.1 k < gi H 2 0
        rcases L with w | w | w
        · exact w.2.1
        · omega
        · omega
      obtain ⟨h2, y1, y2, y3, y4, y5⟩ := s119 (d := d - 1) (h := H) (by omega) C1 (fun r r0 r1 => by rw [e6]; exact x5 r r0 r1) (f0 := f) (by rw [e4, ocH', rH]; exact p1) p2
      rw [y1, bk_n, b108_75]
      have fT : frK H h2 := ⟨fun a i p q r _ _ => y2.1 a i q r, y2.2.1, y2.2.2⟩
      have r2 : RLc h2 = RLc h := frK_RL hA (frK_trans fh fT)
      refine ⟨-1, h2, rfl, frK_trans fh fT, Or.inr ⟨rfl, G, ⟨fun r r0 r1 => ?_, ?_⟩, ?_, y4, y5⟩⟩
      · rw [y2.1 6 r (by omega) (by omega), e6]; exact x5 r r0 r1
      · rw [r2, ← rH]
        have : bh h2 6 = bh H 6 := by
          funext r q
          unfold bh
          rw [y2.1 6 r (by omega) (by omega)]
        rw [this]; exact TH
      · have e42 : gi h2 4 = gi H 4 := funext (fun i => y2.1 4 i (by omega) (by omega))
        rw [r2, e42]
        rw [ocH', rH] at y3
        exact y3
    | succ m ih =>
      intro x H x0 xm fH e6 no
      have fh := frK_trans f1 fH
      have r := hA x x0 (by omega)
      obtain ⟨D, ue, ce⟩ := shp fh x x0 (by omega)
      have eA : ∀ i, gi H (gr h 14 x) i = gi h (gr h 14 x) i := fun i => frK_A r fh _ i (by omega) (by omega)
      have h20 : gi H 2 0 = gi h 2 0 := fh.1 _ _ (by omega) (by omega) (by omega) (by omega) (by omega)
      have e3 : ∀ i, gi H 3 i = gi h 3 i := fun i => fh.1 _ _ (by omega) (by omega) (by omega) (by omega) (by omega)
      have e4 : gi H 4 = gi h 4 := funext (fun i => fh.1 _ _ (by omega) (by omega) (by omega) (by omega) (by omega))
      have hcc : 0 ≤ gi H (gr h 14 x) 3 ∧ gi H (gr h 14 x) 3 ≤ 3 := by
        by_cases z : gi H (gr h 14 x) 1 = 3
        · have := D.2.2.1 z; omega
        · obtain ⟨q1, q2⟩ := D.2.2.2.1 z
          rw [h20] at q1
          have := cK_c K q1.1 q1.2
          rw [q2, e3]; omega
      have oc2 : ocH H 6 = ocL (RLc h) := by
        rw [← oc1]
        funext r q
        unfold ocH bh
        rw [e6, e6]
      obtain ⟨b, h', y1, y2, y3, y4⟩ := s113 (h := H) (A := gr h 14 x) (d := d - 1) (by omega) r (fun r r0 r1 => by rw [e6]; exact x5 r r0 r1) (cl := cK H) (n := gi H 2 0) (by omega) D.2.1 (fun q => by have := (D.2.2.2.1 (by omega)).1; omega) hcc D.2.2.2.2.2.2.1
      rw [ue, oc2, e4, eA] at y4
      rw [b108_38, e13 fh, if_pos (by omega), ix_p x0 (by omega), fh.2.1, y1, bk_v, b108_59]
      have fC := frK_C r y3
      -- its columns
      have ecol : gi h (gr h 14 x) 1 = 0 → gi H (gr h 14 x) 3 = cK h (gi h (gr h 14 x) 2) := by
        intro q
        obtain ⟨q1, q2⟩ := D.2.2.2.1 (by rw [eA]; omega)
        rw [h20, eA] at q1
        rw [q2, eA, e3, (cK_c K q1.1 q1.2).1]
      rcases y2 with rfl | rfl
      · rw [if_pos rfl, ck_p (by omega) (by omega)]
        refine ih (x + 1) h' (by omega) (by omega) (frK_trans fH fC) (fun i => by rw [y3.1 6 i (by unfold ru at r; omega), e6]) (fun j j0 j1 j2 => ?_)
        by_cases z : j = x
        · rw [z] at j2 ⊢
          by_cases w : NSH (gi h 4) (ocL (RLc h)) (uR h (gr h 14 x)) (cK h (gi h (gr h 14 x) 2))
          · exact w
          · rw [ecol j2] at y4
            have := y4.mpr ⟨j2, w⟩
            omega
        · exact no j j0 (by omega) j2
      · rw [if_neg (by decide)]
        obtain ⟨w1, w2⟩ := y4.mp rfl
        rw [ecol w1] at w2
        exact ⟨-4, h', rfl, frK_trans fh fC, Or.inl ⟨rfl, _, ⟨x, x0, by omega, by omega, rfl⟩, w1, w2⟩⟩
  rw [f108 (by omega), b108_0, x1, bk_n, b108_4]
  rcases ll (gi h 13 1).toNat 0 (by omega) (by omega) (fun j j0 j1 => by omega) with ⟨z1, z2⟩ | ⟨z1, z2⟩
  · rw [z1]
    exact ⟨-3, h1, rfl, f1, Or.inl ⟨rfl, z2⟩⟩
  · rw [z1]
    obtain ⟨y, h', w1, w2, w3⟩ := sh z2 (gi h 13 1).toNat 0 h1 (by omega) (by omega) (frK_refl h1) (fun _ => rfl) (fun j j0 j1 => by omega)
    refine ⟨y, h', w1, w2, ?_⟩
    rcases w3 with ⟨v1, v2⟩ | v
    · exact Or.inr (Or.inl ⟨v1, z2, v2⟩)
    · exact Or.inr (Or.inr v)
end ADH
