/-! THE CALL rule: the reference, and both -/
theorem wit_0 {a b c : Int} : wit 0 0 107 a b c ↔ a = 0 ∧ b = 0 ∧ c = 0 := by
  constructor
  · rintro ⟨x, y, z⟩; omega
  · rintro ⟨x, y, z⟩; refine ⟨?_, ?_, ?_⟩ <;> omega
section OR2
variable {h : dm_H}
theorem s219 {d : Nat} (hd : 4 ≤ d) (hn : 0 ≤ gi h 165 1 ∧ gi h 165 1 ≤ 6) (hc : ∀ r, 0 ≤ r → r < gi h 165 1 → 1 ≤ gi h 166 r) (k r a b c : Int) :
    (¬ ((k ≠ 3 ∧ 0 ≤ r ∧ r < gi h 165 1) ∨ (¬ (0 ≤ k ∧ k ≤ 2) ∧ r = -1)) ∧ dF d 219 [dR 1 11 165, dI k, dI r, dI a, dI b, dI c] h = rV (si h 165 0 1)) ∨
    (((k ≠ 3 ∧ 0 ≤ r ∧ r < gi h 165 1) ∨ (¬ (0 ≤ k ∧ k ≤ 2) ∧ r = -1)) ∧ ¬ ((0 ≤ k ∧ k ≤ 3) ∧ wit (if k ≠ 3 ∧ 0 ≤ r ∧ r < gi h 165 1 then gi h 166 r else 0) 0 107 a b c) ∧ dF d 219 [dR 1 11 165, dI k, dI r, dI a, dI b, dI c] h = rV (si h 165 0 2)) ∨
    (((k ≠ 3 ∧ 0 ≤ r ∧ r < gi h 165 1) ∨ (¬ (0 ≤ k ∧ k ≤ 2) ∧ r = -1)) ∧ ((0 ≤ k ∧ k ≤ 3) ∧ wit (if k ≠ 3 ∧ 0 ≤ r ∧ r < gi h 165 1 then gi h 166 r else 0) 0 107 a b c) ∧ dF d 219 [dR 1 11 165, dI k, dI r, dI a, dI b, dI c] h = rV (si (si (si (si (si (si (si (si h 165 0 0) 165 16 1) 172 380 k) 172 381 r) 172 382 a) 172 383 b) 172 384 c) 172 385 0)) := by
  have e0 : ∀ x, gi (si h 165 0 x) 165 0 = x := fun x => by rw [gi_si, if_pos ⟨rfl, rfl⟩]
  obtain ⟨nn, e1, nn1⟩ : ∃ x : Int, (x = 0 ∨ x = 1) ∧ (x = 1 ↔ r = -1 ∧ ¬ (0 ≤ k ∧ k ≤ 2)) := ⟨bi (r = -1 ∧ ¬ (0 ≤ k ∧ k ≤ 2)), bi_01 _, bi_e1⟩
  obtain ⟨th, e2, th1⟩ : ∃ x : Int, (x = 0 ∨ x = 1) ∧ (x = 1 ↔ k ≠ 3 ∧ 0 ≤ r ∧ r < gi h 165 1) := ⟨bi (k ≠ 3 ∧ 0 ≤ r ∧ r < gi h 165 1), bi_01 _, bi_e1⟩
  have s0 : dL (d - 1) 219 0 [lR 1 11 165, lI k, lI r, lI a, lI b, lI c, none, none, none] [] h = dL (d - 1) 219 19 [lR 1 11 165, lI k, lI r, lI a, lI b, lI c, none, none, none] [dI nn] h := by
    rw [b219_0]
    by_cases z : r = -1
    · rw [if_pos z, s168 (by omega), bk_v, b219_11]
      by_cases y : 0 ≤ k ∧ k ≤ 2
      · rw [bi_1 y, if_neg (by decide), b219_18, show nn = 0 by omega]
      · rw [bi_0 y, if_pos rfl, show nn = 1 by omega]
    · rw [if_neg z, b219_18, show nn = 0 by omega]
  have s1 : dL (d - 1) 219 19 [lR 1 11 165, lI k, lI r, lI a, lI b, lI c, none, none, none] [dI nn] h = dL (d - 1) 219 39 [lR 1 11 165, lI k, lI r, lI a, lI b, lI c, lI nn, none, none] [dI th] h := by
    rw [b219_19, s170 (by omega) r h hn, bk_v, b219_26]
    by_cases z : 0 ≤ r ∧ r < gi h 165 1
    · rw [bi_1 z, if_neg (by decide)]
      by_cases y : k = 3
      · rw [if_pos y, b219_38, show th = 0 by omega]
      · rw [if_neg y, show th = 1 by omega]
    · rw [bi_0 z, if_pos rfl, b219_38, show th = 0 by omega]
  obtain ⟨gd, e3, gd1⟩ : ∃ x : Int, (x = 0 ∨ x = 1) ∧ (x = 1 ↔ (nn = 1 ∧ a = 0 ∧ b = 0 ∧ c = 0) ∨ (nn = 0 ∧ th = 1 ∧ wit (gi h 166 r) 0 107 a b c)) := ⟨bi ((nn = 1 ∧ a = 0 ∧ b = 0 ∧ c = 0) ∨ (nn = 0 ∧ th = 1 ∧ wit (gi h 166 r) 0 107 a b c)), bi_01 _, bi_e1⟩
  have s2 : dL (d - 1) 219 39 [lR 1 11 165, lI k, lI r, lI a, lI b, lI c, lI nn, none, none] [dI th] h = dL (d - 1) 219 92 [lR 1 11 165, lI k, lI r, lI a, lI b, lI c, lI nn, lI th, none] [dI gd] h := by
    rw [b219_39]
    by_cases z : nn = 0
    · rw [if_pos z]
      by_cases y : th = 0
      · rw [if_pos y, b219_91, show gd = 0 from e3.resolve_right (fun v => (gd1.mp v).elim (fun q => by have := q.1; clear gd1 nn1 th1; omega) (fun q => by have := q.2.1; clear gd1 nn1 th1; omega))]
      · have t1 : th = 1 := e2.resolve_left y
        have hr : 0 ≤ r ∧ r < gi h 165 1 := (th1.mp t1).2
        rw [if_neg y, s220_0 (by omega) r a b c h ⟨hr.1, by clear gd1; omega⟩ (hc r hr.1 hr.2), bk_v, b219_84]
        by_cases w : wit (gi h 166 r) 0 107 a b c
        · rw [bi_1 w, if_neg (by decide), show gd = 1 from gd1.mpr (Or.inr ⟨z, t1, w⟩)]
        · rw [bi_0 w, if_pos rfl, b219_91, show gd = 0 from e3.resolve_right (fun v => (gd1.mp v).elim (fun q => by have := q.1; clear gd1 nn1 th1; omega) (fun q => w q.2.2))]
    · have no : ¬ (a = 0 ∧ b = 0 ∧ c = 0) → gd = 0 := fun w => e3.resolve_right (fun v => (gd1.mp v).elim (fun q => w q.2) (fun q => z q.1))
      rw [if_neg z]
      by_cases ya : a = 0
      · rw [if_pos ya]
        by_cases yb : b = 0
        · rw [if_pos yb]
          by_cases yc : c = 0
          · rw [if_pos yc, show gd = 1 from gd1.mpr (Or.inl ⟨e1.resolve_left z, ya, yb, yc⟩)]
          · rw [if_neg yc, b219_64, no (fun w => yc w.2.2)]
        · rw [if_neg yb, b219_64, no (fun w => yb w.2.1)]
      · rw [if_neg ya, b219_64, no (fun w => ya w.1)]
  rw [f219 (by omega), s0, s1, s2, b219_92]
  by_cases zz : (k ≠ 3 ∧ 0 ≤ r ∧ r < gi h 165 1) ∨ (¬ (0 ≤ k ∧ k ≤ 2) ∧ r = -1)
  case neg =>
    have t1 : th = 0 := e2.resolve_right (fun w => zz (Or.inl (th1.mp w)))
    have t0 : nn = 0 := e1.resolve_right (fun w => zz (Or.inr ⟨(nn1.mp w).2, (nn1.mp w).1⟩))
    rw [if_pos t0, if_pos t1, b219_128, e0, if_pos (by decide)]
    exact Or.inl ⟨zz, rfl⟩
  right
  have hmid : (if nn = 0 then if th = 0 then dL (d - 1) 219 128 [lR 1 11 165, lI k, lI r, lI a, lI b, lI c, lI nn, lI th, lI gd] [dI 1, dR 1 11 165] h else dL (d - 1) 219 109 [lR 1 11 165, lI k, lI r, lI a, lI b, lI c, lI nn, lI th, lI gd] [dR 1 11 165] h else dL (d - 1) 219 109 [lR 1 11 165, lI k, lI r, lI a, lI b, lI c, lI nn, lI th, lI gd] [dR 1 11 165] h) = dL (d - 1) 219 109 [lR 1 11 165, lI k, lI r, lI a, lI b, lI c, lI nn, lI th, lI gd] [dR 1 11 165] h := by
    by_cases y : nn = 0
    · rw [if_pos y, if_neg (fun q => zz.elim (fun w => by have := th1.mpr w; clear gd1 nn1 th1; omega) (fun w => by have := nn1.mpr ⟨w.2, w.1⟩; clear gd1 nn1 th1; omega))]
    · rw [if_neg y]
  obtain ⟨n, en⟩ : ∃ n, n = (if k ≠ 3 ∧ 0 ≤ r ∧ r < gi h 165 1 then gi h 166 r else 0) := ⟨_, rfl⟩
  have hgd : gd = 1 ↔ wit n 0 107 a b c := by
    rw [gd1, en]
    by_cases y : k ≠ 3 ∧ 0 ≤ r ∧ r < gi h 165 1
    · rw [if_pos y]
      have t1 : th = 1 := th1.mpr y
      have t0 : nn = 0 := e1.resolve_right (fun w => by have := (nn1.mp w).1; clear gd1 nn1 th1; omega)
      exact ⟨fun w => w.elim (fun q => by omega) (fun q => q.2.2), fun w => Or.inr ⟨t0, t1, w⟩⟩
    · rw [if_neg y]
      have t1 : th = 0 := e2.resolve_right (fun w => y (th1.mp w))
      have t0 : nn = 1 := nn1.mpr (zz.elim (fun q => absurd q y) (fun q => ⟨q.2, q.1⟩))
      rw [wit_0]
      exact ⟨fun w => w.elim (fun q => q.2) (fun q => by have := q.1; clear gd1 nn1 th1; omega), fun w => Or.inl ⟨t0, w⟩⟩
  rw [← en, hmid, b219_109, s168 (by omega), bk_v, b219_115]
  by_cases y : 0 ≤ k ∧ k ≤ 3
  case neg =>
    rw [bi_0 y, if_pos rfl, b219_127, b219_128, e0, if_pos (by decide)]
    exact Or.inl ⟨zz, fun w => y w.1, rfl⟩
  rw [bi_1 y, if_neg (by decide)]
  by_cases w : gd = 0
  · rw [if_pos w, b219_127, b219_128, e0, if_pos (by decide)]
    exact Or.inl ⟨zz, fun v => by have := hgd.mpr v.2; rw [w] at this; exact absurd this (by decide), rfl⟩
  · rw [if_neg w, b219_128, e0, if_neg (by decide), s222 (by omega) _ _ (by omega), bk_n, b219_150, s222 (by omega) _ _ (by omega), bk_n, b219_156, s222 (by omega) _ _ (by omega), bk_n, b219_162, s222 (by omega) _ _ (by omega), bk_n, b219_169, s222 (by omega) _ _ (by omega), bk_n, b219_176, s222 (by omega) _ _ (by omega), bk_n, b219_182]
    exact Or.inr ⟨zz, ⟨y, hgd.mp (e3.resolve_left w)⟩, rfl⟩
theorem op_rule {d : Nat} (hd : 6 ≤ d) (R : IRel h) (I : IDr h) (k r a b c : Int) : ∃ x h1 h2, dF d 91 [dR 1 10 1, dI k, dI r, dI a, dI b, dI c] h = rI x h1 ∧ dF d 219 [dR 1 11 165, dI k, dI r, dI a, dI b, dI c] h1 = rV h2 ∧ gi h2 165 0 = x ∧ frDr h h2 ∧ IDr h2 ∧ rm h h2 := by
  obtain ⟨R1, R2, R3, R4⟩ := R
  obtain ⟨I1, I2, I3, I4⟩ := I
  have hA : 15 ≤ gr h 1 10 ∧ gr h 1 10 + 7 < 137 := by unfold ru at I3; omega
  have h6 := R1.1
  have hcc : ∀ r, 0 ≤ r → r < gi h 2 0 → 1 ≤ gi h 166 r := fun r r0 r1 => by rw [(R3 r).1]; exact (cK_c R1 r0 r1).2.1
  have wr := s91 (h := h) (d := d) (by omega) k r a b c _ rfl
  -- nothing but what was thrown
  have thr : ∀ (x : Int), IDr (si (sg h 6) 165 0 x) ∧ frDr h (si (sg h 6) 165 0 x) ∧ rm h (si (sg h 6) 165 0 x) := by
    intro x
    have g : ∀ a i, ¬ (a = 165 ∧ i = 0) → gi (si (sg h 6) 165 0 x) a i = gi h a i := fun a i hi => by rw [gi_si, if_neg hi]; rfl
    refine ⟨⟨by rw [g _ _ (by omega), g _ _ (by omega)]; exact I1, by rw [g _ _ (by omega)]; exact I2, I3, fun q => ?_⟩, ⟨fun a i _ _ _ h4 => g a i (fun w => h4 ⟨w.1, Or.inl w.2⟩), fun _ _ => rfl⟩, ⟨rfl, Nat.le_refl _, Nat.le_refl _, ct_e (g _ _ (by omega)) (g _ _ (by omega))⟩⟩
    rw [g _ _ (by omega)] at q
    obtain ⟨D, S, X⟩ := I4 q
    have eg : gr (si (sg h 6) 165 0 x) 1 10 = gr h 1 10 := rfl
    rw [eg, g _ _ (by omega)]
    exact ⟨DSH_cg (fun a i p1 p2 _ => g a i (by omega)) (g _ _ (by omega)) (fun i => g _ _ (by omega)) D, SR_cg (fun a i p1 p2 _ => g a i (by omega)) (fun i _ _ => g _ _ (by omega)) (fun i => g _ _ (by omega)) S D.2.1.2, RX_cg (fun i _ _ => g _ _ (by omega)) D.2.1.2 X⟩
  have hsg := s219 (h := sg h 6) (d := d) (by omega) (by show 0 ≤ gi h 165 1 ∧ gi h 165 1 ≤ 6; omega) (by show ∀ r, 0 ≤ r → r < gi h 165 1 → 1 ≤ gi h 166 r; rw [R2]; exact hcc) k r a b c
  have e1 : gi (sg h 6) 165 1 = gi h 2 0 := R2
  have e2 : gi (sg h 6) 166 r = gi h 3 r := (R3 r).1
  rw [e1, e2] at hsg
  rcases s92 (h := h) (d := d - 1) (by omega) R1 k r a b c with ⟨c1, c2⟩ | ⟨c1, c2, c3⟩ | ⟨c1, c2, h', c3, c4⟩
  · rcases hsg with ⟨q1, q2⟩ | ⟨q1, q2⟩ | ⟨q1, q2⟩
    · exact ⟨1, _, _, wr.2.1 _ c2, q2, by rw [gi_si, if_pos ⟨rfl, rfl⟩], (thr 1).2.1, (thr 1).1, (thr 1).2.2⟩
    · exact absurd q1 c1
    · exact absurd q1 c1
  · rcases hsg with ⟨q1, q2⟩ | ⟨q1, q2, q3⟩ | ⟨q1, q2, q3⟩
    · exact absurd c1 q1
    · exact ⟨2, _, _, wr.2.2 _ c3, q3, by rw [gi_si, if_pos ⟨rfl, rfl⟩], (thr 2).2.1, (thr 2).1, (thr 2).2.2⟩
    · exact absurd q2 c2
  · obtain ⟨f, z0, z1, z2, z3, z4, z5, z6, y0, y1, y2⟩ := c4
    have g1 : ∀ a i, ¬ (a = 1 ∧ i = 11) → gi (si h' 1 11 1) a i = gi h' a i := fun a i hi => by rw [gi_si, if_neg hi]
    have f2 : ∀ a i, ¬ (gr h 1 10 ≤ a ∧ a ≤ gr h 1 10 + 7) → ¬ (a = 1 ∧ i = 11) → gi (si h' 1 11 1) a i = gi h a i := fun a i p q => by rw [g1 a i q, f.1 a i p]
    have hs := s219 (h := si h' 1 11 1) (d := d) (by omega) (by rw [f2 _ _ (by omega) (by omega), R2]; exact h6) (fun r r0 r1 => by
      rw [f2 _ _ (by omega) (by omega), R2] at r1
      rw [f2 _ _ (by omega) (by omega)]
      exact hcc r r0 r1) k r a b c
    rw [f2 165 1 (by omega) (by omega), R2, f2 166 r (by omega) (by omega), (R3 r).1] at hs
    rcases hs with ⟨q1, q2⟩ | ⟨q1, q2, q3⟩ | ⟨q1, q2, q3⟩
    · exact absurd c1 q1
    · exact absurd c2 q2
    refine ⟨0, _, _, wr.1 _ c3, q3, ?_, ?_, ?_, ?_⟩
    · rw [gi_sin (by omega), gi_sin (by omega), gi_sin (by omega), gi_sin (by omega), gi_sin (by omega), gi_sin (by omega), gi_si, if_neg (by omega), gi_si, if_pos ⟨rfl, rfl⟩]
    all_goals
      obtain ⟨H, eH⟩ : ∃ H, H = si (si (si (si (si (si (si (si (si h' 1 11 1) 165 0 0) 165 16 1) 172 380 k) 172 381 r) 172 382 a) 172 383 b) 172 384 c) 172 385 0 := ⟨_, rfl⟩
      rw [← eH]
      have eo : ∀ a i, a ≠ 172 → ¬ (a = 165 ∧ (i = 0 ∨ i = 16)) → ¬ (a = 1 ∧ i = 11) → gi H a i = gi h' a i := by
        intro a i p1 p2 p3
        rw [eH, gi_sin p1, gi_sin p1, gi_sin p1, gi_sin p1, gi_sin p1, gi_sin p1, gi_si, if_neg (by omega), gi_si, if_neg (by omega), g1 a i p3]
      have e7 : ∀ i, gi H 172 i = if i = 385 then 0 else if i = 384 then c else if i = 383 then b else if i = 382 then a else if i = 381 then r else if i = 380 then k else gi h 172 i := by
        intro i
        rw [eH, gi_si, gi_si, gi_si, gi_si, gi_si, gi_si, gi_sin (by omega), gi_sin (by omega), gi_sin (by omega), f.1 _ _ (by omega)]
        simp
      have er : ∀ a i, gr H a i = gr h a i := fun a i => by rw [eH]; exact f.2.1 a i
    · refine ⟨fun x i p1 p2 p3 p4 => ?_, er⟩
      by_cases z : x = 172
      · rw [z, e7, if_neg (by omega), if_neg (by omega), if_neg (by omega), if_neg (by omega), if_neg (by omega), if_neg (by omega)]
      · rw [eo x i z p4 p3]
        by_cases w : gr h 1 10 ≤ x ∧ x ≤ gr h 1 10 + 7
        · have : x = gr h 1 10 ∧ i = 0 := by
            by_cases v : x = gr h 1 10 ∧ i = 0
            · exact v
            · exact absurd ⟨w.1, w.2, v⟩ p1
          rw [this.1, this.2, z0]
        · exact f.1 x i w
    · have e16 : gi H 165 16 = 1 := by
        rw [eH, gi_sin (by omega), gi_sin (by omega), gi_sin (by omega), gi_sin (by omega), gi_sin (by omega), gi_sin (by omega), gi_si, if_pos ⟨rfl, rfl⟩]
      have e11 : gi H 1 11 = 1 := by
        rw [eH, gi_sin (by omega), gi_sin (by omega), gi_sin (by omega), gi_sin (by omega), gi_sin (by omega), gi_sin (by omega), gi_sin (by omega), gi_sin (by omega), gi_si, if_pos ⟨rfl, rfl⟩]
      have eA : ∀ q i, q ≤ 7 → gi H (gr h 1 10 + q) i = gi h' (gr h 1 10 + q) i := fun q i hq => eo _ _ (by omega) (by omega) (by omega)
      have eA0 : ∀ i, gi H (gr h 1 10) i = gi h' (gr h 1 10) i := fun i => eA 0 i (by omega)
      have hw := c2.2
      refine ⟨by rw [e16, e11], by rw [e11]; exact Or.inr rfl, by rw [er]; exact I3, fun _ => ?_⟩
      rw [er, eA0, z4]
      obtain ⟨n, en⟩ : ∃ n, n = (if k ≠ 3 ∧ 0 ≤ r ∧ r < gi h 2 0 then gi h 3 r else 0) := ⟨_, rfl⟩
      rw [← en] at hw z3
      have h20 : gi H 2 0 = gi h 2 0 := by rw [eo _ _ (by omega) (by omega) (by omega), f.1 _ _ (by omega)]
      have h3 : ∀ i, gi H 3 i = gi h 3 i := fun i => by rw [eo _ _ (by omega) (by omega) (by omega), f.1 _ _ (by omega)]
      have hn : 0 ≤ n ∧ n ≤ 3 := by
        rw [en]
        split
        · rename_i q
          have := cK_c R1 q.2.1 q.2.2
          omega
        · omega
      have hd3 : ∀ i, 0 ≤ i → i < 3 → gi h' (gr h 1 10 + 1) i = if i = 0 then a else if i = 1 then b else c := by
        intro i i0 i1
        rcases (show i = 0 ∨ i = 1 ∨ i = 2 by omega) with rfl | rfl | rfl
        · rw [y0]; rfl
        · rw [y1]; rfl
        · rw [y2]; rfl
      refine ⟨⟨by rw [eA0, z1]; exact c2.1, by rw [eA0, z4]; omega, fun q => ?_, fun q => ?_, fun i i0 i1 => ?_, fun i i0 i1 => ?_, fun k k0 k1 => ?_, fun k k0 k1 => ?_, ⟨?_, ?_⟩, ?_, fun k k0 k1 => ?_⟩, ⟨by omega, ?_, ?_, fun i i0 i1 => ?_, ?_, fun k k0 k1 => ?_, fun k k0 k1 => ?_⟩, fun k k0 k1 => by omega⟩
      · rw [eA0, z1] at q
        rw [eA0, eA0, z2, z3, en, if_neg (by omega)]
        exact ⟨by omega, rfl⟩
      · rw [eA0, z1] at q
        have q2 : k ≠ 3 ∧ 0 ≤ r ∧ r < gi h 2 0 := by omega
        rw [eA0, eA0, z2, z3, h20, h3, en, if_pos q2]
        exact ⟨q2.2, rfl⟩
      · rw [eA0, z3] at i1
        rw [eA 1 _ (by omega), hd3 i i0 (by omega)]
        rcases (show i = 0 ∨ i = 1 ∨ i = 2 by omega) with rfl | rfl | rfl
        · show 0 ≤ a ∧ a ≤ 107; omega
        · show 0 ≤ b ∧ b ≤ 107; omega
        · show 0 ≤ c ∧ c ≤ 107; omega
      · rw [eA0, z3] at i0
        rw [eA 1 _ (by omega), hd3 i (by omega) (by omega)]
        rcases (show i = 0 ∨ i = 1 ∨ i = 2 by omega) with rfl | rfl | rfl
        · show a = 0; omega
        · show b = 0; omega
        · show c = 0; omega
      · rw [eA0, z4] at k1; omega
      · rw [eA0, z4] at k1; omega
      · rw [eA0, eA0, z5, z4]; rfl
      · rw [eA0, z5]; omega
      · rw [eA0, eA0, z6, z4]; omega
      · rw [eA0, z4] at k1; omega
      · rw [eA0, z1, e7]; simp
      · rw [eA0, z2, e7]; simp
      · rw [eA 1 _ (by omega), hd3 i i0 i1, e7]
        rcases (show i = 0 ∨ i = 1 ∨ i = 2 by omega) with rfl | rfl | rfl <;> simp
      · rw [eA0, z4, e7]; simp
      · rw [eA0, z4] at k1; omega
      · rw [eA0, z4] at k1; omega
    · have : H.2.2 = h.2.2 := by rw [eH]; exact f.2.2
      refine ⟨?_, ?_, ?_, ct_e (by rw [eo _ _ (by omega) (by omega) (by omega), f.1 _ _ (by omega)]) (by rw [eo _ _ (by omega) (by omega) (by omega), f.1 _ _ (by omega)])⟩
      · unfold gz; rw [this]
      · unfold gc; rw [this]; omega
      · unfold gs; rw [this]; omega
end OR2
