/-! WHY THE CLASS REFUSES -/
section REF
variable {h : dm_H}
theorem uR_cg {A : Nat} {h h' : dm_H} (e : ∀ a i, A ≤ a → a ≤ A + 5 → ¬ (a = A ∧ (i = 0 ∨ i = 7)) → gi h' a i = gi h a i) : uR h' A = uR h A ∧ cR h' A = cR h A := by
  have c : cR h' A = cR h A := by
    unfold cR
    rw [show gi h' (A + 2) = gi h (A + 2) from funext (fun i => e _ i (by omega) (by omega) (by omega)), show gi h' (A + 3) = gi h (A + 3) from funext (fun i => e _ i (by omega) (by omega) (by omega)), show gi h' (A + 4) = gi h (A + 4) from funext (fun i => e _ i (by omega) (by omega) (by omega))]
    have : (fun k => tm h' A k) = fun k => tm h A k := by
      funext k i
      exact e (A + 5) _ (by omega) (by omega) (by omega)
    rw [this]
  refine ⟨?_, c⟩
  unfold uR
  rw [c, e A 1 (by omega) (by omega) (by omega), e A 2 (by omega) (by omega) (by omega), e A 4 (by omega) (by omega) (by omega), show gi h' (A + 1) = gi h (A + 1) from funext (fun i => e _ i (by omega) (by omega) (by omega))]
/-- the courses of rules, what hangs and layers may be other ones -/
def frK (h h' : dm_H) : Prop := (∀ a i, a ≠ 6 → a ≠ 7 → ¬ (a = 2 ∧ i = 6) → ¬ (15 ≤ a ∧ a ≤ 94 ∧ a % 8 = 6) → a ≠ 136 → gi h' a i = gi h a i) ∧ (∀ a i, gr h' a i = gr h a i) ∧ h'.2.2 = h.2.2
theorem frK_refl (h : dm_H) : frK h h := ⟨fun _ _ _ _ _ _ _ => rfl, fun _ _ => rfl, rfl⟩
theorem frK_trans {h h1 h2 : dm_H} (a : frK h h1) (b : frK h1 h2) : frK h h2 := ⟨fun c i p q r s t => by rw [b.1 c i p q r s t, a.1 c i p q r s t], fun c i => by rw [b.2.1, a.2.1], by rw [b.2.2, a.2.2]⟩
theorem frK_H {h h' : dm_H} (a : frCH h h') : frK h h' := ⟨fun c i p q r _ _ => a.1 c i p q r, a.2.1, a.2.2⟩
theorem frK_C {A : Nat} (hr : ru A) {h h' : dm_H} (a : frC7 A h h') : frK h h' := ⟨fun c i p q r s t => a.1 c i (by unfold ru at hr; omega), a.2.1, a.2.2⟩
/-- what frK keeps of a rule -/
theorem frK_A {A : Nat} (hr : ru A) {h h' : dm_H} (f : frK h h') : ∀ a i, A ≤ a → a ≤ A + 6 → gi h' a i = gi h a i := fun a i p q => f.1 a i (by unfold ru at hr; omega) (by unfold ru at hr; omega) (by unfold ru at hr; omega) (by unfold ru at hr; omega) (by unfold ru at hr; omega)
theorem frK_RL {h h' : dm_H} (hA : ∀ j, 0 ≤ j → j < gi h 13 1 → ru (gr h 14 j)) (f : frK h h') : RLc h' = RLc h := by
  have e13 : gi h' 13 1 = gi h 13 1 := f.1 _ _ (by omega) (by omega) (by omega) (by omega) (by omega)
  have key : ∀ j, 0 ≤ j → j < gi h 13 1 → gi h' (gr h 14 j) 1 = gi h (gr h 14 j) 1 ∧ uR h' (gr h 14 j) = uR h (gr h 14 j) := fun j j0 j1 =>
    ⟨frK_A (hA j j0 j1) f _ _ (by omega) (by omega), (uR_cg (fun a i p q _ => frK_A (hA j j0 j1) f a i p (by omega))).1⟩
  funext u
  refine propext ⟨fun ⟨j, j0, j1, j2, j3⟩ => ?_, fun ⟨j, j0, j1, j2, j3⟩ => ?_⟩
  · rw [e13] at j1
    rw [f.2.1] at j2 j3
    obtain ⟨k1, k2⟩ := key j j0 j1
    exact ⟨j, j0, j1, by rw [← k1]; exact j2, by rw [← k2]; exact j3⟩
  · obtain ⟨k1, k2⟩ := key j j0 j1
    exact ⟨j, j0, by rw [e13]; exact j1, by rw [f.2.1, k1]; exact j2, by rw [f.2.1, k2]; exact j3⟩
theorem s108 {d : Nat} {π : Int → Int} (hd : 5 ≤ d) (K : RK h) (B : BKS π h) : ∃ x h', dF d 108 [dR 1 9 13] h = rI x h' ∧ frK h h' ∧ ((x = -3 ∧ ∃ u, RLc h u ∧ LYL (ocL (RLc h)) u) ∨ (x = -4 ∧ (∀ u, RLc h u → ¬ LYL (ocL (RLc h)) u) ∧ ∃ u, RLc h u ∧ u.1 = 0 ∧ ¬ NSH (gi h 4) (ocL (RLc h)) u (cK h u.2.1)) ∨ (x = -1 ∧ GOOD (cK h) (gi h 4) (gi h 2 0) (RLc h) ∧ CH h' ∧ CL h')) := by
  have C := BKS_CB K B
  have g1 := BKS_G1 K B
  have hA : ∀ j, 0 ≤ j → j < gi h 13 1 → ru (gr h 14 j) := fun j j0 j1 => (C.2.2 j j0 j1).1
  have hn := B.1
  have h6 := K.1
  obtain ⟨h1, x1, x2, x3, x4, x5, x6, -⟩ := s109 (d := d - 1) (by omega) C
  have f1 : frK h h1 := ⟨fun a i p _ _ _ _ => x2 a i p, x3, x4⟩
  have oc1 : ocH h1 6 = ocL (RLc h) := ocH_L x6
  have e13 : ∀ {H : dm_H}, frK h H → gi H 13 1 = gi h 13 1 := fun f => f.1 _ _ (by omega) (by omega) (by omega) (by omega) (by omega)
  -- the shape of the rules wherever
  have shp : ∀ {H : dm_H}, frK h H → ∀ j, 0 ≤ j → j < gi h 13 1 → DSH (gr h 14 j) H ∧ uR H (gr h 14 j) = uR h (gr h 14 j) ∧ cR H (gr h 14 j) = cR h (gr h 14 j) := by
    intro H f j j0 j1
    have r := hA j j0 j1
    have u := uR_cg (A := gr h 14 j) (h := h) (h' := H) (fun a i p q _ => frK_A r f a i p (by omega))
    exact ⟨DSH_cg (fun a i p q _ => frK_A r f a i p q) (f.1 _ _ (by omega) (by omega) (by omega) (by omega) (by omega)) (fun i => f.1 _ _ (by omega) (by omega) (by omega) (by omega) (by omega)) (B.2.2.1 j j0 j1).2.1, u⟩
  -- layerless
  have ll : ∀ (m : Nat) (x : Int), 0 ≤ x → x + m = gi h 13 1 → (∀ j, 0 ≤ j → j < x → gi h (gr h 14 j) 1 ≠ 3 → ¬ LYL (ocL (RLc h)) (uR h (gr h 14 j))) →
      (dL (d - 1) 108 6 [lR 1 9 13, lI x] [] h1 = rI (-3) h1 ∧ ∃ u, RLc h u ∧ LYL (ocL (RLc h)) u) ∨ (dL (d - 1) 108 6 [lR 1 9 13, lI x] [] h1 = dL (d - 1) 108 38 [lR 1 9 13, lI 0] [] h1 ∧ ∀ u, RLc h u → ¬ LYL (ocL (RLc h)) u) := by
    intro m
    induction m with
    | zero =>
      intro x x0 xm no
      right
      rw [b108_6, e13 f1, if_neg (by omega)]
      refine ⟨rfl, ?_⟩
      rintro u ⟨j, j0, j1, j2, rfl⟩
      exact no j j0 (by omega) j2
    | succ m ih =>
      intro x x0 xm no
      have r := hA x x0 (by omega)
      obtain ⟨D, ue, ce⟩ := shp f1 x x0 (by omega)
      have eA : ∀ i, gi h1 (gr h 14 x) i = gi h (gr h 14 x) i := fun i => frK_A r f1 _ i (by omega) (by omega)
      have h20 : gi h1 2 0 = gi h 2 0 := x2 _ _ (by omega)
      obtain ⟨b, y1, y2, y3⟩ := s111 (h := h1) (A := gr h 14 x) (d := d - 1) (by omega) x5 D.2.1 (fun q => by have := (D.2.2.2.1 q).1; omega) (fun k k0 k1 q => by
        have L := D.2.2.2.2.2.2.1 k k0 k1
        have q : (cR h1 (gr h 14 x)).1 k = 0 ∨ (cR h1 (gr h 14 x)).1 k = 1 := q
        show 0 ≤ (cR h1 (gr h 14 x)).2.1 k ∧ (cR h1 (gr h 14 x)).2.1 k < 6
        rcases L with w | w | w
        · have := w.2.1; omega
        · omega
        · omega)
      rw [oc1, ue, eA] at y3
      rw [b108_6, e13 f1, if_pos (by omega), ix_p x0 (by omega), x3, y1, bk_v, b108_24]
      rcases y2 with rfl | rfl
      · rw [if_pos rfl, ck_p (by omega) (by omega)]
        refine ih (x + 1) (by omega) (by omega) (fun j j0 j1 j2 => ?_)
        by_cases z : j = x
        · rw [z] at j2 ⊢
          exact fun w => by have := y3.mpr ⟨j2, w⟩; omega
        · exact no j j0 (by omega) j2
      · rw [if_neg (by decide)]
        have w := y3.mp rfl
        exact Or.inl ⟨rfl, _, ⟨x, x0, by omega, w.1, rfl⟩, w.2⟩
  -- shrinking
  have sh : (∀ u, RLc h u → ¬ LYL (ocL (RLc h)) u) → ∀ (m : Nat) (x : Int) (H : dm_H), 0 ≤ x → x + m = gi h 13 1 → frK h1 H → (∀ i, gi H 6 i = gi h1 6 i) → (∀ j, 0 ≤ j → j < x → gi h (gr h 14 j) 1 = 0 → NSH (gi h 4) (ocL (RLc h)) (uR h (gr h 14 j)) (cK h (gi h (gr h 14 j) 2))) →
      ∃ y h', dL (d - 1) 108 38 [lR 1 9 13, lI x] [] H = rI y h' ∧ frK h h' ∧ ((y = -4 ∧ ∃ u, RLc h u ∧ u.1 = 0 ∧ ¬ NSH (gi h 4) (ocL (RLc h)) u (cK h u.2.1)) ∨ (y = -1 ∧ GOOD (cK h) (gi h 4) (gi h 2 0) (RLc h) ∧ CH h' ∧ CL h')) := by
    intro nl m
    induction m with
    | zero =>
      intro x H x0 xm fH e6 no
      have fh := frK_trans f1 fH
      rw [b108_38, e13 fh, if_neg (by omega)]
      have G : GOOD (cK h) (gi h 4) (gi h 2 0) (RLc h) := by
        intro u hu
        refine ⟨g1 u hu, nl u hu, ?_⟩
        obtain ⟨j, j0, j1, j2, rfl⟩ := hu
        exact fun q => no j j0 (by omega) q
      have rH : RLc H = RLc h := frK_RL hA fh
      have TH : LT (eg (RLc H)) (bh H 6) := by
        rw [rH]
        have : bh H 6 = bh h1 6 := by
          funext r q
          unfold bh
          rw [e6]
        rw [this]; exact x6
      have ocH' : ocH H 6 = ocL (RLc h) := by rw [ocH_L TH, rH]
      have e4 : gi H 4 = gi h 4 := funext (fun i => fh.1 _ _ (by omega) (by omega) (by omega) (by omega) (by omega))
      obtain ⟨f, p1, p2⟩ := lay_ex (kd := gi h 4) ⟨_, x6⟩ g1 nl
      have C1 : CB H := by
        refine ⟨by rw [e13 fh]; exact hn, by rw [fh.1 _ _ (by omega) (by omega) (by omega) (by omega) (by omega)]; exact h6, fun j j0 j1 => ?_⟩
        rw [e13 fh] at j1
        obtain ⟨D, ue, ce⟩ := shp fh j j0 j1
        rw [fh.2.1]
        refine ⟨hA j j0 j1, D.2.1, fun q => (D.2.2.2.1 q).1, fun k k0 k1 q => ?_⟩
        have L := D.2.2.2.2.2.2.1 k k0 k1
        have q : (cR H (gr h 14 j)).1 k = 0 ∨ (cR H (gr h 14 j)).1 k = 1 := q
        show 0 ≤ (cR H (gr h 14 j)).2.1 k ∧ (cR H (gr h 14 j)).2.1 k < gi H 2 0
        rcases L with w | w | w
        · exact w.2.1
        · omega
        · omega
      obtain ⟨h2, y1, y2, y3, y4, y5⟩ := s119 (d := d - 1) (h := H) (by omega) C1 (fun r r0 r1 => by rw [e6]; exact x5 r r0 r1) (f0 := f) (by rw [e4, ocH', rH]; exact p1) p2
      rw [y1, bk_n, b108_75]
      have fT : frK H h2 := ⟨fun a i p q r _ _ => y2.1 a i q r, y2.2.1, y2.2.2⟩
      have r2 : RLc h2 = RLc h := frK_RL hA (frK_trans fh fT)
      refine ⟨-1, h2, rfl, frK_trans fh fT, Or.inr ⟨rfl, G, ⟨fun r r0 r1 => ?_, ?_⟩, ?_, y4, y5⟩⟩
      · rw [y2.1 6 r (by omega) (by omega), e6]; exact x5 r r0 r1
      · rw [r2, ← rH]
        have : bh h2 6 = bh H 6 := by
          funext r q
          unfold bh
          rw [y2.1 6 r (by omega) (by omega)]
        rw [this]; exact TH
      · have e42 : gi h2 4 = gi H 4 := funext (fun i => y2.1 4 i (by omega) (by omega))
        rw [r2, e42]
        rw [ocH', rH] at y3
        exact y3
    | succ m ih =>
      intro x H x0 xm fH e6 no
      have fh := frK_trans f1 fH
      have r := hA x x0 (by omega)
      obtain ⟨D, ue, ce⟩ := shp fh x x0 (by omega)
      have eA : ∀ i, gi H (gr h 14 x) i = gi h (gr h 14 x) i := fun i => frK_A r fh _ i (by omega) (by omega)
      have h20 : gi H 2 0 = gi h 2 0 := fh.1 _ _ (by omega) (by omega) (by omega) (by omega) (by omega)
      have e3 : ∀ i, gi H 3 i = gi h 3 i := fun i => fh.1 _ _ (by omega) (by omega) (by omega) (by omega) (by omega)
      have e4 : gi H 4 = gi h 4 := funext (fun i => fh.1 _ _ (by omega) (by omega) (by omega) (by omega) (by omega))
      have hcc : 0 ≤ gi H (gr h 14 x) 3 ∧ gi H (gr h 14 x) 3 ≤ 3 := by
        by_cases z : gi H (gr h 14 x) 1 = 3
        · have := D.2.2.1 z; omega
        · obtain ⟨q1, q2⟩ := D.2.2.2.1 z
          rw [h20] at q1
          have := cK_c K q1.1 q1.2
          rw [q2, e3]; omega
      have oc2 : ocH H 6 = ocL (RLc h) := by
        rw [← oc1]
        funext r q
        unfold ocH bh
        rw [e6, e6]
      obtain ⟨b, h', y1, y2, y3, y4⟩ := s113 (h := H) (A := gr h 14 x) (d := d - 1) (by omega) r (fun r r0 r1 => by rw [e6]; exact x5 r r0 r1) (cl := cK H) (n := gi H 2 0) (by omega) D.2.1 (fun q => by have := (D.2.2.2.1 (by omega)).1; omega) hcc D.2.2.2.2.2.2.1
      rw [ue, oc2, e4, eA] at y4
      rw [b108_38, e13 fh, if_pos (by omega), ix_p x0 (by omega), fh.2.1, y1, bk_v, b108_59]
      have fC := frK_C r y3
      -- its columns
      have ecol : gi h (gr h 14 x) 1 = 0 → gi H (gr h 14 x) 3 = cK h (gi h (gr h 14 x) 2) := by
        intro q
        obtain ⟨q1, q2⟩ := D.2.2.2.1 (by rw [eA]; omega)
        rw [h20, eA] at q1
        rw [q2, eA, e3, (cK_c K q1.1 q1.2).1]
      rcases y2 with rfl | rfl
      · rw [if_pos rfl, ck_p (by omega) (by omega)]
        refine ih (x + 1) h' (by omega) (by omega) (frK_trans fH fC) (fun i => by rw [y3.1 6 i (by unfold ru at r; omega), e6]) (fun j j0 j1 j2 => ?_)
        by_cases z : j = x
        · rw [z] at j2 ⊢
          by_cases w : NSH (gi h 4) (ocL (RLc h)) (uR h (gr h 14 x)) (cK h (gi h (gr h 14 x) 2))
          · exact w
          · rw [ecol j2] at y4
            have := y4.mpr ⟨j2, w⟩
            omega
        · exact no j j0 (by omega) j2
      · rw [if_neg (by decide)]
        obtain ⟨w1, w2⟩ := y4.mp rfl
        rw [ecol w1] at w2
        exact ⟨-4, h', rfl, frK_trans fh fC, Or.inl ⟨rfl, _, ⟨x, x0, by omega, by omega, rfl⟩, w1, w2⟩⟩
  rw [f108 (by omega), b108_0, x1, bk_n, b108_4]
  rcases ll (gi h 13 1).toNat 0 (by omega) (by omega) (fun j j0 j1 => by omega) with ⟨z1, z2⟩ | ⟨z1, z2⟩
  · rw [z1]
    exact ⟨-3, h1, rfl, f1, Or.inl ⟨rfl, z2⟩⟩
  · rw [z1]
    obtain ⟨y, h', w1, w2, w3⟩ := sh z2 (gi h 13 1).toNat 0 h1 (by omega) (by omega) (frK_refl h1) (fun _ => rfl) (fun j j0 j1 => by omega)
    refine ⟨y, h', w1, w2, ?_⟩
    rcases w3 with ⟨v1, v2⟩ | v
    · exact Or.inr (Or.inl ⟨v1, z2, v2⟩)
    · exact Or.inr (Or.inr v)
end REF
