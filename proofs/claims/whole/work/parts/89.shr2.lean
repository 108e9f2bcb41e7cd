/-! SHRINKING: the class, on -/
section SHR2
variable {h : dm_H} {A : Nat}
theorem frC7_e {h' : dm_H} (f : frC7 A h h') : cR h' A = cR h A ∧ (∀ q, q < 7 → ∀ i, gi h' (A + q) i = gi h (A + q) i) := by
  have e : ∀ q, q < 7 → ∀ i, gi h' (A + q) i = gi h (A + q) i := fun q hq i => f.1 _ _ (by omega)
  refine ⟨?_, e⟩
  unfold cR
  rw [show gi h' (A + 2) = gi h (A + 2) from funext (e 2 (by omega)), show gi h' (A + 3) = gi h (A + 3) from funext (e 3 (by omega)), show gi h' (A + 4) = gi h (A + 4) from funext (e 4 (by omega))]
  have : (fun k => tm h' A k) = fun k => tm h A k := by
    funext k i
    exact e 5 (by omega) _
  rw [this]
theorem s114 {d : Nat} (hd : 3 ≤ d) {k ah : Int} (s : st6 h 6) (C : cAt h A (crs (gi h 4) (ocH h 6) (cR h A) (gi h A 2) k.toNat)) (hk : 0 ≤ k ∧ k < 4) (hA : 15 ≤ A) (hat : gi h (A + 2) k = 0 ∨ gi h (A + 2) k = 1) (hs : 0 ≤ gi h (A + 3) k ∧ gi h (A + 3) k < 6) (hr : 0 ≤ gi h A 2 ∧ gi h A 2 < 6) (hw : 1 ≤ gi h (A + 4) k ∧ gi h (A + 4) k ≤ 3) (hah : bst ah (avr (cR h A) k)) :
    ∃ g h', dF d 114 [dR 1 8 A, dI k, dI ah, dR 1 6 2] h = rI g h' ∧ (g = 0 ∨ g = 1) ∧ frC7 A h h' ∧ (g = 1 ↔ gud (gi h 4) (ocH h 6) (cR h A) (gi h A 2) k) ∧ (g = 1 → cAt h' A (crs (gi h 4) (ocH h 6) (cR h A) (gi h A 2) (k + 1).toNat)) := by
  have hgr : grw (gi h 4) (ocH h 6) (cR h A) (gi h A 2) k ↔ gi h (A + 2) k = 0 ∧ gi h 4 (gi h (A + 3) k) ≠ 0 ∧ ocH h 6 (gi h (A + 3) k) (gi h A 2) := Iff.rfl
  have gudN : ¬ grw (gi h 4) (ocH h 6) (cR h A) (gi h A 2) k → (gud (gi h 4) (ocH h 6) (cR h A) (gi h A 2) k ↔ ∀ i, 0 ≤ i → i < gi h (A + 4) k → coT (crs (gi h 4) (ocH h 6) (cR h A) (gi h A 2) k.toNat) (tm h A k i) = 0) := by
    intro hn
    constructor
    · intro g
      exact g.2.1 hat hn
    · intro g
      exact ⟨fun z => absurd z hn, fun _ _ => g, fun z => by have z : gi h (A + 2) k = 2 := z; omega, fun z => by have z : gi h (A + 2) k = 3 := z; omega⟩
  have gudG : grw (gi h 4) (ocH h 6) (cR h A) (gi h A 2) k → (gud (gi h 4) (ocH h 6) (cR h A) (gi h A 2) k ↔ (∀ i, 0 ≤ i → i < gi h (A + 4) k - 1 → coT (crs (gi h 4) (ocH h 6) (cR h A) (gi h A 2) k.toNat) (tm h A k i) = 0) ∧ (slot (tm h A k (gi h (A + 4) k - 1)) = -1 → tm h A k (gi h (A + 4) k - 1) = -1) ∧ (slot (tm h A k (gi h (A + 4) k - 1)) ≠ -1 → ¬ avr (cR h A) k (slot (tm h A k (gi h (A + 4) k - 1))) ∧ ∀ i, 0 ≤ i → i < gi h (A + 4) k - 1 → slot (tm h A k i) ≠ slot (tm h A k (gi h (A + 4) k - 1)))) := by
    intro hg
    constructor
    · intro g
      exact g.1 hg
    · intro g
      exact ⟨fun _ => g, fun _ z => absurd hg z, fun z => by have z : gi h (A + 2) k = 2 := z; omega, fun z => by have z : gi h (A + 2) k = 3 := z; omega⟩
  generalize ec : crs (gi h 4) (ocH h 6) (cR h A) (gi h A 2) k.toNat = c at C gudN gudG
  -- the columns, others of them
  have cols : ∀ (x5 : Int) (o : Int), (0 ≤ o ∧ o ≤ 3) → ∀ (m : Nat) (i tk : Int) (w9 w2 : Option dm_V), 0 ≤ i → i + m = o → bst tk (fun s => avr (cR h A) k s ∨ ∃ j, 0 ≤ j ∧ j < i ∧ slot (tm h A k j) = s) → (∀ j, 0 ≤ j → j < i → coT c (tm h A k j) = 0) →
      (¬ (∀ j, 0 ≤ j → j < o → coT c (tm h A k j) = 0) ∧ dL (d - 1) 114 77 [lR 1 8 A, lI k, w2, lR 1 6 2, lI (gi h (A + 3) k), lI x5, lI o, lI tk, lI i, w9] [] h = rI 0 h) ∨ ((∀ j, 0 ≤ j → j < o → coT c (tm h A k j) = 0) ∧ ∃ tk' w9', bst tk' (fun s => avr (cR h A) k s ∨ ∃ j, 0 ≤ j ∧ j < o ∧ slot (tm h A k j) = s) ∧ dL (d - 1) 114 77 [lR 1 8 A, lI k, w2, lR 1 6 2, lI (gi h (A + 3) k), lI x5, lI o, lI tk, lI i, w9] [] h = dL (d - 1) 114 77 [lR 1 8 A, lI k, w2, lR 1 6 2, lI (gi h (A + 3) k), lI x5, lI o, lI tk', lI o, w9'] [] h) := by
    intro x5 o ho m
    induction m with
    | zero =>
      intro i tk w9 w2 i0 im B Z
      rw [show i = o by omega] at B Z ⊢
      exact Or.inr ⟨Z, tk, w9, B, rfl⟩
    | succ m ih =>
      intro i tk w9 w2 i0 im B Z
      have e : dL (d - 1) 114 77 [lR 1 8 A, lI k, w2, lR 1 6 2, lI (gi h (A + 3) k), lI x5, lI o, lI tk, lI i, w9] [] h = dL (d - 1) 114 103 [lR 1 8 A, lI k, w2, lR 1 6 2, lI (gi h (A + 3) k), lI x5, lI o, lI tk, lI i, lI (tm h A k i)] [dI (coT c (tm h A k i))] h := by
        rw [b114_77, if_pos (by omega), ck_p (by omega) (by omega), ck_p (by omega) (by omega), ix_p (by omega) (by omega), s115c (by omega) C, bk_v]
        rfl
      rw [e, b114_103]
      by_cases z : coT c (tm h A k i) = 0
      · rw [if_pos z, s105 (by omega), bk_v, b114_115, ck_p (by omega) (by omega)]
        refine ih (i + 1) _ _ _ (by omega) (by omega) (bst_or B (bst_b (tm h A k i)) (fun s _ _ => ?_)) (fun j j0 j1 => ?_)
        · constructor
          · rintro (y | ⟨j, j0, j1, j2⟩)
            · exact Or.inl (Or.inl y)
            · by_cases w : j = i
              · rw [w] at j2; exact Or.inr j2
              · exact Or.inl (Or.inr ⟨j, j0, by omega, j2⟩)
          · rintro ((y | ⟨j, j0, j1, j2⟩) | y)
            · exact Or.inl y
            · exact Or.inr ⟨j, j0, by omega, j2⟩
            · exact Or.inr ⟨i, i0, by omega, y⟩
        · by_cases w : j = i
          · rw [w]; exact z
          · exact Z j j0 (by omega)
      · rw [if_neg z]
        exact Or.inl ⟨fun y => z (y i i0 (by omega)), rfl⟩
  have B0 : bst ah (fun s => avr (cR h A) k s ∨ ∃ j, 0 ≤ j ∧ j < (0 : Int) ∧ slot (tm h A k j) = s) := bst_c hah (fun s _ _ => ⟨fun z => z.resolve_right (fun ⟨j, j0, j1, _⟩ => by omega), Or.inl⟩)
  have ungr : ¬ grw (gi h 4) (ocH h 6) (cR h A) (gi h A 2) k → ∀ w6 w7 w8 w9, ∃ g h', dL (d - 1) 114 45 [lR 1 8 A, lI k, lI ah, lR 1 6 2, lI (gi h (A + 3) k), w6, w7, w8, w9, none] [dI 0] h = rI g h' ∧ (g = 0 ∨ g = 1) ∧ frC7 A h h' ∧ (g = 1 ↔ gud (gi h 4) (ocH h 6) (cR h A) (gi h A 2) k) ∧ (g = 1 → cAt h' A (crs (gi h 4) (ocH h 6) (cR h A) (gi h A 2) (k + 1).toNat)) := by
    intro hn w6 w7 w8 w9
    rw [b114_45, if_pos rfl, ix_p hk.1 (by omega), b114_69]
    rcases cols 0 (gi h (A + 4) k) (by omega) (gi h (A + 4) k).toNat 0 ah none (lI ah) (by omega) (by omega) B0 (fun j j0 j1 => by omega) with ⟨y1, y2⟩ | ⟨y1, tk', w9', y2, y3⟩
    · rw [y2]
      exact ⟨0, h, rfl, Or.inl rfl, frC7_refl A h, ⟨fun w => by omega, fun w => absurd ((gudN hn).mp w) y1⟩, fun w => by omega⟩
    · rw [y3, b114_77, if_neg (by omega), if_pos rfl]
      refine ⟨1, h, rfl, Or.inr rfl, frC7_refl A h, ⟨fun _ => (gudN hn).mpr y1, fun _ => rfl⟩, fun _ => ?_⟩
      rw [crs_atom hk.1 hn (by show gi h (A + 2) k ≠ 3; omega), ec]
      exact C
  have gr : grw (gi h 4) (ocH h 6) (cR h A) (gi h A 2) k → ∀ w6 w7 w8 w9, ∃ g h', dL (d - 1) 114 45 [lR 1 8 A, lI k, lI ah, lR 1 6 2, lI (gi h (A + 3) k), w6, w7, w8, w9, none] [dI 1] h = rI g h' ∧ (g = 0 ∨ g = 1) ∧ frC7 A h h' ∧ (g = 1 ↔ gud (gi h 4) (ocH h 6) (cR h A) (gi h A 2) k) ∧ (g = 1 → cAt h' A (crs (gi h 4) (ocH h 6) (cR h A) (gi h A 2) (k + 1).toNat)) := by
    intro hg w6 w7 w8 w9
    rw [b114_45, if_neg (by decide), ix_p hk.1 (by omega), ck_p (by omega) (by omega), b114_69]
    rcases cols 1 (gi h (A + 4) k - 1) (by omega) (gi h (A + 4) k - 1).toNat 0 ah none (lI ah) (by omega) (by omega) B0 (fun j j0 j1 => by omega) with ⟨y1, y2⟩ | ⟨y1, tk', w9', y2, y3⟩
    · rw [y2]
      exact ⟨0, h, rfl, Or.inl rfl, frC7_refl A h, ⟨fun w => by omega, fun w => absurd ((gudG hg).mp w).1 y1⟩, fun w => by omega⟩
    have ev : gi h (A + 5) (k * 3 + (gi h (A + 4) k - 1)) = tm h A k (gi h (A + 4) k - 1) := rfl
    rw [y3, b114_77, if_neg (by omega), if_neg (by decide), ck_p (by omega) (by omega), ck_p (by omega) (by omega), ix_p (by omega) (by omega), ev, s46 (by omega), bk_v, b114_149]
    by_cases z : slot (tm h A k (gi h (A + 4) k - 1)) = -1
    · rw [if_pos z]
      by_cases z2 : tm h A k (gi h (A + 4) k - 1) = -1
      · rw [if_pos z2, b114_168, z1_p (Or.inr rfl)]
        refine ⟨1, h, rfl, Or.inr rfl, frC7_refl A h, ⟨fun _ => (gudG hg).mpr ⟨y1, fun _ => z2, fun w => absurd z w⟩, fun _ => rfl⟩, fun _ => ?_⟩
        rw [crs_grw hk.1 hg, if_pos (show slot ((cR h A).2.2.2 k ((cR h A).2.2.1 k - 1)) = -1 from z), ec]
        exact C
      · rw [if_neg z2, b114_168, z1_p (Or.inl rfl)]
        exact ⟨0, h, rfl, Or.inl rfl, frC7_refl A h, ⟨fun w => by omega, fun w => absurd (((gudG hg).mp w).2.1 z) z2⟩, fun w => by omega⟩
    · have sr := slotne z
      have fin : ∀ x, x = (if gi h 4 (gi h (A + 3) k) = 1 then (-1 : Int) else 1) → ∃ g h', dL (d - 1) 114 191 [lR 1 8 A, lI k, lI ah, lR 1 6 2, lI (gi h (A + 3) k), lI 1, lI (gi h (A + 4) k - 1), lI tk', lI (tm h A k (gi h (A + 4) k - 1)), lI (slot (tm h A k (gi h (A + 4) k - 1)))] [dI x, dI (slot (tm h A k (gi h (A + 4) k - 1))), dR 2 8 (A + 7)] h = rI g h' ∧ (g = 0 ∨ g = 1) ∧ frC7 A h h' ∧ (g = 1 ↔ gud (gi h 4) (ocH h 6) (cR h A) (gi h A 2) k) ∧ (g = 1 → cAt h' A (crs (gi h 4) (ocH h 6) (cR h A) (gi h A 2) (k + 1).toNat)) := by
        intro x ex
        have fr : frC7 A h (si h (A + 7) (slot (tm h A k (gi h (A + 4) k - 1))) x) := ⟨fun a i ha => gi_sin ha, fun _ _ => rfl, rfl⟩
        have eb : (if slot (tm h A k (gi h (A + 4) k - 1)) = -1 then 0 else dm_shl 1 (slot (tm h A k (gi h (A + 4) k - 1)))) = bitO (tm h A k (gi h (A + 4) k - 1)) := rfl
        have hd := bst_dis y2 (bst_b (tm h A k (gi h (A + 4) k - 1)))
        have hgd : gud (gi h 4) (ocH h 6) (cR h A) (gi h A 2) k ↔ dm_and tk' (bitO (tm h A k (gi h (A + 4) k - 1))) = 0 := by
          rw [gudG hg, hd]
          constructor
          · rintro ⟨g1, g2, g3⟩ s s0 s1 hs' e
            obtain ⟨g4, g5⟩ := g3 z
            rw [← e] at hs'
            rcases hs' with y | ⟨j, j0, j1, j2⟩
            · exact g4 y
            · exact g5 j j0 j1 j2
          · intro g
            refine ⟨y1, fun w => absurd w z, fun _ => ⟨fun w => g _ sr.1 sr.2 (Or.inl w) rfl, fun i i0 i1 e => ?_⟩⟩
            exact g _ sr.1 sr.2 (Or.inr ⟨i, i0, i1, e⟩) rfl
        have cc : cAt (si h (A + 7) (slot (tm h A k (gi h (A + 4) k - 1))) x) A (crs (gi h 4) (ocH h 6) (cR h A) (gi h A 2) (k + 1).toNat) := by
          rw [crs_grw hk.1 hg, if_neg (show ¬ slot ((cR h A).2.2.2 k ((cR h A).2.2.1 k - 1)) = -1 from z), ec]
          intro s s0 s1
          rw [gi_si]
          show _ = if s = slot (tm h A k (gi h (A + 4) k - 1)) then (if gi h 4 (gi h (A + 3) k) = 1 then (-1 : Int) else 1) else c s
          by_cases w : s = slot (tm h A k (gi h (A + 4) k - 1))
          · rw [if_pos ⟨rfl, w⟩, if_pos w, ex]
          · rw [if_neg (fun v => w v.2), if_neg w]; exact C s s0 s1
        rw [b114_191, ix_p sr.1 sr.2, s105 (by omega), bk_v, b114_199, eb]
        by_cases w : dm_and tk' (bitO (tm h A k (gi h (A + 4) k - 1))) = 0
        · rw [if_pos w, b114_208, z1_p (Or.inr rfl)]
          exact ⟨1, _, rfl, Or.inr rfl, fr, ⟨fun _ => hgd.mpr w, fun _ => rfl⟩, fun _ => cc⟩
        · rw [if_neg w, b114_208, z1_p (Or.inl rfl)]
          exact ⟨0, _, rfl, Or.inl rfl, fr, ⟨fun v => by omega, fun v => absurd (hgd.mp v) w⟩, fun v => by omega⟩
      rw [if_neg z, ix_p hs.1 hs.2]
      by_cases w : gi h 4 (gi h (A + 3) k) = 1
      · rw [if_pos w] at fin ⊢
        exact fin (-1) rfl
      · rw [if_neg w] at fin ⊢
        exact fin 1 rfl
  rw [f114 (by omega), b114_0, ix_p hk.1 (by omega), ix_p hk.1 (by omega)]
  by_cases z0 : gi h (A + 2) k = 0
  case neg => rw [if_neg z0, b114_44]; exact ungr (fun w => z0 (hgr.mp w).1) _ _ _ _
  rw [if_pos z0, ix_p hs.1 hs.2]
  by_cases z1 : gi h 4 (gi h (A + 3) k) = 0
  · rw [if_pos z1, b114_44]; exact ungr (fun w => (hgr.mp w).2.1 z1) _ _ _ _
  obtain ⟨b, x1, x2, x3⟩ := s112b (d := d - 1) (by omega) s hs hr
  rw [if_neg z1, x1, bk_v, b114_37]
  rcases x2 with rfl | rfl
  · rw [if_pos rfl, b114_44]; exact ungr (fun w => by have := x3.mpr (hgr.mp w).2.2; omega) _ _ _ _
  · rw [if_neg (by decide)]; exact gr (hgr.mpr ⟨z0, z1, x3.mp rfl⟩) _ _ _ _
theorem s118 {d : Nat} (hd : 3 ≤ d) {c : Int → Int} (C : cAt h A c) (hr : 0 ≤ gi h A 2 ∧ gi h A 2 < 6) (hc : 0 ≤ gi h A 3 ∧ gi h A 3 ≤ 3) : ∃ g, dF d 118 [dR 1 8 A, dR 1 6 2] h = rI g h ∧ (g = 0 ∨ g = 1) ∧ (g = 1 ↔ ∀ i, 0 ≤ i → i < gi h A 3 → coT c (gi h (A + 1) i) = 0 ∨ (gi h 4 (gi h A 2) ≠ 0 ∧ i = gi h A 3 - 1 ∧ coT c (gi h (A + 1) i) = if gi h 4 (gi h A 2) = 1 then -1 else 1)) := by
  have loop : ∀ (nd : Int), nd = (if gi h 4 (gi h A 2) = 1 then (-1 : Int) else 1) → ∀ (m : Nat) (i : Int) (w4 w5 : Option dm_V), 0 ≤ i → i + m = gi h A 3 → (∀ j, 0 ≤ j → j < i → coT c (gi h (A + 1) j) = 0 ∨ (gi h 4 (gi h A 2) ≠ 0 ∧ j = gi h A 3 - 1 ∧ coT c (gi h (A + 1) j) = if gi h 4 (gi h A 2) = 1 then -1 else 1)) → ∃ g, dL (d - 1) 118 21 [lR 1 8 A, lR 1 6 2, lI nd, lI i, w4, w5] [] h = rI g h ∧ (g = 0 ∨ g = 1) ∧ (g = 1 ↔ ∀ i, 0 ≤ i → i < gi h A 3 → coT c (gi h (A + 1) i) = 0 ∨ (gi h 4 (gi h A 2) ≠ 0 ∧ i = gi h A 3 - 1 ∧ coT c (gi h (A + 1) i) = if gi h 4 (gi h A 2) = 1 then -1 else 1)) := by
    intro nd end_ m
    induction m with
    | zero =>
      intro i w4 w5 i0 im Z
      rw [b118_21, if_neg (by omega)]
      exact ⟨1, rfl, Or.inr rfl, fun _ j j0 j1 => Z j j0 (by omega), fun _ => rfl⟩
    | succ m ih =>
      intro i w4 w5 i0 im Z
      have good : ∀ w4 w5, (coT c (gi h (A + 1) i) = 0 ∨ (gi h 4 (gi h A 2) ≠ 0 ∧ i = gi h A 3 - 1 ∧ coT c (gi h (A + 1) i) = if gi h 4 (gi h A 2) = 1 then -1 else 1)) → ∃ g, dL (d - 1) 118 88 [lR 1 8 A, lR 1 6 2, lI nd, lI i, w4, w5] [] h = rI g h ∧ (g = 0 ∨ g = 1) ∧ (g = 1 ↔ ∀ i, 0 ≤ i → i < gi h A 3 → coT c (gi h (A + 1) i) = 0 ∨ (gi h 4 (gi h A 2) ≠ 0 ∧ i = gi h A 3 - 1 ∧ coT c (gi h (A + 1) i) = if gi h 4 (gi h A 2) = 1 then -1 else 1)) := by
        intro w4 w5 hg
        rw [b118_88, ck_p (by omega) (by omega)]
        refine ih (i + 1) _ _ (by omega) (by omega) (fun j j0 j1 => ?_)
        by_cases y : j = i
        · rw [y]; exact hg
        · exact Z j j0 (by omega)
      have bad : ∀ w2 w3 w4 w5, ¬ (coT c (gi h (A + 1) i) = 0 ∨ (gi h 4 (gi h A 2) ≠ 0 ∧ i = gi h A 3 - 1 ∧ coT c (gi h (A + 1) i) = if gi h 4 (gi h A 2) = 1 then -1 else 1)) → ∃ g, dL (d - 1) 118 86 [lR 1 8 A, lR 1 6 2, w2, w3, w4, w5] [] h = rI g h ∧ (g = 0 ∨ g = 1) ∧ (g = 1 ↔ ∀ i, 0 ≤ i → i < gi h A 3 → coT c (gi h (A + 1) i) = 0 ∨ (gi h 4 (gi h A 2) ≠ 0 ∧ i = gi h A 3 - 1 ∧ coT c (gi h (A + 1) i) = if gi h 4 (gi h A 2) = 1 then -1 else 1)) := by
        intro w2 w3 w4 w5 hb
        rw [b118_86]
        exact ⟨0, rfl, Or.inl rfl, fun w => by omega, fun w => absurd (w i i0 (by omega)) hb⟩
      have at68 : ∀ v w5, (v = 0 ∨ v = 1) → (v = 1 ↔ gi h 4 (gi h A 2) ≠ 0 ∧ i = gi h A 3 - 1) → ∃ g, dL (d - 1) 118 68 [lR 1 8 A, lR 1 6 2, lI nd, lI i, lI (coT c (gi h (A + 1) i)), w5] [dI v] h = rI g h ∧ (g = 0 ∨ g = 1) ∧ (g = 1 ↔ ∀ i, 0 ≤ i → i < gi h A 3 → coT c (gi h (A + 1) i) = 0 ∨ (gi h 4 (gi h A 2) ≠ 0 ∧ i = gi h A 3 - 1 ∧ coT c (gi h (A + 1) i) = if gi h 4 (gi h A 2) = 1 then -1 else 1)) := by
        intro v w5 v01 hv
        rw [b118_68]
        by_cases y0 : coT c (gi h (A + 1) i) = 0
        · rw [if_pos y0]; exact good _ _ (Or.inl y0)
        rw [if_neg y0]
        by_cases y1 : v = 0
        · rw [if_pos y1]
          exact bad _ _ _ _ (fun w => w.elim y0 (fun w => by have := hv.mpr ⟨w.1, w.2.1⟩; omega))
        rw [if_neg y1]
        obtain ⟨v1, v2⟩ := hv.mp (by omega)
        by_cases y2 : coT c (gi h (A + 1) i) = nd
        · rw [if_pos y2]; exact good _ _ (Or.inr ⟨v1, v2, by rw [y2, end_]⟩)
        · rw [if_neg y2]
          exact bad _ _ _ _ (fun w => w.elim y0 (fun w => y2 (by rw [end_]; exact w.2.2)))
      rw [b118_21, if_pos (by omega), ix_p i0 (by omega), s115c (by omega) C, bk_v, b118_39, ix_p hr.1 hr.2]
      by_cases y0 : gi h 4 (gi h A 2) = 0
      · rw [if_pos y0, b118_67]
        exact at68 0 _ (Or.inl rfl) ⟨fun w => by omega, fun w => absurd y0 w.1⟩
      rw [if_neg y0, ck_p (by omega) (by omega)]
      by_cases y1 : i = gi h A 3 - 1
      · rw [if_pos y1]
        exact at68 1 _ (Or.inr rfl) ⟨fun _ => ⟨y0, y1⟩, fun _ => rfl⟩
      · rw [if_neg y1, b118_67]
        exact at68 0 _ (Or.inl rfl) ⟨fun w => by omega, fun w => absurd w.2 y1⟩
  rw [f118 (by omega), b118_0, ix_p hr.1 hr.2]
  by_cases z : gi h 4 (gi h A 2) = 1
  · rw [if_pos z, b118_18]
    exact loop (-1) (by rw [if_pos z]) (gi h A 3).toNat 0 none none (by omega) (by omega) (fun j j0 j1 => by omega)
  · rw [if_neg z, b118_18]
    exact loop 1 (by rw [if_neg z]) (gi h A 3).toNat 0 none none (by omega) (by omega) (fun j j0 j1 => by omega)
theorem s113 {d : Nat} (hd : 4 ≤ d) (hru : ru A) (s : st6 h 6) {cl : Int → Int} {n : Int} (hn : n ≤ 6) (hN : 0 ≤ gi h A 4 ∧ gi h A 4 ≤ 4) (hr : gi h A 1 = 0 → 0 ≤ gi h A 2 ∧ gi h A 2 < 6) (hc : 0 ≤ gi h A 3 ∧ gi h A 3 ≤ 3) (hL : ∀ k, 0 ≤ k → k < gi h A 4 → LSH cl n (cR h A) k) :
    ∃ b h', dF d 113 [dR 1 8 A, dR 1 6 2] h = rI b h' ∧ (b = 0 ∨ b = 1) ∧ frC7 A h h' ∧ (b = 1 ↔ gi h A 1 = 0 ∧ ¬ NSH (gi h 4) (ocH h 6) (uR h A) (gi h A 3)) := by
  have hg := ru_g hru
  rw [f113 (by omega), b113_0]
  by_cases z0 : gi h A 1 = 0
  case neg =>
    rw [if_neg z0]
    exact ⟨0, h, rfl, Or.inl rfl, frC7_refl A h, fun w => by omega, fun w => absurd w.1 z0⟩
  obtain ⟨r0, r1⟩ := hr z0
  rw [if_pos z0, s21 (by omega) 8 (A + 7) 0 h (by omega), bk_n, b113_17]
  have f0 : frC7 A h (fill h (A + 7) ((8 : Nat) : Int) 0) := ⟨fun a i ha => by rw [gi_fill, if_neg (fun z => ha z.1)], fun _ _ => rfl, rfl⟩
  have C0 : cAt (fill h (A + 7) ((8 : Nat) : Int) 0) A (crs (gi h 4) (ocH h 6) (cR h A) (gi h A 2) 0) := fun s s0 s1 => by rw [gi_fill, if_pos ⟨rfl, s0, by omega⟩]; rfl
  have loop : ∀ (m : Nat) (k ah : Int) (w4 : Option dm_V) (H : dm_H), 0 ≤ k → k + m = gi h A 4 → frC7 A h H → cAt H A (crs (gi h 4) (ocH h 6) (cR h A) (gi h A 2) k.toNat) → bst ah (avr (cR h A) k) → (∀ l, 0 ≤ l → l < k → gud (gi h 4) (ocH h 6) (cR h A) (gi h A 2) l) → ∃ b h', dL (d - 1) 113 21 [lR 1 8 A, lR 1 6 2, lI ah, lI k, w4] [] H = rI b h' ∧ (b = 0 ∨ b = 1) ∧ frC7 A h h' ∧ (b = 1 ↔ gi h A 1 = 0 ∧ ¬ NSH (gi h 4) (ocH h 6) (uR h A) (gi h A 3)) := by
    intro m
    induction m with
    | zero =>
      intro k ah w4 H k0 km fH C B G
      obtain ⟨eR, e7⟩ := frC7_e fH
      have eA : ∀ i, gi H A i = gi h A i := fun i => e7 0 (by omega) i
      have e4 : ∀ i, gi H 4 i = gi h 4 i := fun i => fH.1 4 i (by omega)
      obtain ⟨g, t1, t2, t3⟩ := s118 (d := d - 1) (by omega) C (by rw [eA]; exact ⟨r0, r1⟩) (by rw [eA]; exact hc)
      rw [b113_21, eA, if_neg (by omega), t1, bk_v, b113_130]
      have ek : k = gi h A 4 := by omega
      simp only [eA, e4, e7 1 (by omega)] at t3
      rw [ek] at t3
      have hh : g = 1 ↔ hdg (gi h 4) (ocH h 6) (uR h A) (gi h A 3) := t3
      rcases t2 with rfl | rfl
      · rw [if_pos rfl, b113_138, z1_p (Or.inr rfl)]
        exact ⟨1, H, rfl, Or.inr rfl, fH, fun _ => ⟨z0, fun w => by have := hh.mpr w.2; omega⟩, fun _ => rfl⟩
      · rw [if_neg (by decide), b113_138, z1_p (Or.inl rfl)]
        exact ⟨0, H, rfl, Or.inl rfl, fH, fun w => by omega, fun w => absurd ⟨fun l l0 l1 => G l l0 (by have l1 : l < gi h A 4 := l1; omega), hh.mp rfl⟩ w.2⟩
    | succ m ih =>
      intro k ah w4 H k0 km fH C B G
      obtain ⟨eR, e7⟩ := frC7_e fH
      have eA : ∀ i, gi H A i = gi h A i := fun i => e7 0 (by omega) i
      have e4 : gi H 4 = gi h 4 := funext (fun i => fH.1 4 i (by omega))
      have e6 : ∀ i, gi H 6 i = gi h 6 i := fun i => fH.1 6 i (by omega)
      have eo : ocH H 6 = ocH h 6 := by
        funext r q
        unfold ocH bh
        rw [e6, e6]
      have sH : st6 H 6 := fun r q0 q1 => by rw [e6]; exact s r q0 q1
      have hk : 0 ≤ k ∧ k < 4 := by omega
      have L := hL k k0 (by omega)
      have hw := LSH_w L
      have hw : 1 ≤ gi h (A + 4) k ∧ gi h (A + 4) k ≤ 3 := hw
      have etm : ∀ i, tm H A k i = tm h A k i := fun i => e7 5 (by omega) _
      -- behind a literal: g tells whether it was good
      have next : ∀ (g : Int) (H2 : dm_H), (g = 0 ∨ g = 1) → frC7 A h H2 → (g = 1 ↔ gud (gi h 4) (ocH h 6) (cR h A) (gi h A 2) k) → (g = 1 → cAt H2 A (crs (gi h 4) (ocH h 6) (cR h A) (gi h A 2) (k + 1).toNat)) → ∃ b h', dL (d - 1) 113 74 [lR 1 8 A, lR 1 6 2, lI ah, lI k, lI g] [] H2 = rI b h' ∧ (b = 0 ∨ b = 1) ∧ frC7 A h h' ∧ (b = 1 ↔ gi h A 1 = 0 ∧ ¬ NSH (gi h 4) (ocH h 6) (uR h A) (gi h A 3)) := by
        intro g H2 g01 f2 hg2 hC
        obtain ⟨eR2, e72⟩ := frC7_e f2
        rw [b113_74]
        by_cases zg : g = 0
        · rw [if_pos zg]
          refine ⟨1, H2, rfl, Or.inr rfl, f2, fun _ => ⟨z0, fun w => ?_⟩, fun _ => rfl⟩
          have := hg2.mpr (w.1 k k0 (by show k < gi h A 4; omega))
          omega
        have g1 : g = 1 := by omega
        obtain ⟨w, t1, t2⟩ := s106 (d := d - 1) (h := H2) (A := A) (by omega) k hk (by rw [e72 4 (by omega)]; omega)
        rw [eR2] at t2
        rw [if_neg zg, t1, bk_v, b113_87, ix_p k0 (by omega), e72 2 (by omega)]
        have e5 : gi H2 (A + 5) (k * 3 + 2) = tm h A k 2 := e72 5 (by omega) _
        have fin : ∀ M, bst M (fun s => gi h (A + 2) k = 3 ∧ slot (tm h A k 2) = s) → ∃ b h', dL (d - 1) 113 117 [lR 1 8 A, lR 1 6 2, lI (dm_or ah w), lI k, lI g] [dI M, dI (dm_or ah w)] H2 = rI b h' ∧ (b = 0 ∨ b = 1) ∧ frC7 A h h' ∧ (b = 1 ↔ gi h A 1 = 0 ∧ ¬ NSH (gi h 4) (ocH h 6) (uR h A) (gi h A 3)) := by
          intro M hM
          rw [b113_117, ck_p (by omega) (by omega)]
          refine ih (k + 1) _ _ H2 (by omega) (by omega) f2 (hC g1) (bst_or (bst_or B t2 (fun s _ _ => Iff.rfl)) hM (fun s _ _ => by rw [avr_s k0, or_assoc]; exact Iff.rfl)) (fun l l0 l1 => ?_)
          by_cases y : l = k
          · rw [y]; exact hg2.mp g1
          · exact G l l0 (by omega)
        by_cases z3 : gi h (A + 2) k = 3
        · rw [if_pos z3, ck_p (by omega) (by omega), ck_p (by omega) (by omega), ix_p (by omega) (by omega), e5, s105 (by omega), bk_v, b113_113]
          exact fin _ (bst_c (bst_b (tm h A k 2)) (fun s _ _ => ⟨fun y => y.2, fun y => ⟨z3, y⟩⟩))
        · rw [if_neg z3]
          exact fin 0 (bst_0 (fun s _ _ y => z3 y.1))
      rw [b113_21, eA, if_pos (by omega), s39 (by omega) A k H hk, bk_v, b113_34, e7 2 (by omega)]
      have hng : (gi h (A + 2) k = 2 ∨ gi h (A + 2) k = 3) → ¬ grw (gi h 4) (ocH h 6) (cR h A) (gi h A 2) k := fun y z => by have z : gi h (A + 2) k = 0 := z.1; omega
      rcases L with ⟨q1, q2, q3, q4, q5, q6⟩ | ⟨q1, q2, q3, q4, q5⟩ | ⟨q1, q2, q3, q4, q5⟩
      · have q1 : gi h (A + 2) k = 0 ∨ gi h (A + 2) k = 1 := q1
        have q2 : 0 ≤ gi h (A + 3) k ∧ gi h (A + 3) k < n := q2
        obtain ⟨g, H2, t1, t2, t3, t4, t5⟩ := s114 (d := d - 1) (h := H) (A := A) (k := k) (ah := ah) (by omega) sH (by rw [e4, eo, eR, eA]; exact C) hk (by omega) (by rw [e7 2 (by omega)]; exact q1) (by rw [e7 3 (by omega)]; omega) (by rw [eA]; exact ⟨r0, r1⟩) (by rw [e7 4 (by omega)]; exact hw) (by rw [eR]; exact B)
        rw [e4, eo, eR, eA] at t4 t5
        rw [bi_1 q1, if_neg (by decide), t1, bk_v, b113_44]
        exact next g H2 t2 (frC7_trans fH t3) t4 t5
      · have q1 : gi h (A + 2) k = 2 := q1
        obtain ⟨g, t1, t2, t3⟩ := s116 (d := d - 1) (h := H) (A := A) (by omega) C hk
        rw [bi_0 (by omega), if_pos rfl, ix_p k0 (by omega), if_pos q1, t1, bk_v, b113_64, b113_72]
        rw [etm, etm, e7 3 (by omega)] at t3
        refine next g H t2 fH ?_ (fun _ => ?_)
        · rw [t3]
          constructor
          · intro y
            exact ⟨fun z => absurd z (hng (Or.inl q1)), fun z => by have z : gi h (A + 2) k = 0 ∨ gi h (A + 2) k = 1 := z; omega, fun _ => y, fun z => by have z : gi h (A + 2) k = 3 := z; omega⟩
          · intro y
            exact y.2.2.1 q1
        · rw [crs_atom k0 (hng (Or.inl q1)) (by show gi h (A + 2) k ≠ 3; omega)]
          exact C
      · have q1 : gi h (A + 2) k = 3 := q1
        have q5 : 100 ≤ tm h A k 2 ∧ tm h A k 2 ≤ 107 := q5
        have es := slot_v q5
        obtain ⟨g, H2, t1, t2, t3, t4, t5⟩ := s117 (d := d - 1) (h := H) (A := A) (by omega) C (crs_r k.toNat) hk (by rw [etm]; omega)
        rw [bi_0 (by omega), if_pos rfl, ix_p k0 (by omega), if_neg (by omega), t1, bk_v, b113_72]
        rw [etm, etm, etm, e7 3 (by omega)] at t4
        rw [etm, etm, e7 3 (by omega)] at t5
        refine next g H2 t2 (frC7_trans fH t3) ?_ (fun _ => ?_)
        · rw [t5]
          constructor
          · intro y
            exact ⟨fun z => absurd z (hng (Or.inr q1)), fun z => by have z : gi h (A + 2) k = 0 ∨ gi h (A + 2) k = 1 := z; omega, fun z => by have z : gi h (A + 2) k = 2 := z; omega, fun _ => y⟩
          · intro y
            exact y.2.2.2 q1
        · rw [crs_rck k0 q1]
          exact t4
  exact loop (gi h A 4).toNat 0 0 none _ (by omega) (by omega) f0 C0 (bst_0 (fun s _ _ ⟨j, j0, j1, _⟩ => by omega)) (fun l l0 l1 => by omega)
end SHR2
