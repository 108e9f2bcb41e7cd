/-! SHRINKING: the reference, all -/
section RS3
variable {h : dm_H} {cl kd : Int → Int} {u : mU} {p : Int}
/-- the columns of an atom, one after the other -/
theorem a_cols {d : Nat} (hd : 5 ≤ d) (V : UR cl kd u p h) (hu : HSu u) (hk : ∀ r, gi h 167 r = kd r) (s : st6 h 175) {k : Int} (k0 : 0 ≤ k) (k1 : k < u.2.2.2.2) (ha : lq h p k 0 = 0) {r w : Int} (hr : 0 ≤ r ∧ r < 6) (ew : gi h 166 r = w) (hw : 1 ≤ w ∧ w ≤ 3) (ht : ∀ i, 0 ≤ i → i < 3 → -1 ≤ lq h p k (3 + i) ∧ lq h p k (3 + i) ≤ 107) {F R : Int} (w7 w8 w10 w13 w14 : Option dm_V) : ∀ (m : Nat) (i hd_ is : Int) (P : Prop) (w12 : Option dm_V), 0 ≤ i → i + m = w → (is = 0 ∨ is = 1) → (is = 1 ↔ P ∨ ∃ j, 0 ≤ j ∧ j < i ∧ ¬ (grw kd (ocH h 175) u.2.2.2.1 u.2.1 k ∧ j = w - 1) ∧ isn (dm_or F R) (lq h p k (3 + j)) = 1) →
    ∃ hd' is' w11' w12', dL (d - 1) 235 197 [lR 1 11 165, lI p, lI F, lI R, lI hd_, lI is, lI k, w7, w8, lI r, w10, lI i, w12, w13, w14] [] h = dL (d - 1) 235 869 [lR 1 11 165, lI p, lI F, lI R, lI hd', lI is', lI k, w7, w8, lI r, w10, w11', w12', w13, w14] [] h ∧ (is' = 0 ∨ is' = 1) ∧ (is' = 1 ↔ P ∨ ∃ j, 0 ≤ j ∧ j < w ∧ ¬ (grw kd (ocH h 175) u.2.2.2.1 u.2.1 k ∧ j = w - 1) ∧ isn (dm_or F R) (lq h p k (3 + j)) = 1) ∧ ∀ q : Int → Prop, bst hd_ (fun s => q s ∨ ∃ j, 0 ≤ j ∧ j < i ∧ slot (lq h p k (3 + j)) = s) → bst hd' (fun s => q s ∨ ∃ j, 0 ≤ j ∧ j < w ∧ slot (lq h p k (3 + j)) = s) := by
  have hp := V.1
  have hN := hu.2.1
  obtain ⟨g, g1, g2, g3⟩ := s236 (d := d - 1) (by omega) V hu hk s k0 k1 ha
  intro m
  induction m with
  | zero =>
    intro i hd_ is P w12 i0 im i01 hi
    rw [show i = w by omega] at hi ⊢
    rw [b235_197, ix_p hr.1 hr.2, ew, if_neg (by omega)]
    exact ⟨hd_, is, _, _, rfl, i01, hi, fun q B => B⟩
  | succ m ih =>
    intro i hd_ is P w12 i0 im i01 hi
    have hti := ht i i0 (by omega)
    obtain ⟨v1, v2, v3⟩ := var_or (d := d - 1) (by omega) (lq h p k (3 + i)) h hti
    -- the term is had then
    have fin : ∀ (is' : Int) (w12' : Option dm_V), (is' = 0 ∨ is' = 1) → (is' = 1 ↔ is = 1 ∨ (¬ (grw kd (ocH h 175) u.2.2.2.1 u.2.1 k ∧ i = w - 1) ∧ isn (dm_or F R) (lq h p k (3 + i)) = 1)) → ∃ hd' is'' w11' w12'', dL (d - 1) 235 275 [lR 1 11 165, lI p, lI F, lI R, lI hd_, lI is, lI k, w7, w8, lI r, w10, lI i, w12', w13, w14] [dI is'] h = dL (d - 1) 235 869 [lR 1 11 165, lI p, lI F, lI R, lI hd', lI is'', lI k, w7, w8, lI r, w10, w11', w12'', w13, w14] [] h ∧ (is'' = 0 ∨ is'' = 1) ∧ (is'' = 1 ↔ P ∨ ∃ j, 0 ≤ j ∧ j < w ∧ ¬ (grw kd (ocH h 175) u.2.2.2.1 u.2.1 k ∧ j = w - 1) ∧ isn (dm_or F R) (lq h p k (3 + j)) = 1) ∧ ∀ q : Int → Prop, bst hd_ (fun s => q s ∨ ∃ j, 0 ≤ j ∧ j < i ∧ slot (lq h p k (3 + j)) = s) → bst hd' (fun s => q s ∨ ∃ j, 0 ≤ j ∧ j < w ∧ slot (lq h p k (3 + j)) = s) := by
      intro is' w12' j01 hj
      have had : ∀ H, H = bitO (lq h p k (3 + i)) → dL (d - 1) 235 316 [lR 1 11 165, lI p, lI F, lI R, lI hd_, lI is', lI k, w7, w8, lI r, w10, lI i, w12', w13, w14] [dI H, dI hd_] h = dL (d - 1) 235 197 [lR 1 11 165, lI p, lI F, lI R, lI (dm_or hd_ (bitO (lq h p k (3 + i)))), lI is', lI k, w7, w8, lI r, w10, lI (i + 1), w12', w13, w14] [] h := by
        intro H eH
        rw [b235_316, ck_p (by omega) (by omega), eH]
      have go : dL (d - 1) 235 275 [lR 1 11 165, lI p, lI F, lI R, lI hd_, lI is, lI k, w7, w8, lI r, w10, lI i, w12', w13, w14] [dI is'] h = dL (d - 1) 235 197 [lR 1 11 165, lI p, lI F, lI R, lI (dm_or hd_ (bitO (lq h p k (3 + i)))), lI is', lI k, w7, w8, lI r, w10, lI (i + 1), w12', w13, w14] [] h := by
        rw [b235_275, ck_p (by omega) (by omega), s181 (by omega) p k (3 + i) h hp (by omega) (by omega), bk_v, b235_290, v1, bk_v, b235_293]
        by_cases z : 100 ≤ lq h p k (3 + i)
        · rw [if_pos z, if_neg (by decide), ck_p (by omega) (by omega), s181 (by omega) p k (3 + i) h hp (by omega) (by omega), bk_v, b235_308, ck_p (by omega) (by omega), had _ (v2 z)]
        · rw [if_neg z, if_pos rfl, had 0 (v3 z).symm]
      rw [go]
      obtain ⟨hd', is'', w11', w12'', t1, t2, t3, t4⟩ := ih (i + 1) (dm_or hd_ (bitO (lq h p k (3 + i)))) is' P w12' (by omega) (by omega) j01 (by
        rw [hj, hi]
        constructor
        · rintro ((y | ⟨j, j0, j1, j2⟩) | y)
          · exact Or.inl y
          · exact Or.inr ⟨j, j0, by omega, j2⟩
          · exact Or.inr ⟨i, i0, by omega, y⟩
        · rintro (y | ⟨j, j0, j1, j2⟩)
          · exact Or.inl (Or.inl y)
          · by_cases e : j = i
            · rw [e] at j2; exact Or.inr j2
            · exact Or.inl (Or.inr ⟨j, j0, by omega, j2⟩))
      refine ⟨hd', is'', w11', w12'', t1, t2, t3, fun q B => t4 q (bst_or B (bst_b (lq h p k (3 + i))) (fun s _ _ => ?_))⟩
      constructor
      · rintro (y | ⟨j, j0, j1, j2⟩)
        · exact Or.inl (Or.inl y)
        · by_cases e : j = i
          · rw [e] at j2; exact Or.inr j2
          · exact Or.inl (Or.inr ⟨j, j0, by omega, j2⟩)
      · rintro ((y | ⟨j, j0, j1, j2⟩) | y)
        · exact Or.inl y
        · exact Or.inr ⟨j, j0, by omega, j2⟩
        · exact Or.inr ⟨i, i0, by omega, y⟩
    have at238 : ∀ (v : Int) (w12 : Option dm_V), (v = 0 ∨ v = 1) → (v = 1 ↔ grw kd (ocH h 175) u.2.2.2.1 u.2.1 k ∧ i = w - 1) → ∃ hd' is'' w11' w12'', dL (d - 1) 235 238 [lR 1 11 165, lI p, lI F, lI R, lI hd_, lI is, lI k, w7, w8, lI r, w10, lI i, w12, w13, w14] [dI v] h = dL (d - 1) 235 869 [lR 1 11 165, lI p, lI F, lI R, lI hd', lI is'', lI k, w7, w8, lI r, w10, w11', w12'', w13, w14] [] h ∧ (is'' = 0 ∨ is'' = 1) ∧ (is'' = 1 ↔ P ∨ ∃ j, 0 ≤ j ∧ j < w ∧ ¬ (grw kd (ocH h 175) u.2.2.2.1 u.2.1 k ∧ j = w - 1) ∧ isn (dm_or F R) (lq h p k (3 + j)) = 1) ∧ ∀ q : Int → Prop, bst hd_ (fun s => q s ∨ ∃ j, 0 ≤ j ∧ j < i ∧ slot (lq h p k (3 + j)) = s) → bst hd' (fun s => q s ∨ ∃ j, 0 ≤ j ∧ j < w ∧ slot (lq h p k (3 + j)) = s) := by
      intro v w12 v01 hv
      rw [b235_238]
      rcases i01 with rfl | rfl
      · rw [if_pos rfl]
        rcases v01 with rfl | rfl
        · rw [if_pos rfl, ck_p (by omega) (by omega), s181 (by omega) p k (3 + i) h hp (by omega) (by omega), bk_v, b235_264, s237 (by omega) _ _ h hti, bk_v, b235_267]
          have hno : ¬ (grw kd (ocH h 175) u.2.2.2.1 u.2.1 k ∧ i = w - 1) := fun y => by have := hv.mpr y; omega
          rcases isn_01 (dm_or F R) (lq h p k (3 + i)) with q | q
          · rw [if_pos q, b235_274]
            exact fin 0 _ (Or.inl rfl) ⟨fun y => by omega, fun y => y.elim (fun z => by omega) (fun z => by omega)⟩
          · rw [if_neg (by omega), b235_270]
            exact fin 1 _ (Or.inr rfl) ⟨fun _ => Or.inr ⟨hno, q⟩, fun _ => rfl⟩
        · rw [if_neg (by decide), b235_274]
          exact fin 0 _ (Or.inl rfl) ⟨fun y => by omega, fun y => y.elim (fun z => by omega) (fun z => absurd (hv.mp rfl) z.1)⟩
      · rw [if_neg (by decide), b235_270]
        exact fin 1 _ (Or.inr rfl) ⟨fun _ => Or.inl rfl, fun _ => rfl⟩
    rw [b235_197, ix_p hr.1 hr.2, ew, if_pos (by omega), g1, bk_v, b235_216]
    rcases g2 with rfl | rfl
    · rw [if_pos rfl, b235_237]
      exact at238 0 _ (Or.inl rfl) ⟨fun y => by omega, fun y => by have := g3.mpr y.1; omega⟩
    · rw [if_neg (by decide), ix_p hr.1 hr.2, ew, ck_p (by omega) (by omega)]
      by_cases z : i = w - 1
      · rw [if_pos z]
        exact at238 1 _ (Or.inr rfl) ⟨fun _ => ⟨g3.mp rfl, z⟩, fun _ => rfl⟩
      · rw [if_neg z, b235_237]
        exact at238 0 _ (Or.inl rfl) ⟨fun y => by omega, fun y => absurd y.2 z⟩
/-- what is known behind k literals -/
def SI (kd : Int → Int) (oc : Int → Int → Prop) (u : mU) (k is F R hd_ : Int) : Prop := (is = 0 ∨ is = 1) ∧ (is = 0 → (∀ l, 0 ≤ l → l < k → gud kd oc u.2.2.2.1 u.2.1 l) ∧ bst F (fun s => crs kd oc u.2.2.2.1 u.2.1 k.toNat s = -1) ∧ bst R (fun s => crs kd oc u.2.2.2.1 u.2.1 k.toNat s = 1) ∧ bst hd_ (avr u.2.2.2.1 k)) ∧ (is = 1 → ∃ l, 0 ≤ l ∧ l < u.2.2.2.2 ∧ ¬ gud kd oc u.2.2.2.1 u.2.1 l)
theorem SI_bad {oc : Int → Int → Prop} {k k' is F R hd_ F' R' hd' is' : Int} (S : SI kd oc u k is F R hd_) (h1 : is = 1) (h2 : is' = 1) : SI kd oc u k' is' F' R' hd' := ⟨Or.inr h2, fun q => by omega, fun _ => S.2.2 h1⟩
theorem lit_atom {d : Nat} (hd : 5 ≤ d) (V : UR cl kd u p h) (hu : HSu u) (hk : ∀ r, gi h 167 r = kd r) (hkd : ∀ r, 0 ≤ r → r < 6 → 0 ≤ kd r ∧ kd r ≤ 2) (s : st6 h 175) {n : Int} (hL : ∀ k, 0 ≤ k → k < u.2.2.2.2 → LSH cl n u.2.2.2.1 k) {k : Int} (k0 : 0 ≤ k) (k1 : k < u.2.2.2.2) (ha : u.2.2.2.1.1 k = 0 ∨ u.2.2.2.1.1 k = 1) {is F R hd_ : Int} (S : SI kd (ocH h 175) u k is F R hd_) (w7 w8 w9 w10 w11 w12 w13 w14 : Option dm_V) :
    ∃ is' F' R' hd' w9' w10' w11' w12', dL (d - 1) 235 62 [lR 1 11 165, lI p, lI F, lI R, lI hd_, lI is, lI k, w7, w8, w9, w10, w11, w12, w13, w14] [dI (lq h p k 1)] h = dL (d - 1) 235 869 [lR 1 11 165, lI p, lI F', lI R', lI hd', lI is', lI k, w7, w8, w9', w10', w11', w12', w13, w14] [] h ∧ SI kd (ocH h 175) u (k + 1) is' F' R' hd' := by
  obtain ⟨l1, l2, -⟩ := UR_lit V k0 k1
  obtain ⟨m1, m2, m3⟩ := UR_trm V k0 k1
  have hal := l1.mpr ha
  have er := (l2 hal).1
  have hq := hu.2.2 k k0 k1 ha
  have hN := hu.2.1
  have ew := m3 ha
  have hp := V.1
  have L := hL k k0 k1
  have hw := LSH_w L
  have htt : ∀ i, 0 ≤ i → i < 3 → lq h p k (3 + i) = u.2.2.2.1.2.2.2 k i := fun i i0 i1 => m1 i i0 i1 (fun z => by omega)
  have hti : ∀ i, 0 ≤ i → i < 3 → -1 ≤ u.2.2.2.1.2.2.2 k i ∧ u.2.2.2.1.2.2.2 k i ≤ 107 := by
    rcases L with ⟨_, _, _, _, q, _⟩ | ⟨q, _⟩ | ⟨q, _⟩
    · exact q
    · omega
    · omega
  have ht : ∀ i, 0 ≤ i → i < 3 → -1 ≤ lq h p k (3 + i) ∧ lq h p k (3 + i) ≤ 107 := fun i i0 i1 => by rw [htt i i0 i1]; exact hti i i0 i1
  obtain ⟨g, g1, g2, g3⟩ := s236 (d := d - 1) (by omega) V hu hk s k0 k1 hal
  have hwd : ∀ j : Int, 0 ≤ j → j < k.toNat → u.2.2.2.1.1 j = 0 → 1 ≤ u.2.2.2.1.2.2.1 j := fun j j0 j1 _ => (LSH_w (hL j j0 (by omega))).1
  have ev : lq h p k (2 + u.2.2.2.1.2.2.1 k) = u.2.2.2.1.2.2.2 k (u.2.2.2.1.2.2.1 k - 1) := by
    rw [← htt _ (by omega) (by omega)]
    congr 1
    omega
  have hvr := hti (u.2.2.2.1.2.2.1 k - 1) (by omega) (by omega)
  have hav : ∀ hd' : Int, bst hd' (fun s => avr u.2.2.2.1 k s ∨ ∃ j, 0 ≤ j ∧ j < u.2.2.2.1.2.2.1 k ∧ slot (lq h p k (3 + j)) = s) → bst hd' (avr u.2.2.2.1 (k + 1)) := by
    intro hd' B
    refine bst_c B (fun s _ _ => ?_)
    rw [avr_s k0]
    constructor
    · rintro (y | ⟨j, j0, j1, j2⟩ | ⟨y, _⟩)
      · exact Or.inl y
      · exact Or.inr ⟨j, j0, j1, by rw [htt j j0 (by omega)]; exact j2⟩
      · omega
    · rintro (y | ⟨j, j0, j1, j2⟩)
      · exact Or.inl y
      · exact Or.inr (Or.inl ⟨j, j0, j1, by rw [← htt j j0 (by omega)]; exact j2⟩)
  have gudN : ¬ grw kd (ocH h 175) u.2.2.2.1 u.2.1 k → (gud kd (ocH h 175) u.2.2.2.1 u.2.1 k ↔ ∀ i, 0 ≤ i → i < u.2.2.2.1.2.2.1 k → coT (crs kd (ocH h 175) u.2.2.2.1 u.2.1 k.toNat) (u.2.2.2.1.2.2.2 k i) = 0) := by
    intro hn
    exact ⟨fun g => g.2.1 ha hn, fun g => ⟨fun z => absurd z hn, fun _ _ => g, fun z => by omega, fun z => by omega⟩⟩
  have gudG : grw kd (ocH h 175) u.2.2.2.1 u.2.1 k → (gud kd (ocH h 175) u.2.2.2.1 u.2.1 k ↔ (∀ i, 0 ≤ i → i < u.2.2.2.1.2.2.1 k - 1 → coT (crs kd (ocH h 175) u.2.2.2.1 u.2.1 k.toNat) (u.2.2.2.1.2.2.2 k i) = 0) ∧ (slot (u.2.2.2.1.2.2.2 k (u.2.2.2.1.2.2.1 k - 1)) = -1 → u.2.2.2.1.2.2.2 k (u.2.2.2.1.2.2.1 k - 1) = -1) ∧ (slot (u.2.2.2.1.2.2.2 k (u.2.2.2.1.2.2.1 k - 1)) ≠ -1 → ¬ avr u.2.2.2.1 k (slot (u.2.2.2.1.2.2.2 k (u.2.2.2.1.2.2.1 k - 1))) ∧ ∀ i, 0 ≤ i → i < u.2.2.2.1.2.2.1 k - 1 → slot (u.2.2.2.1.2.2.2 k i) ≠ slot (u.2.2.2.1.2.2.2 k (u.2.2.2.1.2.2.1 k - 1)))) := by
    intro hg
    exact ⟨fun g => g.1 hg, fun g => ⟨fun _ => g, fun _ z => absurd hg z, fun z => by omega, fun z => by omega⟩⟩
  rw [b235_62, er, ix_p hq.1 hq.2, ew, ck_p (by omega) (by omega), s181 (by omega) p k _ h hp (by omega) (by omega), bk_v, b235_80, g1, bk_v, ev]
  rcases g2 with rfl | rfl
  · -- not growing
    have hng : ¬ grw kd (ocH h 175) u.2.2.2.1 u.2.1 k := fun y => by have := g3.mpr y; omega
    rw [b235_89, if_pos rfl, b235_194]
    obtain ⟨hd', is', w11', w12', t1, t2, t3, t4⟩ := a_cols hd V hu hk s k0 k1 hal hq ew hw ht (F := F) (R := R) w7 w8 (lI (u.2.2.2.1.2.2.2 k (u.2.2.2.1.2.2.1 k - 1))) w13 w14 (u.2.2.2.1.2.2.1 k).toNat 0 hd_ is (is = 1) w12 (by omega) (by omega) S.1 ⟨Or.inl, fun y => y.elim id (fun ⟨j, j0, j1, _⟩ => by omega)⟩
    refine ⟨is', F, R, hd', _, _, _, _, t1, ?_⟩
    rcases S.1 with i0 | i1
    · obtain ⟨s1, s2, s3, s4⟩ := S.2.1 i0
      have hc : ∀ i, 0 ≤ i → i < u.2.2.2.1.2.2.1 k → (isn (dm_or F R) (lq h p k (3 + i)) = 1 ↔ coT (crs kd (ocH h 175) u.2.2.2.1 u.2.1 k.toNat) (u.2.2.2.1.2.2.2 k i) ≠ 0) := by
        intro i i0 i1
        rw [htt i i0 (by omega), (isn_c s2 s3 (crs_r k.toNat) (hti i i0 (by omega)).2).2.2]
        split <;> omega
      refine ⟨t2, fun q => ?_, fun q => ?_⟩
      · have hz : ∀ i, 0 ≤ i → i < u.2.2.2.1.2.2.1 k → coT (crs kd (ocH h 175) u.2.2.2.1 u.2.1 k.toNat) (u.2.2.2.1.2.2.2 k i) = 0 := by
          intro i i0 i1
          by_cases y : coT (crs kd (ocH h 175) u.2.2.2.1 u.2.1 k.toNat) (u.2.2.2.1.2.2.2 k i) = 0
          · exact y
          · have := t3.mpr (Or.inr ⟨i, i0, i1, fun w => hng w.1, (hc i i0 i1).mpr y⟩)
            omega
        have ec := crs_atom k0 hng (show u.2.2.2.1.1 k ≠ 3 by omega)
        rw [ec]
        refine ⟨fun l l0 l1 => ?_, s2, s3, hav hd' (t4 (avr u.2.2.2.1 k) (bst_c s4 (fun s _ _ => ⟨fun y => y.resolve_right (fun ⟨j, j0, j1, _⟩ => by omega), Or.inl⟩)))⟩
        by_cases e : l = k
        · rw [e]; exact (gudN hng).mpr hz
        · exact s1 l l0 (by omega)
      · rcases t3.mp q with y | ⟨j, j0, j1, j2, j3⟩
        · omega
        · exact ⟨k, k0, k1, fun y => (hc j j0 j1).mp j3 ((gudN hng).mp y j j0 j1)⟩
    · exact SI_bad S i1 (t3.mpr (Or.inl i1))
  · -- growing
    have hg := g3.mp rfl
    have hkd0 : kd (u.2.2.2.1.2.1 k) ≠ 0 := hg.2.1
    have hkr := hkd _ hq.1 hq.2
    have hk12 : kd (u.2.2.2.1.2.1 k) = 1 ∨ kd (u.2.2.2.1.2.1 k) = 2 := by clear g3; omega
    rw [a_val (by omega) hq hvr, b235_194, hk]
    obtain ⟨hd', is', w11', w12', t1, t2, t3, t4⟩ := a_cols hd V hu hk s k0 k1 hal hq ew hw ht (F := dm_or F (if kd (u.2.2.2.1.2.1 k) = 1 then bitO (u.2.2.2.1.2.2.2 k (u.2.2.2.1.2.2.1 k - 1)) else 0)) (R := dm_or R (if kd (u.2.2.2.1.2.1 k) = 2 then bitO (u.2.2.2.1.2.2.2 k (u.2.2.2.1.2.2.1 k - 1)) else 0)) w7 w8 (lI (u.2.2.2.1.2.2.2 k (u.2.2.2.1.2.2.1 k - 1))) w13 w14 (u.2.2.2.1.2.2.1 k).toNat 0 hd_ (gis hd_ (u.2.2.2.1.2.2.2 k (u.2.2.2.1.2.2.1 k - 1)) is) (gis hd_ (u.2.2.2.1.2.2.2 k (u.2.2.2.1.2.2.1 k - 1)) is = 1) w12 (by omega) (by omega) (by
      unfold gis
      have := isn_01 hd_ (u.2.2.2.1.2.2.2 k (u.2.2.2.1.2.2.1 k - 1))
      repeat' split
      all_goals omega) ⟨Or.inl, fun y => y.elim id (fun ⟨j, j0, j1, _⟩ => by omega)⟩
    refine ⟨is', _, _, hd', _, _, _, _, t1, ?_⟩
    rcases S.1 with i0 | i1
    · obtain ⟨s1, s2, s3, s4⟩ := S.2.1 i0
      -- the sets with the value
      have hF : bst (dm_or F (if kd (u.2.2.2.1.2.1 k) = 1 then bitO (u.2.2.2.1.2.2.2 k (u.2.2.2.1.2.2.1 k - 1)) else 0)) (fun s => crs kd (ocH h 175) u.2.2.2.1 u.2.1 k.toNat s = -1 ∨ (kd (u.2.2.2.1.2.1 k) = 1 ∧ slot (u.2.2.2.1.2.2.2 k (u.2.2.2.1.2.2.1 k - 1)) = s)) := by
        refine bst_or s2 (q := fun s => kd (u.2.2.2.1.2.1 k) = 1 ∧ slot (u.2.2.2.1.2.2.2 k (u.2.2.2.1.2.2.1 k - 1)) = s) ?_ (fun s _ _ => Iff.rfl)
        by_cases y : kd (u.2.2.2.1.2.1 k) = 1
        · rw [if_pos y]; exact bst_c (bst_b _) (fun s _ _ => ⟨fun z => z.2, fun z => ⟨y, z⟩⟩)
        · rw [if_neg y]; exact bst_0 (fun s _ _ z => y z.1)
      have hR : bst (dm_or R (if kd (u.2.2.2.1.2.1 k) = 2 then bitO (u.2.2.2.1.2.2.2 k (u.2.2.2.1.2.2.1 k - 1)) else 0)) (fun s => crs kd (ocH h 175) u.2.2.2.1 u.2.1 k.toNat s = 1 ∨ (kd (u.2.2.2.1.2.1 k) = 2 ∧ slot (u.2.2.2.1.2.2.2 k (u.2.2.2.1.2.2.1 k - 1)) = s)) := by
        refine bst_or s3 (q := fun s => kd (u.2.2.2.1.2.1 k) = 2 ∧ slot (u.2.2.2.1.2.2.2 k (u.2.2.2.1.2.2.1 k - 1)) = s) ?_ (fun s _ _ => Iff.rfl)
        by_cases y : kd (u.2.2.2.1.2.1 k) = 2
        · rw [if_pos y]; exact bst_c (bst_b _) (fun s _ _ => ⟨fun z => z.2, fun z => ⟨y, z⟩⟩)
        · rw [if_neg y]; exact bst_0 (fun s _ _ z => y z.1)
      have hFR := bst_or (r := fun s => crs kd (ocH h 175) u.2.2.2.1 u.2.1 k.toNat s ≠ 0 ∨ slot (u.2.2.2.1.2.2.2 k (u.2.2.2.1.2.2.1 k - 1)) = s) hF hR (fun s _ _ => by
        have cr := crs_r (kd := kd) (oc := ocH h 175) (ρ := u.2.2.2.1) (hdr := u.2.1) k.toNat s
        constructor
        · rintro (y | y)
          · rcases cr with c | c | c
            · exact Or.inl (Or.inl c)
            · exact absurd c y
            · exact Or.inr (Or.inl c)
          · rcases hk12 with c | c
            · exact Or.inl (Or.inr ⟨c, y⟩)
            · exact Or.inr (Or.inr ⟨c, y⟩)
        · rintro ((y | y) | (y | y))
          · left; omega
          · exact Or.inr y.2
          · left; omega
          · exact Or.inr y.2)
      have hc : ∀ i, 0 ≤ i → i < u.2.2.2.1.2.2.1 k → (isn (dm_or (dm_or F (if kd (u.2.2.2.1.2.1 k) = 1 then bitO (u.2.2.2.1.2.2.2 k (u.2.2.2.1.2.2.1 k - 1)) else 0)) (dm_or R (if kd (u.2.2.2.1.2.1 k) = 2 then bitO (u.2.2.2.1.2.2.2 k (u.2.2.2.1.2.2.1 k - 1)) else 0))) (lq h p k (3 + i)) = 1 ↔ coT (crs kd (ocH h 175) u.2.2.2.1 u.2.1 k.toNat) (u.2.2.2.1.2.2.2 k i) ≠ 0 ∨ (slot (u.2.2.2.1.2.2.2 k i) ≠ -1 ∧ slot (u.2.2.2.1.2.2.2 k i) = slot (u.2.2.2.1.2.2.2 k (u.2.2.2.1.2.2.1 k - 1)))) := by
        intro i i0 i1
        rw [htt i i0 (by omega), isn_b hFR (hti i i0 (by omega)).2]
        unfold coT
        by_cases z : slot (u.2.2.2.1.2.2.2 k i) = -1
        · rw [if_pos z]
          exact ⟨fun y => absurd z y.1, fun y => y.elim (fun w => absurd rfl w) (fun w => absurd z w.1)⟩
        · rw [if_neg z]
          constructor
          · rintro ⟨_, y | y⟩
            · exact Or.inl y
            · exact Or.inr ⟨z, y.symm⟩
          · rintro (y | y)
            · exact ⟨z, Or.inl y⟩
            · exact ⟨z, Or.inr y.2.symm⟩
      -- what the value alone brings
      have hv : gis hd_ (u.2.2.2.1.2.2.2 k (u.2.2.2.1.2.2.1 k - 1)) is = 1 ↔ ¬ ((slot (u.2.2.2.1.2.2.2 k (u.2.2.2.1.2.2.1 k - 1)) = -1 → u.2.2.2.1.2.2.2 k (u.2.2.2.1.2.2.1 k - 1) = -1) ∧ (slot (u.2.2.2.1.2.2.2 k (u.2.2.2.1.2.2.1 k - 1)) ≠ -1 → ¬ avr u.2.2.2.1 k (slot (u.2.2.2.1.2.2.2 k (u.2.2.2.1.2.2.1 k - 1))))) := by
        unfold gis
        rw [if_pos i0]
        by_cases z1 : u.2.2.2.1.2.2.2 k (u.2.2.2.1.2.2.1 k - 1) = -1
        · rw [if_pos z1]
          have : slot (u.2.2.2.1.2.2.2 k (u.2.2.2.1.2.2.1 k - 1)) = -1 := slot_lt (by omega)
          exact ⟨fun y => by omega, fun y => absurd ⟨fun _ => z1, fun w => absurd this w⟩ y⟩
        rw [if_neg z1]
        by_cases z2 : u.2.2.2.1.2.2.2 k (u.2.2.2.1.2.2.1 k - 1) < 100
        · rw [if_pos z2]
          have : slot (u.2.2.2.1.2.2.2 k (u.2.2.2.1.2.2.1 k - 1)) = -1 := slot_lt z2
          exact ⟨fun _ y => z1 (y.1 this), fun _ => rfl⟩
        · rw [if_neg z2, isn_b s4 hvr.2]
          have es := slot_v (t := u.2.2.2.1.2.2.2 k (u.2.2.2.1.2.2.1 k - 1)) ⟨by omega, hvr.2⟩
          constructor
          · rintro ⟨a1, a2⟩ ⟨_, b2⟩
            exact b2 a1 a2
          · intro y
            refine ⟨by omega, ?_⟩
            by_cases w : avr u.2.2.2.1 k (slot (u.2.2.2.1.2.2.2 k (u.2.2.2.1.2.2.1 k - 1)))
            · exact w
            · exact absurd ⟨fun q => by omega, fun _ => w⟩ y
      have hgud : gud kd (ocH h 175) u.2.2.2.1 u.2.1 k ↔ ¬ is' = 1 := by
        rw [gudG hg, t3, hv]
        constructor
        · rintro ⟨a1, a2, a3⟩ (y | ⟨j, j0, j1, j2, j3⟩)
          · exact y ⟨a2, fun w => (a3 w).1⟩
          · rcases (hc j j0 j1).mp j3 with y | y
            · by_cases e : j = u.2.2.2.1.2.2.1 k - 1
              · exact j2 ⟨hg, e⟩
              · exact y (a1 j j0 (by omega))
            · by_cases e : j = u.2.2.2.1.2.2.1 k - 1
              · exact j2 ⟨hg, e⟩
              · exact (a3 (by rw [← y.2]; exact y.1)).2 j j0 (by omega) y.2
        · intro y
          have y1 : (slot (u.2.2.2.1.2.2.2 k (u.2.2.2.1.2.2.1 k - 1)) = -1 → u.2.2.2.1.2.2.2 k (u.2.2.2.1.2.2.1 k - 1) = -1) ∧ (slot (u.2.2.2.1.2.2.2 k (u.2.2.2.1.2.2.1 k - 1)) ≠ -1 → ¬ avr u.2.2.2.1 k (slot (u.2.2.2.1.2.2.2 k (u.2.2.2.1.2.2.1 k - 1)))) := by
            by_cases w : (slot (u.2.2.2.1.2.2.2 k (u.2.2.2.1.2.2.1 k - 1)) = -1 → u.2.2.2.1.2.2.2 k (u.2.2.2.1.2.2.1 k - 1) = -1) ∧ (slot (u.2.2.2.1.2.2.2 k (u.2.2.2.1.2.2.1 k - 1)) ≠ -1 → ¬ avr u.2.2.2.1 k (slot (u.2.2.2.1.2.2.2 k (u.2.2.2.1.2.2.1 k - 1))))
            · exact w
            · exact absurd (Or.inl w) y
          have y2 : ∀ i, 0 ≤ i → i < u.2.2.2.1.2.2.1 k - 1 → ¬ (coT (crs kd (ocH h 175) u.2.2.2.1 u.2.1 k.toNat) (u.2.2.2.1.2.2.2 k i) ≠ 0 ∨ (slot (u.2.2.2.1.2.2.2 k i) ≠ -1 ∧ slot (u.2.2.2.1.2.2.2 k i) = slot (u.2.2.2.1.2.2.2 k (u.2.2.2.1.2.2.1 k - 1)))) := by
            intro i i0 i1 w
            exact y (Or.inr ⟨i, i0, by omega, fun v => by omega, (hc i i0 (by omega)).mpr w⟩)
          refine ⟨fun i i0 i1 => ?_, y1.1, fun w => ⟨y1.2 w, fun i i0 i1 e => y2 i i0 i1 (Or.inr ⟨by rw [e]; exact w, e⟩)⟩⟩
          by_cases v : coT (crs kd (ocH h 175) u.2.2.2.1 u.2.1 k.toNat) (u.2.2.2.1.2.2.2 k i) = 0
          · exact v
          · exact absurd (Or.inl v) (y2 i i0 i1)
      refine ⟨t2, fun q => ?_, fun q => ⟨k, k0, k1, fun y => hgud.mp y q⟩⟩
      have hgd := hgud.mpr (by omega)
      obtain ⟨b1, b2, b3⟩ := (gudG hg).mp hgd
      have ec := crs_grw k0 hg
      rw [ec]
      refine ⟨fun l l0 l1 => ?_, ?_, ?_, hav hd' (t4 (avr u.2.2.2.1 k) (bst_c s4 (fun s _ _ => ⟨fun y => y.resolve_right (fun ⟨j, j0, j1, _⟩ => by omega), Or.inl⟩)))⟩
      · by_cases e : l = k
        · rw [e]; exact hgd
        · exact s1 l l0 (by omega)
      all_goals
        by_cases z : slot (u.2.2.2.1.2.2.2 k (u.2.2.2.1.2.2.1 k - 1)) = -1
        · rw [if_pos z]
          first
            | exact bst_c hF (fun s s0 _ => ⟨Or.inl, fun y => y.resolve_right (fun w => by omega)⟩)
            | exact bst_c hR (fun s s0 _ => ⟨Or.inl, fun y => y.resolve_right (fun w => by omega)⟩)
        · rw [if_neg z]
          have c0 : crs kd (ocH h 175) u.2.2.2.1 u.2.1 k.toNat (slot (u.2.2.2.1.2.2.2 k (u.2.2.2.1.2.2.1 k - 1))) = 0 := by
            by_cases w : crs kd (ocH h 175) u.2.2.2.1 u.2.1 k.toNat (slot (u.2.2.2.1.2.2.2 k (u.2.2.2.1.2.2.1 k - 1))) = 0
            · exact w
            · have := crs_avr k.toNat _ hwd w
              rw [show (k.toNat : Int) = k by omega] at this
              exact absurd this (b3 z).1
          first
            | refine bst_c hF (fun s s0 _ => ?_)
              unfold upd1
              by_cases w : s = slot (u.2.2.2.1.2.2.2 k (u.2.2.2.1.2.2.1 k - 1))
              · rw [if_pos w, w, c0]
                constructor
                · intro y
                  refine Or.inr ⟨?_, rfl⟩
                  by_cases v : kd (u.2.2.2.1.2.1 k) = 1
                  · exact v
                  · rw [if_neg v] at y; omega
                · rintro (y | y)
                  · omega
                  · rw [if_pos y.1]
              · rw [if_neg w]
                exact ⟨Or.inl, fun y => y.resolve_right (fun v => w v.2.symm)⟩
            | refine bst_c hR (fun s s0 _ => ?_)
              unfold upd1
              by_cases w : s = slot (u.2.2.2.1.2.2.2 k (u.2.2.2.1.2.2.1 k - 1))
              · rw [if_pos w, w, c0]
                constructor
                · intro y
                  refine Or.inr ⟨?_, rfl⟩
                  by_cases v : kd (u.2.2.2.1.2.1 k) = 1
                  · rw [if_pos v] at y; omega
                  · omega
                · rintro (y | y)
                  · omega
                  · rw [if_neg (by omega)]
              · rw [if_neg w]
                exact ⟨Or.inl, fun y => y.resolve_right (fun v => w v.2.symm)⟩
    · refine SI_bad S i1 (t3.mpr (Or.inl ?_))
      unfold gis
      rw [if_neg (by omega)]
end RS3
