/-! LAYERLESS rules -/
section LYLC
variable {h : dm_H} {A : Nat}
theorem s111 {d : Nat} (hd : 2 ≤ d) (s : st6 h 6) (hN : 0 ≤ gi h A 4 ∧ gi h A 4 ≤ 4) (hr : gi h A 1 ≠ 3 → 0 ≤ gi h A 2 ∧ gi h A 2 < 6) (hs : ∀ k, 0 ≤ k → k < gi h A 4 → (gi h (A + 2) k = 0 ∨ gi h (A + 2) k = 1) → 0 ≤ gi h (A + 3) k ∧ gi h (A + 3) k < 6) : ∃ b, dF d 111 [dR 1 9 13, dR 1 8 A] h = rI b h ∧ (b = 0 ∨ b = 1) ∧ (b = 1 ↔ gi h A 1 ≠ 3 ∧ LYL (ocH h 6) (uR h A)) := by
  rw [f111 (by omega), b111_0]
  by_cases z3 : gi h A 1 = 3
  · rw [if_pos z3]
    exact ⟨0, rfl, Or.inl rfl, fun w => by omega, fun w => absurd z3 w.1⟩
  rw [if_neg z3]
  have loop : ∀ (m : Nat) (k : Int) (w3 : Option dm_V), 0 ≤ k → k + m = gi h A 4 → (∀ l, 0 ≤ l → l < k → ¬ ((gi h (A + 2) l = 0 ∨ gi h (A + 2) l = 1) ∧ (gi h A 1 ≠ 0 ∨ gi h (A + 2) l = 1) ∧ ocH h 6 (gi h A 2) (gi h (A + 3) l))) → ∃ b, dL (d - 1) 111 12 [lR 1 9 13, lR 1 8 A, lI k, w3] [] h = rI b h ∧ (b = 0 ∨ b = 1) ∧ (b = 1 ↔ gi h A 1 ≠ 3 ∧ LYL (ocH h 6) (uR h A)) := by
    intro m
    induction m with
    | zero =>
      intro k w3 k0 km no
      rw [b111_12, if_neg (by omega)]
      refine ⟨0, rfl, Or.inl rfl, fun w => by omega, fun ⟨_, l, l0, l1, l2, l3, l4⟩ => ?_⟩
      have l1 : l < gi h A 4 := l1
      exact absurd ⟨l2, l3, l4⟩ (no l l0 (by omega))
    | succ m ih =>
      intro k w3 k0 km no
      have hk : 0 ≤ k ∧ k < 4 := by omega
      have hnext : ∀ w3', ¬ ((gi h (A + 2) k = 0 ∨ gi h (A + 2) k = 1) ∧ (gi h A 1 ≠ 0 ∨ gi h (A + 2) k = 1) ∧ ocH h 6 (gi h A 2) (gi h (A + 3) k)) → ∃ b, dL (d - 1) 111 77 [lR 1 9 13, lR 1 8 A, lI k, w3'] [] h = rI b h ∧ (b = 0 ∨ b = 1) ∧ (b = 1 ↔ gi h A 1 ≠ 3 ∧ LYL (ocH h 6) (uR h A)) := by
        intro w3' hno
        rw [b111_77, ck_p (by omega) (by omega)]
        refine ih (k + 1) _ (by omega) (by omega) (fun l l0 l1 => ?_)
        by_cases y : l = k
        · rw [y]; exact hno
        · exact no l l0 (by omega)
      have go : ∀ f, (f = 0 ∨ f = 1) → (f = 1 ↔ gi h A 1 ≠ 0 ∨ gi h (A + 2) k = 1) → ∃ b, dL (d - 1) 111 42 [lR 1 9 13, lR 1 8 A, lI k, w3] [dI f] h = rI b h ∧ (b = 0 ∨ b = 1) ∧ (b = 1 ↔ gi h A 1 ≠ 3 ∧ LYL (ocH h 6) (uR h A)) := by
        intro f f01 hf
        rw [b111_42, s39 (by omega) A k h hk, bk_v, b111_48]
        by_cases za : gi h (A + 2) k = 0 ∨ gi h (A + 2) k = 1
        · obtain ⟨q0, q1⟩ := hs k k0 (by omega) za
          obtain ⟨p0, p1⟩ := hr z3
          rw [bi_1 za, if_neg (by decide)]
          by_cases zf : f = 0
          · rw [if_pos zf]
            exact hnext _ (fun w => by have := hf.mpr w.2.1; omega)
          · obtain ⟨b, x1, x2, x3⟩ := s112b (d := d - 1) (by omega) s ⟨p0, p1⟩ ⟨q0, q1⟩
            rw [if_neg zf, ix_p k0 hk.2, x1, bk_v, b111_72]
            rcases x2 with rfl | rfl
            · rw [if_pos rfl]
              exact hnext _ (fun w => by have := x3.mpr w.2.2; omega)
            · rw [if_neg (by decide)]
              exact ⟨1, rfl, Or.inr rfl, fun _ => ⟨z3, k, k0, by show k < gi h A 4; omega, za, hf.mp (by omega), x3.mp rfl⟩, fun _ => rfl⟩
        · rw [bi_0 za, if_pos rfl]
          exact hnext _ (fun w => za w.1)
      rw [b111_12, if_pos (by omega)]
      by_cases z0 : gi h A 1 = 0
      · rw [if_pos z0, ix_p k0 hk.2]
        by_cases z1 : gi h (A + 2) k = 1
        · rw [if_pos z1, b111_37]
          exact go 1 (Or.inr rfl) ⟨fun _ => Or.inr z1, fun _ => rfl⟩
        · rw [if_neg z1]
          exact go 0 (Or.inl rfl) ⟨fun w => by omega, fun w => w.elim (fun y => absurd z0 y) (fun y => absurd y z1)⟩
      · rw [if_neg z0, b111_37]
        exact go 1 (Or.inr rfl) ⟨fun _ => Or.inl z0, fun _ => rfl⟩
  exact loop (gi h A 4).toNat 0 none (by omega) (by omega) (fun l l0 l1 => by omega)
end LYLC
/-- what raw literals are beside that -/
def RX (h : dm_H) (p N : Int) : Prop := ∀ k, 0 ≤ k → k < N → (lq h p k 0 = 0 → lq h p k 2 = 0 ∨ lq h p k 2 = 1) ∧ (lq h p k 0 ≠ 0 → lq h p k 5 = 0)
section LYLR
variable {h : dm_H} {cl kd : Int → Int} {RL : mU → Prop} {U : Int → mU}
def lyP (h : dm_H) (U : Int → mU) (oc : Int → Int → Prop) (p k : Int) : Prop := ∃ i, (0 ≤ i ∧ i ≤ 10) ∧ gi h 174 i ≠ 0 ∧ gi h 172 (38 * i) ≠ 3 ∧ ∃ l, 0 ≤ l ∧ l < (U i).2.2.2.2 ∧ (i < p ∨ (i = p ∧ l < k)) ∧ ((U i).2.2.2.1.1 l = 0 ∨ (U i).2.2.2.1.1 l = 1) ∧ ((U i).1 ≠ 0 ∨ (U i).2.2.2.1.1 l = 1) ∧ oc (U i).2.1 ((U i).2.2.2.1.2.1 l)
theorem s233 {d : Nat} (hd : 3 ≤ d) (B : HBr cl kd RL U h) (hR : ∀ u, RL u → HSu u) (hX : ∀ p, 0 ≤ p → p ≤ 10 → gi h 174 p ≠ 0 → RX h p (gi h 172 (38 * p + 5))) (s : st6 h 175) : ∃ b, dF d 233 [dR 1 11 165] h = rI b h ∧ (b = 0 ∨ b = 1) ∧ (b = 1 ↔ ∃ u, RL u ∧ LYL (ocH h 175) u) := by
  have lits : ∀ (p : Int), 0 ≤ p → p ≤ 10 → ∀ (m : Nat) (k is : Int) (w4 : Option dm_V), 0 ≤ k → k + m = 5 → (is = 0 ∨ is = 1) → (is = 1 ↔ lyP h U (ocH h 175) p k) →
      ∃ is' w3' w4', dL (d - 1) 233 12 [lR 1 11 165, lI is, lI p, lI k, w4] [] h = dL (d - 1) 233 4 [lR 1 11 165, lI is', lI (p + 1), w3', w4'] [] h ∧ (is' = 0 ∨ is' = 1) ∧ (is' = 1 ↔ lyP h U (ocH h 175) (p + 1) 0) := by
    intro p p0 p1 m
    have stop : ∀ (k is : Int) (w4 : Option dm_V), (is = 0 ∨ is = 1) → (is = 1 ↔ lyP h U (ocH h 175) p k) → ¬ (k < gi h 172 (38 * p + 5) ∧ gi h 174 p ≠ 0 ∧ gi h 172 (38 * p) ≠ 3) → ∃ is' w3' w4', dL (d - 1) 233 118 [lR 1 11 165, lI is, lI p, lI k, w4] [] h = dL (d - 1) 233 4 [lR 1 11 165, lI is', lI (p + 1), w3', w4'] [] h ∧ (is' = 0 ∨ is' = 1) ∧ (is' = 1 ↔ lyP h U (ocH h 175) (p + 1) 0) := by
      intro k is w4 i01 hi hno
      rw [b233_118, ck_p (by omega) (by omega)]
      refine ⟨is, _, _, rfl, i01, ?_⟩
      rw [hi]
      constructor
      · rintro ⟨i, i0, i1, i2, l, l0, l1, l2, l3⟩
        exact ⟨i, i0, i1, i2, l, l0, l1, by omega, l3⟩
      · rintro ⟨i, i0, i1, i2, l, l0, l1, l2, l3⟩
        refine ⟨i, i0, i1, i2, l, l0, l1, ?_, l3⟩
        by_cases y : i = p
        · obtain ⟨a1, a2⟩ := B.1 i i0.1 i0.2 i1 i2
          have e5 := a2.2.2.2.2.1
          rw [y] at e5 i1 i2 l1
          refine Or.inr ⟨y, ?_⟩
          by_cases w : l < k
          · exact w
          · exact absurd ⟨by omega, i1, i2⟩ hno
        · omega
    induction m with
    | zero =>
      intro k is w4 k0 km i01 hi
      have hp : ¬ (k < gi h 172 (38 * p + 5) ∧ gi h 174 p ≠ 0 ∧ gi h 172 (38 * p) ≠ 3) := by
        rintro ⟨z1, z2, z3⟩
        obtain ⟨a1, a2⟩ := B.1 p p0 p1 z2 z3
        have := (hR _ a1).2.1
        rw [a2.2.2.2.2.1] at z1
        omega
      rw [b233_12, s179 (by omega) p 5 h (by omega) (by omega), bk_v, b233_19]
      by_cases z1 : k < gi h 172 (38 * p + 5)
      · rw [if_pos z1, ix_p p0 (by omega)]
        by_cases z2 : gi h 174 p = 0
        · rw [if_pos z2]; exact stop k is w4 i01 hi hp
        · rw [if_neg z2, s179 (by omega) p 0 h (by omega) (by omega), bk_v, b233_37, Int.add_zero]
          by_cases z3 : gi h 172 (38 * p) = 3
          · rw [if_pos z3]; exact stop k is w4 i01 hi hp
          · exact absurd ⟨z1, z2, z3⟩ hp
      · rw [if_neg z1]; exact stop k is w4 i01 hi hp
    | succ m ih =>
      intro k is w4 k0 km i01 hi
      rw [b233_12, s179 (by omega) p 5 h (by omega) (by omega), bk_v, b233_19]
      by_cases z1 : k < gi h 172 (38 * p + 5)
      case neg => rw [if_neg z1]; exact stop k is w4 i01 hi (fun w => z1 w.1)
      rw [if_pos z1, ix_p p0 (by omega)]
      by_cases z2 : gi h 174 p = 0
      · rw [if_pos z2]; exact stop k is w4 i01 hi (fun w => w.2.1 z2)
      rw [if_neg z2, s179 (by omega) p 0 h (by omega) (by omega), bk_v, b233_37, Int.add_zero]
      by_cases z3 : gi h 172 (38 * p) = 3
      · rw [if_pos z3]; exact stop k is w4 i01 hi (fun w => w.2.2 z3)
      obtain ⟨a1, a2⟩ := B.1 p p0 p1 z2 z3
      obtain ⟨s1, s2, s3⟩ := hR _ a1
      have kN : k < (U p).2.2.2.2 := by rw [← a2.2.2.2.2.1]; exact z1
      obtain ⟨l1, l2, -⟩ := UR_lit a2 k0 kN
      have hx := (hX p p0 p1 z2 k k0 z1).1
      have hh : gi h 172 (38 * p + 1) = (U p).2.1 := a2.2.2.1
      have hkd : gi h 172 (38 * p) = (U p).1 := a2.2.1
      -- one literal more
      have more : ∀ (js : Int) (w4' : Option dm_V), (js = 0 ∨ js = 1) → (js = 1 ↔ is = 1 ∨ (((U p).2.2.2.1.1 k = 0 ∨ (U p).2.2.2.1.1 k = 1) ∧ ((U p).1 ≠ 0 ∨ (U p).2.2.2.1.1 k = 1) ∧ ocH h 175 (U p).2.1 ((U p).2.2.2.1.2.1 k))) → ∃ is' w3'' w4'', dL (d - 1) 233 111 [lR 1 11 165, lI is, lI p, lI k, w4'] [dI js] h = dL (d - 1) 233 4 [lR 1 11 165, lI is', lI (p + 1), w3'', w4''] [] h ∧ (is' = 0 ∨ is' = 1) ∧ (is' = 1 ↔ lyP h U (ocH h 175) (p + 1) 0) := by
        intro js w4' j01 hj
        rw [b233_111, ck_p (by omega) (by omega)]
        refine ih (k + 1) js _ (by omega) (by omega) j01 ?_
        rw [hj, hi]
        constructor
        · rintro (⟨i, i0, i1, i2, l, l0, l1, l2, l3⟩ | ⟨y1, y2, y3⟩)
          · exact ⟨i, i0, i1, i2, l, l0, l1, by omega, l3⟩
          · exact ⟨p, ⟨p0, p1⟩, z2, z3, k, k0, kN, Or.inr ⟨rfl, by omega⟩, y1, y2, y3⟩
        · rintro ⟨i, i0, i1, i2, l, l0, l1, l2, l3⟩
          by_cases y : i = p ∧ l = k
          · obtain ⟨rfl, rfl⟩ := y
            exact Or.inr l3
          · refine Or.inl ⟨i, i0, i1, i2, l, l0, l1, ?_, l3⟩
            rcases l2 with w | ⟨w1, w2⟩
            · exact Or.inl w
            · have : l ≠ k := fun v => y ⟨w1, v⟩
              exact Or.inr ⟨w1, by omega⟩
      have at75 : ∀ f, (f = 0 ∨ f = 1) → (f = 1 ↔ ((U p).2.2.2.1.1 k = 0 ∨ (U p).2.2.2.1.1 k = 1) ∧ ((U p).1 ≠ 0 ∨ (U p).2.2.2.1.1 k = 1)) → ∃ is' w3'' w4'', dL (d - 1) 233 75 [lR 1 11 165, lI is, lI p, lI k, w4] [dI f] h = dL (d - 1) 233 4 [lR 1 11 165, lI is', lI (p + 1), w3'', w4''] [] h ∧ (is' = 0 ∨ is' = 1) ∧ (is' = 1 ↔ lyP h U (ocH h 175) (p + 1) 0) := by
        intro f f01 hf
        rw [b233_75]
        rcases i01 with rfl | rfl
        · rw [if_pos rfl]
          by_cases zf : f = 0
          · rw [if_pos zf, b233_110]
            exact more 0 _ (Or.inl rfl) ⟨fun w => by omega, fun w => w.elim (fun y => by omega) (fun y => by have := hf.mpr ⟨y.1, y.2.1⟩; omega)⟩
          · obtain ⟨y1, y2⟩ := hf.mp (by omega)
            have q := s3 k k0 kN y1
            have e1 := (l2 (l1.mpr y1)).1
            obtain ⟨b, x1, x2, x3⟩ := s184 (d := d - 1) (by omega) s q s1
            rw [if_neg zf, s181 (by omega) p k 1 h (by omega) (by omega) (by omega), bk_v, b233_94, s179 (by omega) p 1 h (by omega) (by omega), bk_v, b233_100, e1, hh, x1, bk_v, b233_103]
            rcases x2 with rfl | rfl
            · rw [if_pos rfl, b233_110]
              exact more 0 _ (Or.inl rfl) ⟨fun w => by omega, fun w => w.elim (fun y => by omega) (fun y => by have := x3.mpr (ocH_symm.mp y.2.2); omega)⟩
            · rw [if_neg (by decide), b233_106]
              exact more 1 _ (Or.inr rfl) ⟨fun _ => Or.inr ⟨y1, y2, ocH_symm.mp (x3.mp rfl)⟩, fun _ => rfl⟩
        · rw [if_neg (by decide), b233_106]
          exact more 1 _ (Or.inr rfl) ⟨fun _ => Or.inl rfl, fun _ => rfl⟩
      rw [if_neg z3, s180 (by omega) p k h (by omega) (by omega), bk_v, b233_47]
      by_cases za : lq h p k 0 = 0
      · obtain ⟨e1, e2⟩ := l2 za
        have hz := l1.mp za
        rw [bi_1 za, if_neg (by decide), s181 (by omega) p k 2 h (by omega) (by omega) (by omega), bk_v, b233_57]
        by_cases zn : lq h p k 2 = 1
        · rw [if_pos zn, b233_70]
          exact at75 1 (Or.inr rfl) ⟨fun _ => ⟨hz, Or.inr (by omega)⟩, fun _ => rfl⟩
        · have e0 := e2.mp (by have := hx za; omega)
          rw [if_neg zn, s179 (by omega) p 0 h (by omega) (by omega), bk_v, b233_67, Int.add_zero, hkd]
          by_cases zk : (U p).1 = 0
          · rw [if_pos zk, b233_74]
            exact at75 0 (Or.inl rfl) ⟨fun w => by omega, fun w => w.2.elim (fun y => absurd zk y) (fun y => by omega)⟩
          · rw [if_neg zk, b233_70]
            exact at75 1 (Or.inr rfl) ⟨fun _ => ⟨hz, Or.inl zk⟩, fun _ => rfl⟩
      · rw [bi_0 za, if_pos rfl, b233_74]
        exact at75 0 (Or.inl rfl) ⟨fun w => by omega, fun w => absurd (l1.mpr w.1) za⟩
  have places : ∀ (m : Nat) (p is : Int) (w3 w4 : Option dm_V), 0 ≤ p → p + m = 11 → (is = 0 ∨ is = 1) → (is = 1 ↔ lyP h U (ocH h 175) p 0) → ∃ b, dL (d - 1) 233 4 [lR 1 11 165, lI is, lI p, w3, w4] [] h = rI b h ∧ (b = 0 ∨ b = 1) ∧ (b = 1 ↔ lyP h U (ocH h 175) 11 0) := by
    intro m
    induction m with
    | zero =>
      intro p is w3 w4 p0 pm i01 hi
      rw [show p = 11 by omega] at hi
      rw [b233_4, if_pos (by omega), z1_p i01]
      exact ⟨is, rfl, i01, hi⟩
    | succ m ih =>
      intro p is w3 w4 p0 pm i01 hi
      obtain ⟨is', w3', w4', t1, t2, t3⟩ := lits p p0 (by omega) 5 0 is w4 (by omega) (by omega) i01 hi
      rw [b233_4, if_neg (by omega), t1]
      exact ih (p + 1) is' _ _ (by omega) (by omega) t2 t3
  rw [f233 (by omega), b233_0]
  obtain ⟨b, t1, t2, t3⟩ := places 11 0 0 none none (by omega) (by omega) (Or.inl rfl) ⟨fun w => by omega, fun ⟨i, i0, i1, i2, l, l0, l1, l2, l3⟩ => by omega⟩
  refine ⟨b, t1, t2, ?_⟩
  rw [t3]
  constructor
  · rintro ⟨i, i0, i1, i2, l, l0, l1, l2, l3⟩
    exact ⟨U i, (B.1 i i0.1 i0.2 i1 i2).1, l, l0, l1, l3⟩
  · rintro ⟨u, hu, l, l0, l1, l3⟩
    obtain ⟨i, i0, i1, i2, rfl⟩ := B.2 u hu
    exact ⟨i, i0, i1, i2, l, l0, l1, Or.inl (by omega), l3⟩
end LYLR
