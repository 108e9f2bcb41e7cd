/-! WHAT HANGS ON WHAT: the reference; circles; LAYERLESS -/
def ocH (h : dm_H) (a : Nat) (r q : Int) : Prop := r = q ∨ (bh h a r q ∧ bh h a q r)
theorem ocH_symm {h : dm_H} {a : Nat} {r q : Int} : ocH h a r q ↔ ocH h a q r := ⟨fun z => z.imp Eq.symm And.symm, fun z => z.imp Eq.symm And.symm⟩
/-- a rule by which there would be no layers -/
def LYL (oc : Int → Int → Prop) (u : mU) : Prop := ∃ k, 0 ≤ k ∧ k < u.2.2.2.2 ∧ (u.2.2.2.1.1 k = 0 ∨ u.2.2.2.1.1 k = 1) ∧ (u.1 ≠ 0 ∨ u.2.2.2.1.1 k = 1) ∧ oc u.2.1 (u.2.2.2.1.2.1 k)
/-- what rules have in any case -/
def HSu (u : mU) : Prop := (0 ≤ u.2.1 ∧ u.2.1 < 6) ∧ (0 ≤ u.2.2.2.2 ∧ u.2.2.2.2 ≤ 4) ∧ ∀ k, 0 ≤ k → k < u.2.2.2.2 → (u.2.2.2.1.1 k = 0 ∨ u.2.2.2.1.1 k = 1) → 0 ≤ u.2.2.2.1.2.1 k ∧ u.2.2.2.1.2.1 k < 6
theorem or_z {s : Int} (h : st 6 s) : dm_or s 0 = s := by
  refine bt_ext (k := 6) (by omega) (st_or (by omega) h (st_z 6)) h (fun j _ _ => ?_)
  rw [bt_or (by omega) h (st_z 6), bt_z, Bool.or_false]
/-- a literal as it lies there, and as it is meant -/
theorem UR_lit {cl kd : Int → Int} {u : mU} {p : Int} {h : dm_H} (U : UR cl kd u p h) {k : Int} (k0 : 0 ≤ k) (k1 : k < u.2.2.2.2) : (lq h p k 0 = 0 ↔ u.2.2.2.1.1 k = 0 ∨ u.2.2.2.1.1 k = 1) ∧ (lq h p k 0 = 0 → lq h p k 1 = u.2.2.2.1.2.1 k ∧ (lq h p k 2 = 0 ↔ u.2.2.2.1.1 k = 0)) ∧ (lq h p k 0 = 1 ↔ u.2.2.2.1.1 k = 2) ∧ (lq h p k 0 = 2 ↔ u.2.2.2.1.1 k = 3) ∧ (lq h p k 0 ≠ 0 → lq h p k 2 = u.2.2.2.1.2.1 k) := by
  obtain ⟨e1, e2, e3, e4⟩ := U.2.2.2.2.2.1 k k0 k1
  have F := U.2.2.2.2.2.2.1.2 k k0 k1
  have e1 : rsrt h p k = u.2.2.2.1.1 k := e1
  have e2 : rsbj h p k = u.2.2.2.1.2.1 k := e2
  unfold rsrt at e1
  unfold rsbj at e2
  rcases F with q | q | q
  · rw [if_pos q] at e1 e2
    by_cases z : lq h p k 2 = 0
    · rw [if_pos z] at e1
      exact ⟨by omega, fun _ => ⟨e2, by omega⟩, by omega, by omega, fun w => absurd q w⟩
    · rw [if_neg z] at e1
      exact ⟨by omega, fun _ => ⟨e2, by omega⟩, by omega, by omega, fun w => absurd q w⟩
  · rw [if_neg (by omega), if_pos q] at e1
    rw [if_neg (by omega)] at e2
    exact ⟨by omega, fun w => by omega, by omega, by omega, fun _ => e2⟩
  · rw [if_neg (by omega), if_neg (by omega)] at e1
    rw [if_neg (by omega)] at e2
    exact ⟨by omega, fun w => by omega, by omega, by omega, fun _ => e2⟩
section RHG
variable {h : dm_H} {cl kd : Int → Int} {RL : mU → Prop} {U : Int → mU}
/-- edges of the places below p, and of the first k literals of place p -/
def egP (h : dm_H) (U : Int → mU) (p k r q : Int) : Prop := ∃ i, (0 ≤ i ∧ i ≤ 10) ∧ gi h 174 i ≠ 0 ∧ gi h 172 (38 * i) ≠ 3 ∧ (U i).2.1 = r ∧ ∃ l, 0 ≤ l ∧ l < (U i).2.2.2.2 ∧ (i < p ∨ (i = p ∧ l < k)) ∧ ((U i).2.2.2.1.1 l = 0 ∨ (U i).2.2.2.1.1 l = 1) ∧ (U i).2.2.2.1.2.1 l = q
theorem s178 {d : Nat} (hd : 3 ≤ d) (B : HBr cl kd RL U h) (hR : ∀ u, RL u → HSu u) : ∃ h', dF d 178 [dR 1 11 165] h = rV h' ∧ (∀ a i, a ≠ 175 → gi h' a i = gi h a i) ∧ (∀ a i, gr h' a i = gr h a i) ∧ h'.2.2 = h.2.2 ∧ st6 h' 175 ∧ LT (eg RL) (bh h' 175) := by
  have clear : ∀ (m : Nat) (x : Int) (H : dm_H), 0 ≤ x → x + m = 6 → (∀ a i, a ≠ 175 → gi H a i = gi h a i) → (∀ a i, gr H a i = gr h a i) → H.2.2 = h.2.2 → (∀ r, 0 ≤ r → r < x → gi H 175 r = 0) →
      ∃ H', dL (d - 1) 178 2 [lR 1 11 165, lI x, none] [] H = dL (d - 1) 178 23 [lR 1 11 165, lI 0, none] [] H' ∧ (∀ a i, a ≠ 175 → gi H' a i = gi h a i) ∧ (∀ a i, gr H' a i = gr h a i) ∧ H'.2.2 = h.2.2 ∧ ∀ r, 0 ≤ r → r < 6 → gi H' 175 r = 0 := by
    intro m
    induction m with
    | zero =>
      intro x H x0 xm e1 e2 e3 Z
      rw [b178_2, if_neg (by omega)]
      exact ⟨H, rfl, e1, e2, e3, fun r r0 r1 => Z r r0 (by omega)⟩
    | succ m ih =>
      intro x H x0 xm e1 e2 e3 Z
      rw [b178_2, if_pos (by omega), ix_p x0 (by omega), ck_p (by omega) (by omega)]
      refine ih (x + 1) _ (by omega) (by omega) (fun a i ha => by rw [gi_sin ha]; exact e1 a i ha) (fun a i => e2 a i) e3 (fun r r0 r1 => ?_)
      by_cases z : r = x
      · rw [z, gi_sis]
      · rw [gi_sij z]; exact Z r r0 (by omega)
  have lits : ∀ (p : Int), 0 ≤ p → p ≤ 10 → ∀ (m : Nat) (k : Int) (H : dm_H), 0 ≤ k → k + m = 5 → (∀ a i, a ≠ 175 → gi H a i = gi h a i) → (∀ a i, gr H a i = gr h a i) → H.2.2 = h.2.2 → st6 H 175 → (∀ r q, bh H 175 r q ↔ egP h U p k r q) →
      ∃ H' w2, dL (d - 1) 178 31 [lR 1 11 165, lI p, lI k] [] H = dL (d - 1) 178 23 [lR 1 11 165, lI (p + 1), w2] [] H' ∧ (∀ a i, a ≠ 175 → gi H' a i = gi h a i) ∧ (∀ a i, gr H' a i = gr h a i) ∧ H'.2.2 = h.2.2 ∧ st6 H' 175 ∧ (∀ r q, bh H' 175 r q ↔ egP h U (p + 1) 0 r q) := by
    intro p p0 p1 m
    induction m with
    | zero =>
      intro k H k0 km e1 e2 e3 s E
      -- k = 5: never more literals than that
      have hp : ¬ (k < gi h 172 (38 * p + 5) ∧ gi h 174 p ≠ 0 ∧ gi h 172 (38 * p) ≠ 3) := by
        rintro ⟨z1, z2, z3⟩
        obtain ⟨a1, a2⟩ := B.1 p p0 p1 z2 z3
        have := (hR _ a1).2.1
        rw [a2.2.2.2.2.1] at z1
        omega
      have go : dL (d - 1) 178 31 [lR 1 11 165, lI p, lI k] [] H = dL (d - 1) 178 102 [lR 1 11 165, lI p, lI k] [] H := by
        rw [b178_31, s179 (by omega) p 5 H (by omega) (by omega), bk_v, b178_38, e1 172 _ (by decide)]
        by_cases z1 : k < gi h 172 (38 * p + 5)
        · rw [if_pos z1, ix_p p0 (by omega), e1 174 _ (by decide)]
          by_cases z2 : gi h 174 p = 0
          · rw [if_pos z2]
          · rw [if_neg z2, s179 (by omega) p 0 H (by omega) (by omega), bk_v, b178_56, Int.add_zero, e1 172 _ (by decide)]
            by_cases z3 : gi h 172 (38 * p) = 3
            · rw [if_pos z3]
            · exact absurd ⟨z1, z2, z3⟩ hp
        · rw [if_neg z1]
      rw [go, b178_102, ck_p (by omega) (by omega)]
      refine ⟨H, _, rfl, e1, e2, e3, s, fun r q => ?_⟩
      rw [E]
      constructor
      · rintro ⟨i, i0, i1, i2, i3, l, l0, l1, l2, l3⟩
        exact ⟨i, i0, i1, i2, i3, l, l0, l1, by omega, l3⟩
      · rintro ⟨i, i0, i1, i2, i3, l, l0, l1, l2, l3⟩
        refine ⟨i, i0, i1, i2, i3, l, l0, l1, ?_, l3⟩
        obtain ⟨a1, a2⟩ := B.1 i i0.1 i0.2 i1 i2
        have := (hR _ a1).2.1
        omega
    | succ m ih =>
      intro k H k0 km e1 e2 e3 s E
      rw [b178_31, s179 (by omega) p 5 H (by omega) (by omega), bk_v, b178_38, e1 172 _ (by decide)]
      have quit : ¬ (k < gi h 172 (38 * p + 5) ∧ gi h 174 p ≠ 0 ∧ gi h 172 (38 * p) ≠ 3) → ∃ H' w2, dL (d - 1) 178 102 [lR 1 11 165, lI p, lI k] [] H = dL (d - 1) 178 23 [lR 1 11 165, lI (p + 1), w2] [] H' ∧ (∀ a i, a ≠ 175 → gi H' a i = gi h a i) ∧ (∀ a i, gr H' a i = gr h a i) ∧ H'.2.2 = h.2.2 ∧ st6 H' 175 ∧ (∀ r q, bh H' 175 r q ↔ egP h U (p + 1) 0 r q) := by
        intro hno
        rw [b178_102, ck_p (by omega) (by omega)]
        refine ⟨H, _, rfl, e1, e2, e3, s, fun r q => ?_⟩
        rw [E]
        constructor
        · rintro ⟨i, i0, i1, i2, i3, l, l0, l1, l2, l3⟩
          exact ⟨i, i0, i1, i2, i3, l, l0, l1, by omega, l3⟩
        · rintro ⟨i, i0, i1, i2, i3, l, l0, l1, l2, l3⟩
          refine ⟨i, i0, i1, i2, i3, l, l0, l1, ?_, l3⟩
          by_cases y : i = p
          · obtain ⟨a1, a2⟩ := B.1 i i0.1 i0.2 i1 i2
            have e5 := a2.2.2.2.2.1
            rw [y] at e5 i1 i2 l1
            refine Or.inr ⟨y, ?_⟩
            by_cases w : l < k
            · exact w
            · exact absurd ⟨by omega, i1, i2⟩ hno
          · omega
      by_cases z1 : k < gi h 172 (38 * p + 5)
      case neg => rw [if_neg z1]; exact quit (fun w => z1 w.1)
      rw [if_pos z1, ix_p p0 (by omega), e1 174 _ (by decide)]
      by_cases z2 : gi h 174 p = 0
      · rw [if_pos z2]; exact quit (fun w => w.2.1 z2)
      rw [if_neg z2, s179 (by omega) p 0 H (by omega) (by omega), bk_v, b178_56, Int.add_zero, e1 172 _ (by decide)]
      by_cases z3 : gi h 172 (38 * p) = 3
      · rw [if_pos z3]; exact quit (fun w => w.2.2 z3)
      obtain ⟨a1, a2⟩ := B.1 p p0 p1 z2 z3
      obtain ⟨s1, s2, s3⟩ := hR _ a1
      have kN : k < (U p).2.2.2.2 := by rw [← a2.2.2.2.2.1]; exact z1
      obtain ⟨l1, l2, -⟩ := UR_lit a2 k0 kN
      have hh : gi h 172 (38 * p + 1) = (U p).2.1 := a2.2.2.1
      have elq : ∀ w, lq H p k w = lq h p k w := fun w => e1 172 _ (by decide)
      have sr := s (U p).2.1 s1.1 s1.2
      rw [if_neg z3, s179 (by omega) p 1 H (by omega) (by omega), bk_v, b178_70, e1 172 _ (by decide), hh, ix_p s1.1 s1.2, s180 (by omega) p k H (by omega) (by omega), bk_v, b178_78, elq]
      by_cases za : lq h p k 0 = 0
      · obtain ⟨q0, q1⟩ := s3 k k0 kN (l1.mp za)
        have ss : st 6 (dm_shl 1 ((U p).2.2.2.1.2.1 k)) := st_shl (by omega) ⟨q0, q1⟩
        rw [bi_1 za, if_neg (by decide), s181 (by omega) p k 1 H (by omega) (by omega) (by omega), bk_v, b178_89, elq, (l2 za).1, b178_94, ix_p s1.1 s1.2, ck_p (by omega) (by omega)]
        refine ih (k + 1) _ (by omega) (by omega) (fun a i ha => by rw [gi_sin ha]; exact e1 a i ha) (fun a i => e2 a i) e3 (fun r r0 r1 => ?_) (fun r q => ?_)
        · rw [gi_si]
          split
          · exact st_or (by omega) sr ss
          · exact s r r0 r1
        · have key : bh (si H 175 (U p).2.1 (dm_or (gi H 175 (U p).2.1) (dm_shl 1 ((U p).2.2.2.1.2.1 k)))) 175 r q ↔ bh H 175 r q ∨ (r = (U p).2.1 ∧ q = (U p).2.2.2.1.2.1 k) := by
            unfold bh
            rw [gi_si]
            by_cases y : r = (U p).2.1
            · rw [if_pos ⟨rfl, y⟩]
              constructor
              · rintro ⟨b1, b2, b3⟩
                rw [bt_or (by omega) sr ss, Bool.or_eq_true, bt_shl ⟨q0, by omega⟩ b2.1, decide_eq_true_iff] at b3
                rcases b3 with b3 | b3
                · exact Or.inl ⟨b1, b2, by rw [y]; exact b3⟩
                · exact Or.inr ⟨y, b3.symm⟩
              · rintro (⟨b1, b2, b3⟩ | ⟨_, b2⟩)
                · refine ⟨b1, b2, ?_⟩
                  rw [bt_or (by omega) sr ss, Bool.or_eq_true]
                  rw [y] at b3
                  exact Or.inl b3
                · refine ⟨by omega, by omega, ?_⟩
                  rw [bt_or (by omega) sr ss, Bool.or_eq_true, bt_shl ⟨q0, by omega⟩ (by omega), decide_eq_true_iff]
                  exact Or.inr b2.symm
            · rw [if_neg (fun w => y w.2)]
              exact ⟨Or.inl, fun w => w.resolve_right (fun v => y v.1)⟩
          rw [key, E]
          constructor
          · rintro (⟨i, i0, i1, i2, i3, l, l0, l1, l2, l3⟩ | ⟨rfl, rfl⟩)
            · exact ⟨i, i0, i1, i2, i3, l, l0, l1, by omega, l3⟩
            · exact ⟨p, ⟨p0, p1⟩, z2, z3, rfl, k, k0, kN, Or.inr ⟨rfl, by omega⟩, l1.mp za, rfl⟩
          · rintro ⟨i, i0, i1, i2, i3, l, l0, l1, l2, l3⟩
            by_cases y : i = p ∧ l = k
            · obtain ⟨rfl, rfl⟩ := y
              exact Or.inr ⟨i3.symm, l3.2.symm⟩
            · refine Or.inl ⟨i, i0, i1, i2, i3, l, l0, l1, ?_, l3⟩
              rcases l2 with w | ⟨w1, w2⟩
              · exact Or.inl w
              · have : l ≠ k := fun v => y ⟨w1, v⟩
                exact Or.inr ⟨w1, by omega⟩
      · rw [bi_0 za, if_pos rfl, b178_94, ix_p s1.1 s1.2, ck_p (by omega) (by omega), or_z sr, si_same rfl]
        refine ih (k + 1) H (by omega) (by omega) e1 e2 e3 s (fun r q => ?_)
        rw [E]
        constructor
        · rintro ⟨i, i0, i1, i2, i3, l, l0, l1, l2, l3⟩
          exact ⟨i, i0, i1, i2, i3, l, l0, l1, by omega, l3⟩
        · rintro ⟨i, i0, i1, i2, i3, l, l0, l1', l2, l3⟩
          refine ⟨i, i0, i1, i2, i3, l, l0, l1', ?_, l3⟩
          rcases l2 with w | ⟨w1, w2⟩
          · exact Or.inl w
          · by_cases y : l = k
            · rw [w1, y] at l3
              exact absurd (l1.mpr l3.1) za
            · exact Or.inr ⟨w1, by omega⟩
  have places : ∀ (m : Nat) (p : Int) (w2 : Option dm_V) (H : dm_H), 0 ≤ p → p + m = 11 → (∀ a i, a ≠ 175 → gi H a i = gi h a i) → (∀ a i, gr H a i = gr h a i) → H.2.2 = h.2.2 → st6 H 175 → (∀ r q, bh H 175 r q ↔ egP h U p 0 r q) →
      ∃ H' w2', dL (d - 1) 178 23 [lR 1 11 165, lI p, w2] [] H = dL (d - 1) 178 110 [lR 1 11 165, lI 0, w2'] [] H' ∧ (∀ a i, a ≠ 175 → gi H' a i = gi h a i) ∧ (∀ a i, gr H' a i = gr h a i) ∧ H'.2.2 = h.2.2 ∧ st6 H' 175 ∧ (∀ r q, bh H' 175 r q ↔ egP h U 11 0 r q) := by
    intro m
    induction m with
    | zero =>
      intro p w2 H p0 pm e1 e2 e3 s E
      rw [show p = 11 by omega] at E
      rw [b178_23, if_pos (by omega)]
      exact ⟨H, _, rfl, e1, e2, e3, s, E⟩
    | succ m ih =>
      intro p w2 H p0 pm e1 e2 e3 s E
      obtain ⟨H', w2', t1, t2, t3, t4, t5, t6⟩ := lits p p0 (by omega) 5 0 H (by omega) (by omega) e1 e2 e3 s E
      rw [b178_23, if_neg (by omega), t1]
      exact ih (p + 1) w2' H' (by omega) (by omega) t2 t3 t4 t5 t6
  have inner : ∀ (H : dm_H) (m : Int), 0 ≤ m → m < 6 → ∀ (k : Nat) (x : Int) (H1 : dm_H), 0 ≤ x → x + k = 6 → (∀ a i, a ≠ 175 → gi H1 a i = gi h a i) → (∀ a i, gr H1 a i = gr h a i) → H1.2.2 = h.2.2 → WI H1 175 (bh H 175) m x →
      ∃ H2, dL (d - 1) 178 118 [lR 1 11 165, lI m, lI x] [] H1 = dL (d - 1) 178 110 [lR 1 11 165, lI (m + 1), lI 6] [] H2 ∧ (∀ a i, a ≠ 175 → gi H2 a i = gi h a i) ∧ (∀ a i, gr H2 a i = gr h a i) ∧ H2.2.2 = h.2.2 ∧ WI H2 175 (bh H 175) m 6 := by
    intro H m m0 m1 k
    induction k with
    | zero =>
      intro x H1 x0 xk e1 e2 e3 w
      rw [b178_118, if_neg (by omega), ck_p (by omega) (by omega), show x = 6 by omega]
      rw [show x = 6 by omega] at w
      exact ⟨H1, rfl, e1, e2, e3, w⟩
    | succ k ih =>
      intro x H1 x0 xk e1 e2 e3 w
      have sx := w.1 x x0 (by omega)
      obtain ⟨w1, w2⟩ := WI_x w ⟨x0, by omega⟩ ⟨m0, by omega⟩
      rw [b178_118, if_pos (by omega), ix_p x0 (by omega), ix_p x0 (by omega)]
      by_cases z : dm_and (dm_shr (gi H1 175 x) m) 1 = 1
      · rw [if_pos z, ix_p m0 (by omega), b178_155, ix_p x0 (by omega), ck_p (by omega) (by omega)]
        exact ih (x + 1) _ (by omega) (by omega) (fun a i ha => by rw [gi_sin ha]; exact e1 a i ha) (fun a i => e2 a i) e3 (w1 ((bt_1 (by omega) sx (by omega)).mp z))
      · have hb : bt (gi H1 175 x) m = false := by
          cases hq : bt (gi H1 175 x) m with
          | false => rfl
          | true => exact absurd ((bt_1 (by omega) sx (by omega)).mpr hq) z
        rw [if_neg z, b178_155, ix_p x0 (by omega), ck_p (by omega) (by omega), or_z sx, si_same rfl]
        exact ih (x + 1) H1 (by omega) (by omega) e1 e2 e3 (w2 hb)
  have outer : ∀ (G : dm_H) (k : Nat) (m : Int) (w2 : Option dm_V) (H : dm_H), 0 ≤ m → m + k = 6 → (∀ a i, a ≠ 175 → gi H a i = gi h a i) → (∀ a i, gr H a i = gr h a i) → H.2.2 = h.2.2 → WM G H 175 m →
      ∃ h', dL (d - 1) 178 110 [lR 1 11 165, lI m, w2] [] H = rV h' ∧ (∀ a i, a ≠ 175 → gi h' a i = gi h a i) ∧ (∀ a i, gr h' a i = gr h a i) ∧ h'.2.2 = h.2.2 ∧ WM G h' 175 6 := by
    intro G k
    induction k with
    | zero =>
      intro m w2 H m0 mk e1 e2 e3 w
      rw [b178_110, if_neg (by omega)]
      rw [show m = 6 by omega] at w
      exact ⟨H, rfl, e1, e2, e3, w⟩
    | succ k ih =>
      intro m w2 H m0 mk e1 e2 e3 w
      rw [b178_110, if_pos (by omega)]
      obtain ⟨H2, t1, t2, t3, t4, t5⟩ := inner H m m0 (by omega) 6 0 H (by omega) (by omega) e1 e2 e3 (WI_0 w.1 m)
      rw [t1]
      exact ih (m + 1) _ H2 (by omega) (by omega) t2 t3 t4 (WM_s w (by omega) t5)
  rw [f178 (by omega), b178_0]
  obtain ⟨H1, t1, t2, t3, t4, t5⟩ := clear 6 0 h (by omega) (by omega) (fun _ _ _ => rfl) (fun _ _ => rfl) rfl (fun r r0 r1 => by omega)
  obtain ⟨H2, w2', u1, u2, u3, u4, u5, u6⟩ := places 11 0 none H1 (by omega) (by omega) t2 t3 t4 (fun r r0 r1 => by rw [t5 r r0 r1]; exact st_z 6) (fun r q => by
    constructor
    · rintro ⟨b1, b2, b3⟩
      rw [t5 r b1.1 b1.2, bt_z] at b3
      cases b3
    · rintro ⟨i, i0, i1, i2, i3, l, l0, l1, l2, l3⟩
      omega)
  obtain ⟨h', v1, v2, v3, v4, v5⟩ := outer H2 6 0 w2' H2 (by omega) (by omega) u2 u3 u4 (WM_0 u5)
  rw [t1, u1, v1]
  have lt := WM_LT v5
  have ee : ∀ r q, bh H2 175 r q ↔ eg RL r q := by
    intro r q
    rw [u6]
    constructor
    · rintro ⟨i, i0, i1, i2, i3, l, l0, l1, l2, l3, l4⟩
      exact ⟨U i, (B.1 i i0.1 i0.2 i1 i2).1, i3, l, l0, l1, l3, l4⟩
    · rintro ⟨u, hu, i3, l, l0, l1, l3, l4⟩
      obtain ⟨i, i0, i1, i2, rfl⟩ := B.2 u hu
      exact ⟨i, i0, i1, i2, i3, l, l0, l1, Or.inl (by omega), l3, l4⟩
  exact ⟨h', rfl, v2, v3, v4, v5.1, fun r q z => lt.1 r q ((ee r q).mpr z), lt.2.1, fun R h1 h2 => lt.2.2 R (fun r q z => h1 r q ((ee r q).mp z)) h2⟩
theorem bh_1 {a : Nat} (s : st6 h a) {r q : Int} (hr : 0 ≤ r ∧ r < 6) (hq : 0 ≤ q ∧ q < 6) : (dm_and (dm_shr (gi h a r) q) 1 = 1 ↔ bh h a r q) ∧ (dm_and (dm_shr (gi h a r) q) 1 = 0 ↔ ¬ bh h a r q) := by
  have sr := s r hr.1 hr.2
  have e1 := bt_1 (k := 6) (j := q) (by omega) sr (by omega)
  have e0 := bt_0 (k := 6) (j := q) (by omega) sr (by omega)
  constructor
  · rw [e1]; exact ⟨fun z => ⟨hr, hq, z⟩, fun z => z.2.2⟩
  · rw [e0]
    constructor
    · intro z w; have := w.2.2; rw [z] at this; cases this
    · intro z
      cases hb : bt (gi h a r) q with
      | false => rfl
      | true => exact absurd ⟨hr, hq, hb⟩ z
theorem s184 {d : Nat} (hd : 1 ≤ d) (s : st6 h 175) {r q : Int} (hr : 0 ≤ r ∧ r < 6) (hq : 0 ≤ q ∧ q < 6) : ∃ b, dF d 184 [dR 1 11 165, dI r, dI q] h = rI b h ∧ (b = 0 ∨ b = 1) ∧ (b = 1 ↔ ocH h 175 r q) := by
  obtain ⟨x1, -⟩ := bh_1 s hr hq
  obtain ⟨y1, -⟩ := bh_1 s hq hr
  rw [f184 (by omega), b184_0]
  by_cases z : r = q
  · rw [if_pos z, b184_33, b184_38, z1_p (Or.inr rfl)]
    exact ⟨1, rfl, Or.inr rfl, fun _ => Or.inl z, fun _ => rfl⟩
  rw [if_neg z, ix_p hr.1 hr.2]
  by_cases z1 : dm_and (dm_shr (gi h 175 r) q) 1 = 1
  · rw [if_pos z1, ix_p hq.1 hq.2]
    by_cases z2 : dm_and (dm_shr (gi h 175 q) r) 1 = 1
    · rw [if_pos z2, b184_33, b184_38, z1_p (Or.inr rfl)]
      exact ⟨1, rfl, Or.inr rfl, fun _ => Or.inr ⟨x1.mp z1, y1.mp z2⟩, fun _ => rfl⟩
    · rw [if_neg z2, b184_37, b184_38, z1_p (Or.inl rfl)]
      exact ⟨0, rfl, Or.inl rfl, fun w => by omega, fun w => absurd w (fun w => w.elim z (fun w => z2 (y1.mpr w.2)))⟩
  · rw [if_neg z1, b184_37, b184_38, z1_p (Or.inl rfl)]
    exact ⟨0, rfl, Or.inl rfl, fun w => by omega, fun w => absurd w (fun w => w.elim z (fun w => z1 (x1.mpr w.1)))⟩
theorem s112b {d : Nat} (hd : 1 ≤ d) (s : st6 h 6) {r q : Int} (hr : 0 ≤ r ∧ r < 6) (hq : 0 ≤ q ∧ q < 6) : ∃ b, dF d 112 [dR 1 6 2, dI r, dI q] h = rI b h ∧ (b = 0 ∨ b = 1) ∧ (b = 1 ↔ ocH h 6 r q) := by
  obtain ⟨-, x0⟩ := bh_1 s hr hq
  obtain ⟨-, y0⟩ := bh_1 s hq hr
  refine ⟨_, s112 hd r q h hr hq, ?_, ?_⟩
  · repeat' split
    all_goals omega
  · by_cases z : r = q
    · rw [if_pos z]; exact ⟨fun _ => Or.inl z, fun _ => rfl⟩
    rw [if_neg z]
    by_cases z1 : dm_and (dm_shr (gi h 6 r) q) 1 = 0
    · rw [if_pos z1]; exact ⟨fun w => by omega, fun w => absurd w (fun w => w.elim z (fun w => x0.mp z1 w.1))⟩
    rw [if_neg z1]
    by_cases z2 : dm_and (dm_shr (gi h 6 q) r) 1 = 0
    · rw [if_pos z2]; exact ⟨fun w => by omega, fun w => absurd w (fun w => w.elim z (fun w => y0.mp z2 w.2))⟩
    rw [if_neg z2]
    refine ⟨fun _ => Or.inr ⟨?_, ?_⟩, fun _ => rfl⟩
    · by_cases w : bh h 6 r q
      · exact w
      · exact absurd (x0.mpr w) z1
    · by_cases w : bh h 6 q r
      · exact w
      · exact absurd (y0.mpr w) z2
end RHG
