/-! GOALS: the reference's search -/
section GRF
variable {h H : dm_H} {π : Int → Int}
/-- the number of the x-th goal of the reference -/
def rgl (h : dm_H) (x : Int) : Int := gcode (gi h 192 x) (gi h 193 x) (gi h 194 x) (gi h 195 x)
def rgo (h : dm_H) (x : Int) : Prop := (0 ≤ gi h 192 x ∧ gi h 192 x < 6) ∧ (-1 ≤ gi h 193 x ∧ gi h 193 x ≤ 99) ∧ (-1 ≤ gi h 194 x ∧ gi h 194 x ≤ 99) ∧ (-1 ≤ gi h 195 x ∧ gi h 195 x ≤ 99)
def RGs (R : Int → Prop) (h : dm_H) : Prop := (0 ≤ gi h 165 43 ∧ gi h 165 43 ≤ 500) ∧ (∀ x, 0 ≤ x → x < gi h 165 43 → rgo h x ∧ R (rgl h x)) ∧ ∀ x y, 0 ≤ x → x < y → y < gi h 165 43 → rgl h x ≠ rgl h y
def fndr (h : dm_H) (g : Int) : Prop := ∃ x, (0 ≤ x ∧ x < gi h 165 43) ∧ rgl h x = g
def fulR (h : dm_H) : Prop := gi h 165 43 = 500
def rmo (h h' : dm_H) : Prop := gi h 165 43 ≤ gi h' 165 43 ∧ ∀ x, 0 ≤ x → x < gi h 165 43 → rgl h' x = rgl h x
theorem rmo_refl (h : dm_H) : rmo h h := ⟨Int.le_refl _, fun _ _ _ => rfl⟩
theorem rmo_trans {h h1 h2 : dm_H} (a : rmo h h1) (b : rmo h1 h2) : rmo h h2 := ⟨Int.le_trans a.1 b.1, fun x x0 x1 => by rw [b.2 x x0 (by have := a.1; omega), a.2 x x0 x1]⟩
theorem fndr_rmo {h h' : dm_H} {g : Int} (a : rmo h h') (f : fndr h g) : fndr h' g := by
  obtain ⟨x, hx, e⟩ := f
  exact ⟨x, ⟨hx.1, by have := a.1; omega⟩, by rw [a.2 x hx.1 hx.2]; exact e⟩
theorem fulR_rmo {R : Int → Prop} {h h' : dm_H} (a : rmo h h') (i : RGs R h') (f : fulR h) : fulR h' := by
  have := i.1
  have := a.1
  unfold fulR at f ⊢
  omega
/-- what the search touches in the reference -/
def fgR (h h' : dm_H) : Prop := (∀ a i, a ≠ 179 → a ≠ 180 → ¬ (185 ≤ a ∧ a ≤ 190) → ¬ (192 ≤ a ∧ a ≤ 195) → ¬ (a = 165 ∧ ((27 ≤ i ∧ i ≤ 34) ∨ i = 43)) → gi h' a i = gi h a i) ∧ (∀ a i, gr h' a i = gr h a i) ∧ h'.2.2 = h.2.2
theorem fgR_refl (h : dm_H) : fgR h h := ⟨fun _ _ _ _ _ _ _ => rfl, fun _ _ => rfl, rfl⟩
theorem fgR_trans {h h1 h2 : dm_H} (a : fgR h h1) (b : fgR h1 h2) : fgR h h2 := ⟨fun c i p q r s t => by rw [b.1 c i p q r s t, a.1 c i p q r s t], fun c i => by rw [b.2.1, a.2.1], by rw [b.2.2, a.2.2]⟩
theorem fgR_M {h h' : dm_H} (f : frM h h') : fgR h h' := ⟨fun a i p q r _ s => f.1 a i p q r (by omega), f.2.1, f.2.2⟩
/-- only goals are other ones -/
def fgA (h h' : dm_H) : Prop := (∀ a i, ¬ (192 ≤ a ∧ a ≤ 195) → ¬ (a = 165 ∧ i = 43) → gi h' a i = gi h a i) ∧ (∀ a i, gr h' a i = gr h a i) ∧ h'.2.2 = h.2.2
theorem fgR_A {h h' : dm_H} (f : fgA h h') : fgR h h' := ⟨fun a i _ _ _ q s => f.1 a i q (by omega), f.2.1, f.2.2⟩
theorem rmo_s {h h' : dm_H} (e : ∀ a i, (192 ≤ a ∧ a ≤ 195) ∨ (a = 165 ∧ i = 43) → gi h' a i = gi h a i) : rmo h h' := ⟨by rw [e 165 43 (by omega)]; omega, fun x _ _ => by unfold rgl; rw [e 192 x (by omega), e 193 x (by omega), e 194 x (by omega), e 195 x (by omega)]⟩
theorem RGs_cg {R : Int → Prop} {h h' : dm_H} (e : ∀ a i, (192 ≤ a ∧ a ≤ 195) ∨ (a = 165 ∧ i = 43) → gi h' a i = gi h a i) (S : RGs R h) : RGs R h' := by
  unfold RGs rgo rgl
  simp only [e 165 43 (by omega), show ∀ i, gi h' 192 i = gi h 192 i from fun i => e _ _ (by omega), show ∀ i, gi h' 193 i = gi h 193 i from fun i => e _ _ (by omega), show ∀ i, gi h' 194 i = gi h 194 i from fun i => e _ _ (by omega), show ∀ i, gi h' 195 i = gi h 195 i from fun i => e _ _ (by omega)]
  exact S
theorem gcode_inj {r a b c r' a' b' c' : Int} (hr : 0 ≤ r ∧ r < 6) (ha : -1 ≤ a ∧ a ≤ 99) (hb : -1 ≤ b ∧ b ≤ 99) (hc : -1 ≤ c ∧ c ≤ 99) (hr' : 0 ≤ r' ∧ r' < 6) (ha' : -1 ≤ a' ∧ a' ≤ 99) (hb' : -1 ≤ b' ∧ b' ≤ 99) (hc' : -1 ≤ c' ∧ c' ≤ 99) (e : gcode r a b c = gcode r' a' b' c') : r = r' ∧ a = a' ∧ b = b' ∧ c = c' := by
  unfold gcode at e
  omega
theorem s251 {d : Nat} (hd : 1 ≤ d) {R : Int → Prop} (S : RGs R h) {r a b c : Int} (hr : 0 ≤ r ∧ r < 6) (ha : -1 ≤ a ∧ a ≤ 99) (hb : -1 ≤ b ∧ b ≤ 99) (hc : -1 ≤ c ∧ c ≤ 99) (hR : R (gcode r a b c)) : ∃ h', dF d 251 [dR 1 11 165, dI r, dI a, dI b, dI c] h = rV h' ∧ RGs R h' ∧ fgA h h' ∧ rmo h h' ∧ (fndr h' (gcode r a b c) ∨ (fulR h' ∧ fulR h)) := by
  have S' := S
  obtain ⟨s1, s2, s3⟩ := S
  have loop : ∀ (m : Nat) (x : Int), 0 ≤ x → x + m = gi h 165 43 → (∀ y, 0 ≤ y → y < x → rgl h y ≠ gcode r a b c) → ∃ h', dL (d - 1) 251 3 [lR 1 11 165, lI r, lI a, lI b, lI c, lI x] [] h = rV h' ∧ RGs R h' ∧ fgA h h' ∧ rmo h h' ∧ (fndr h' (gcode r a b c) ∨ (fulR h' ∧ fulR h)) := by
    intro m
    induction m with
    | zero =>
      intro x x0 xm no
      rw [b251_3, if_neg (by omega)]
      by_cases z : gi h 165 43 < 500
      · have q : ∀ (K : dm_H) (e : Nat) (i y : Int), e ≠ 165 → gi (si K e i y) 165 43 = gi K 165 43 := fun K e i y he => gi_sin (fun w => he w.symm)
        rw [if_pos z]
        simp only [q _ 192 _ _ (by decide), q _ 193 _ _ (by decide), q _ 194 _ _ (by decide), q _ 195 _ _ (by decide)]
        rw [ix_p s1.1 (by omega), ix_p s1.1 (by omega), ix_p s1.1 (by omega), ix_p s1.1 (by omega), ck_p (by omega) (by omega), b251_125]
        obtain ⟨h', eh⟩ : ∃ h', h' = si (si (si (si (si h 192 (gi h 165 43) r) 193 (gi h 165 43) a) 194 (gi h 165 43) b) 195 (gi h 165 43) c) 165 43 (gi h 165 43 + 1) := ⟨_, rfl⟩
        rw [← eh]
        have v4 : gi h' 165 43 = gi h 165 43 + 1 := by rw [eh, gi_sis]
        have v : ∀ y, y ≠ gi h 165 43 → gi h' 192 y = gi h 192 y ∧ gi h' 193 y = gi h 193 y ∧ gi h' 194 y = gi h 194 y ∧ gi h' 195 y = gi h 195 y := by
          intro y hy
          rw [eh]
          refine ⟨?_, ?_, ?_, ?_⟩
          · rw [gi_sin (by decide), gi_sin (by decide), gi_sin (by decide), gi_sin (by decide), gi_sij hy]
          · rw [gi_sin (by decide), gi_sin (by decide), gi_sin (by decide), gi_sij hy, gi_sin (by decide)]
          · rw [gi_sin (by decide), gi_sin (by decide), gi_sij hy, gi_sin (by decide), gi_sin (by decide)]
          · rw [gi_sin (by decide), gi_sij hy, gi_sin (by decide), gi_sin (by decide), gi_sin (by decide)]
        have w : gi h' 192 (gi h 165 43) = r ∧ gi h' 193 (gi h 165 43) = a ∧ gi h' 194 (gi h 165 43) = b ∧ gi h' 195 (gi h 165 43) = c := by
          rw [eh]
          refine ⟨?_, ?_, ?_, ?_⟩
          · rw [gi_sin (by decide), gi_sin (by decide), gi_sin (by decide), gi_sin (by decide), gi_sis]
          · rw [gi_sin (by decide), gi_sin (by decide), gi_sin (by decide), gi_sis]
          · rw [gi_sin (by decide), gi_sin (by decide), gi_sis]
          · rw [gi_sin (by decide), gi_sis]
        have rv : ∀ y, y ≠ gi h 165 43 → rgl h' y = rgl h y := fun y hy => by
          obtain ⟨a1, a2, a3, a4⟩ := v y hy
          unfold rgl
          rw [a1, a2, a3, a4]
        have rw' : rgl h' (gi h 165 43) = gcode r a b c := by
          obtain ⟨a1, a2, a3, a4⟩ := w
          unfold rgl
          rw [a1, a2, a3, a4]
        refine ⟨h', rfl, ⟨by omega, fun y y0 y1 => ?_, fun y y' y0 yy y1 => ?_⟩, ⟨fun a' i p t => ?_, fun a' i => by rw [eh]; rfl, by rw [eh]; rfl⟩, ⟨by omega, fun y y0 y1 => rv y (by omega)⟩, Or.inl ⟨gi h 165 43, ⟨s1.1, by omega⟩, rw'⟩⟩
        · by_cases t : y = gi h 165 43
          · rw [t, rw']
            obtain ⟨a1, a2, a3, a4⟩ := w
            exact ⟨⟨by rw [a1]; exact hr, by rw [a2]; exact ha, by rw [a3]; exact hb, by rw [a4]; exact hc⟩, hR⟩
          · obtain ⟨b1, b2⟩ := s2 y y0 (by omega)
            rw [rv y t]
            obtain ⟨a1, a2, a3, a4⟩ := v y t
            refine ⟨?_, b2⟩
            unfold rgo at b1 ⊢
            rw [a1, a2, a3, a4]; exact b1
        · rw [rv y (by omega)]
          by_cases t : y' = gi h 165 43
          · rw [t, rw']
            exact no y y0 (by omega)
          · rw [rv y' t]
            exact s3 y y' y0 yy (by omega)
        · rw [eh, gi_si, if_neg t, gi_sin (by omega), gi_sin (by omega), gi_sin (by omega), gi_sin (by omega)]
      · rw [if_neg z, b251_125]
        exact ⟨h, rfl, S', ⟨fun _ _ _ _ => rfl, fun _ _ => rfl, rfl⟩, rmo_refl h, Or.inr ⟨by unfold fulR; omega, by unfold fulR; omega⟩⟩
    | succ m ih =>
      intro x x0 xm no
      have ox := (s2 x x0 (by omega)).1
      have on : rgl h x ≠ gcode r a b c → ∃ h', dL (d - 1) 251 58 [lR 1 11 165, lI r, lI a, lI b, lI c, lI x] [] h = rV h' ∧ RGs R h' ∧ fgA h h' ∧ rmo h h' ∧ (fndr h' (gcode r a b c) ∨ (fulR h' ∧ fulR h)) := by
        intro q
        rw [b251_58, ck_p (by omega) (by omega)]
        refine ih (x + 1) (by omega) (by omega) (fun y y0 y1 => ?_)
        by_cases t : y = x
        · rw [t]; exact q
        · exact no y y0 (by omega)
      rw [b251_3, if_pos (by omega), ix_p x0 (by omega)]
      by_cases z1 : gi h 192 x = r
      case neg =>
        rw [if_neg z1]
        exact on (fun e => z1 (gcode_inj ox.1 ox.2.1 ox.2.2.1 ox.2.2.2 hr ha hb hc e).1)
      rw [if_pos z1, ix_p x0 (by omega)]
      by_cases z2 : gi h 193 x = a
      case neg =>
        rw [if_neg z2]
        exact on (fun e => z2 (gcode_inj ox.1 ox.2.1 ox.2.2.1 ox.2.2.2 hr ha hb hc e).2.1)
      rw [if_pos z2, ix_p x0 (by omega)]
      by_cases z3 : gi h 194 x = b
      case neg =>
        rw [if_neg z3]
        exact on (fun e => z3 (gcode_inj ox.1 ox.2.1 ox.2.2.1 ox.2.2.2 hr ha hb hc e).2.2.1)
      rw [if_pos z3, ix_p x0 (by omega)]
      by_cases z4 : gi h 195 x = c
      case neg =>
        rw [if_neg z4]
        exact on (fun e => z4 (gcode_inj ox.1 ox.2.1 ox.2.2.1 ox.2.2.2 hr ha hb hc e).2.2.2)
      rw [if_pos z4]
      exact ⟨h, rfl, S', ⟨fun _ _ _ _ => rfl, fun _ _ => rfl, rfl⟩, rmo_refl h, Or.inl ⟨x, ⟨x0, by omega⟩, by unfold rgl; rw [z1, z2, z3, z4]⟩⟩
  rw [f251 (by omega), b251_0]
  exact loop (gi h 165 43).toNat 0 (by omega) (by omega) (fun y y0 y1 => by omega)
/-- what an atom asks, in the reference -/
theorem s255 {d : Nat} (hd : 3 ≤ d) {p k i : Int} (hp : 0 ≤ p ∧ p ≤ 10) (hk : 0 ≤ k ∧ k < 4) (hi : 0 ≤ i ∧ i < 3) (hs : 0 ≤ lq H p k 1 ∧ lq H p k 1 < 6) (hw : 0 ≤ gi H 166 (lq H p k 1) ∧ gi H 166 (lq H p k 1) ≤ 3) (ht : lq H p k (3 + i) ≤ 107) (h0 : lq H p k 0 = 0) : dF d 255 [dR 1 11 165, dI p, dI k, dI i] H = rI (akv (rRl H p) (gi H 167) k (va H 185) i) H := by
  have e1 : (rRl H p).2.1 k = lq H p k 1 := if_pos h0
  have e2 : (rRl H p).2.2.1 k = gi H 166 (lq H p k 1) := if_pos h0
  have e3 : (rRl H p).2.2.2 k i = lq H p k (3 + i) := if_neg (by omega)
  unfold akv
  rw [e1, e2, e3, f255 (by omega), b255_0, s181 (by omega) p k 1 H hp hk (by omega), bk_v, b255_7, ix_p hs.1 (by omega)]
  by_cases z : i < gi H 166 (lq H p k 1)
  · rw [if_pos z, ck_p (by omega) (by omega), s181 (by omega) p k (3 + i) H hp hk (by omega), bk_v, b255_31, if_neg (show ¬ gi H 166 (lq H p k 1) ≤ i by omega)]
    have e66 : ∀ (w1 w2 w4 : Option dm_V), dL (d - 1) 255 66 [lR 1 11 165, w1, w2, lI i, w4, lI (lq H p k (3 + i))] [] H = rI (tv (va H 185) (lq H p k (3 + i))) H := by
      intro w1 w2 w4
      rw [b255_66, s199 (by omega) _ _ ht, bk_v, b255_72]
    have em : tv (va H 185) (-1) = -1 := by unfold tv; rw [if_pos (by decide)]
    by_cases y : lq H p k (3 + i) = -1
    · rw [if_pos y, b255_62, b255_72, y, em]
      split <;> rfl
    · rw [if_neg y, ix_p hs.1 (by omega)]
      by_cases x : gi H 167 (lq H p k 1) = 0
      · rw [if_pos x, e66, if_neg (fun q => q.1 x)]
      · rw [if_neg x, ix_p hs.1 (by omega), ck_p (by omega) (by omega)]
        by_cases u : i = gi H 166 (lq H p k 1) - 1
        · rw [if_pos u, b255_62, b255_72, if_pos ⟨x, u⟩]
        · rw [if_neg u, e66, if_neg (fun q => u q.2)]
  · rw [if_neg z, if_pos (by omega)]
end GRF
