/-! COSTS: a binding is weighed -/
section WGH
/-- a cost as it is kept: -1 for none -/
def kc (x : Int) : Int := if x = -1 then 1000000 else x
def hF (h : dm_H) : Int → Int → Int := fun r x => kc (gi h (145 + 1 + Int.toNat r) x)
def pF (h : dm_H) : Int → Int → Int := fun r x => kc (gi h (152 + 1 + Int.toNat r) x)
/-- a height and a price are there together -/
def c2v (a b : Int) : Prop := (a = -1 ∧ b = -1) ∨ ((0 ≤ a ∧ a ≤ 9000) ∧ (0 ≤ b ∧ b ≤ 9999))
def CV (h : dm_H) : Prop := ∀ r x, 0 ≤ r → r < 6 → 0 ≤ x → x < 32 → r < gi h 2 0 → c2v (gi h (145 + 1 + Int.toNat r) x) (gi h (152 + 1 + Int.toNat r) x)
def cod2 (x y X Y : Int) : Prop := (x = -1 ∧ y = -1 ∧ X = 1000000 ∧ Y = 1000000) ∨ ((x = X ∧ 0 ≤ X ∧ X ≤ 9000) ∧ (y = Y ∧ 0 ≤ Y ∧ Y ≤ 9999))
def cod1 (x y X Y : Int) : Prop := (x = -1 ∧ X = 1000000 ∧ Y = 1000000 ∧ 0 ≤ y ∧ y ≤ 9999) ∨ ((x = X ∧ 0 ≤ X ∧ X ≤ 9000) ∧ (y = Y ∧ 0 ≤ Y ∧ Y ≤ 9999))
theorem mnI_s {P : Int → Prop} {g : Int → Int} {n : Nat} : (P n → mnI P g (n + 1) = if g n < mnI P g n then g n else mnI P g n) ∧ (¬ P n → mnI P g (n + 1) = mnI P g n) := by
  refine ⟨fun p => ?_, fun p => @if_neg _ (Classical.propDecidable _) (fun z => p z.1) _ _ _⟩
  by_cases z : g n < mnI P g n
  · rw [if_pos z]; exact @if_pos _ (Classical.propDecidable _) ⟨p, z⟩ _ _ _
  · rw [if_neg z]; exact @if_neg _ (Classical.propDecidable _) (fun y => z y.2) _ _ _
theorem mnI_same {P : Int → Prop} {g : Int → Int} {a : Nat} : ∀ {m : Nat}, (∀ x : Int, (a : Int) ≤ x → x < a + m → ¬ P x) → mnI P g (a + m) = mnI P g a
  | 0, _ => rfl
  | m + 1, h => by
    rw [show a + (m + 1) = (a + m) + 1 by omega, mnI_s.2 (h _ (by omega) (by omega))]
    exact mnI_same (fun x x0 x1 => h x x0 (by omega))
theorem kc_lt {x X : Int} (hx : 0 ≤ x) (hX : X = 1000000 ∨ 0 ≤ X) : kc x = x := if_neg (by omega)
theorem bcv_far {pr : Int} {ρ : mR} {ω : mW} {f : Int → Int → Int} {v : mA} {n : Nat} (h : bcv pr ρ ω f v n = 1000000) : ∀ {m : Nat}, bcv pr ρ ω f v (n + m) = 1000000
  | 0 => h
  | m + 1 => by
    have := bcv_far h (m := m)
    show cmg pr (bcv pr ρ ω f v (n + m)) _ = _
    unfold cmg
    rw [if_pos (Or.inr this)]
/-- what weighing touches -/
def fr11 (h h' : dm_H) : Prop := (∀ a i, ¬ (a = 144 ∧ (i = 11 ∨ i = 12)) → gi h' a i = gi h a i) ∧ (∀ a i, gr h' a i = gr h a i) ∧ h'.2.2 = h.2.2
theorem fr11_refl (h : dm_H) : fr11 h h := ⟨fun _ _ _ => rfl, fun _ _ => rfl, rfl⟩
theorem fr11_t {h h1 h2 : dm_H} (a : fr11 h h1) (b : fr11 h1 h2) : fr11 h h2 := ⟨fun c i p => by rw [b.1 c i p, a.1 c i p], fun c i => by rw [b.2.1, a.2.1], by rw [b.2.2, a.2.2]⟩
theorem fr11_s {h : dm_H} {x y : Int} : fr11 h (si (si h 144 11 x) 144 12 y) := ⟨fun a i p => by rw [gi_si, if_neg (fun z => p ⟨z.1, Or.inr z.2⟩), gi_si, if_neg (fun z => p ⟨z.1, Or.inl z.2⟩)], fun _ _ => rfl, rfl⟩
variable {A P : Nat} {N : Int} {h : dm_H} {v : mA}
/-- what weighing wants of the rule and the rows -/
def WG (A P : Nat) (N : Int) (h : dm_H) : Prop := (gr h 144 6 = A ∧ gr h 144 5 = P) ∧ (ru A ∧ rw_ P) ∧ (gi h A 4 = N ∧ 0 ≤ N ∧ N ≤ 4) ∧ (∀ k, 0 ≤ k → k < N → gi h (A + 2) k = 0 → (0 ≤ gi h (A + 3) k ∧ gi h (A + 3) k < 6) ∧ (0 ≤ gi h (A + 4) k ∧ gi h (A + 4) k ≤ 3) ∧ gi h (A + 3) k < gi h 2 0) ∧ (∀ r, 0 ≤ r → r < 6 → 0 ≤ rsz h P r ∧ rsz h P r ≤ 32) ∧ (∀ r x, 0 ≤ r → r < 6 → 0 ≤ x → x < rsz h P r → 0 ≤ rws h P r x ∧ rws h P r x < 1000000) ∧ AW h A P N
theorem WG_cg {h' : dm_H} (e : ∀ a i, a < 137 → gi h' a i = gi h a i) (e2 : ∀ i, gr h' 144 i = gr h 144 i) (W : WG A P N h) : WG A P N h' := by
  obtain ⟨⟨a1, a2⟩, ⟨b1, b2⟩, ⟨c1, c2, c3⟩, w4, w5, w6, w7⟩ := W
  have hA := ru_ne b1
  have hP : P = 95 ∨ P = 112 := b2
  have z : ∀ r, rsz h' P r = rsz h P r := fun r => e _ _ (by omega)
  have y : ∀ r x, 0 ≤ r → r < 6 → rws h' P r x = rws h P r x := fun r x r0 r1 => e _ _ (by omega)
  have lo : ∀ j, j ≤ 6 → ∀ i, gi h' (A + j) i = gi h (A + j) i := fun j hj i => e _ _ (by omega)
  refine ⟨⟨by rw [e2]; exact a1, by rw [e2]; exact a2⟩, ⟨b1, b2⟩, ⟨by rw [e _ _ hA.1]; exact c1, c2, c3⟩, fun k k0 k1 k2 => ?_, fun r r0 r1 => by rw [z]; exact w5 r r0 r1, fun r x r0 r1 x0 x1 => ?_, fun k k0 k1 k2 => ?_⟩
  · rw [lo 2 (by omega)] at k2
    rw [lo 3 (by omega), lo 4 (by omega), e 2 0 (by omega)]
    exact w4 k k0 k1 k2
  · rw [z] at x1
    rw [y r x r0 r1]; exact w6 r x r0 r1 x0 x1
  · rw [lo 2 (by omega)] at k2
    obtain ⟨q1, q2⟩ := w7 k k0 k1 k2
    have hr := (w4 k k0 k1 k2).1
    rw [lo 6 (by omega), lo 4 (by omega), lo 3 (by omega), z]
    refine ⟨fun q i i0 i1 => ?_, fun a b a0 ab b1 => ?_⟩
    · rw [show tm h' A k i = tm h A k i from lo 5 (by omega) _]
      exact q1 q i i0 i1
    · rw [y _ a hr.1 hr.2, y _ b hr.1 hr.2]
      exact q2 a b a0 ab b1
theorem cod2_s {bh bp X Y a b : Int} (C : cod2 bh bp X Y) (V : c2v a b) (ha : a ≠ -1) : cod2 (if bh = -1 then a else if a < bh then a else bh) (if bp = -1 then b else if b < bp then b else bp) (if kc a < X then kc a else X) (if kc b < Y then kc b else Y) := by
  unfold c2v at V
  have e1 : kc a = a := if_neg ha
  have e2 : kc b = b := if_neg (by omega)
  rw [e1, e2]
  unfold cod2 at C ⊢
  rcases C with ⟨c1, c2, c3, c4⟩ | ⟨⟨c1, c2, c3⟩, c4, c5, c6⟩
  · rw [if_pos c1, if_pos c2, if_pos (by omega), if_pos (by omega)]
    omega
  · rw [if_neg (show ¬ bh = -1 by omega), if_neg (show ¬ bp = -1 by omega), c1, c4]
    right
    constructor
    · split <;> omega
    · split <;> omega
/-- the rows that fit are gone through -/
theorem s24r {d : Nat} (W : WG A P N h) (V : CV h) {k : Int} (hk : 0 ≤ k ∧ k < N) (hs : gi h (A + 2) k = 0) {key : Int} {E : Int} (hE : E ≤ rsz h P (gi h (A + 3) k)) {Q : Int → Prop} (so : ∀ x, 0 ≤ x → x < rsz h P (gi h (A + 3) k) → ∃ y, dF d 25 [dR 1 8 A, dI k, dI (rws h P (gi h (A + 3) k) x)] h = rI y h ∧ (y = key ↔ Q x)) (w3 w4 : Option dm_V) :
    ∀ (m : Nat) (n : Nat) (bh bp : Int) (w10 w11 : Option dm_V), (n : Int) + m = E → cod2 bh bp (mnI Q (hF h (gi h (A + 3) k)) n) (mnI Q (pF h (gi h (A + 3) k)) n) → ∃ bh' bp' w9 y10 y11, cod2 bh' bp' (mnI Q (hF h (gi h (A + 3) k)) (n + m)) (mnI Q (pF h (gi h (A + 3) k)) (n + m)) ∧ dL d 24 138 [lR 1 0 144, lI k, lI (gi h (A + 3) k), w3, w4, lI E, lI key, lI bh, lI bp, lI n, w10, w11] [] h = (if bh' = -1 then dL d 24 264 [lR 1 0 144, lI k, lI (gi h (A + 3) k), w3, w4, lI E, lI key, lI bh', lI bp', lI w9, y10, y11] [dI (-1), dR 1 0 144] h else dL d 24 264 [lR 1 0 144, lI k, lI (gi h (A + 3) k), w3, w4, lI E, lI key, lI bh', lI bp', lI w9, y10, y11] [dI (if gi h 144 11 < bh' then bh' else gi h 144 11), dR 1 0 144] h) := by
  obtain ⟨⟨a1, a2⟩, ⟨b1, b2⟩, ⟨c1, c2, c3⟩, w4', w5, w6, w7⟩ := W
  obtain ⟨hr, hw, hg⟩ := w4' k hk.1 hk.2 hs
  have hz := w5 _ hr.1 hr.2
  intro m
  induction m with
  | zero =>
    intro n bh bp w10 w11 hn hc
    refine ⟨bh, bp, n, w10, w11, hc, ?_⟩
    rw [b24_138, if_neg (show ¬ (n : Int) < E by omega)]
  | succ m ih =>
    intro n bh bp w10 w11 hn hc
    have n0 : (0 : Int) ≤ n := by omega
    obtain ⟨y, y1, y2⟩ := so n n0 (by omega)
    have v := V _ n hr.1 hr.2 n0 (by omega) hg
    have hgo : ∀ (bh bp : Int) (w10 w11 : Option dm_V), cod2 bh bp (mnI Q (hF h (gi h (A + 3) k)) (n + 1)) (mnI Q (pF h (gi h (A + 3) k)) (n + 1)) → ∃ bh' bp' w9 y10 y11, cod2 bh' bp' (mnI Q (hF h (gi h (A + 3) k)) (n + (m + 1))) (mnI Q (pF h (gi h (A + 3) k)) (n + (m + 1))) ∧ dL d 24 238 [lR 1 0 144, lI k, lI (gi h (A + 3) k), w3, w4, lI E, lI key, lI bh, lI bp, lI n, w10, w11] [] h = (if bh' = -1 then dL d 24 264 [lR 1 0 144, lI k, lI (gi h (A + 3) k), w3, w4, lI E, lI key, lI bh', lI bp', lI w9, y10, y11] [dI (-1), dR 1 0 144] h else dL d 24 264 [lR 1 0 144, lI k, lI (gi h (A + 3) k), w3, w4, lI E, lI key, lI bh', lI bp', lI w9, y10, y11] [dI (if gi h 144 11 < bh' then bh' else gi h 144 11), dR 1 0 144] h) := by
      intro bh bp w10 w11 hc
      rw [b24_238, ck_p (by omega) (by omega)]
      have := ih (n + 1) bh bp w10 w11 (by omega) hc
      rw [show n + 1 + m = n + (m + 1) by omega, show ((n + 1 : Nat) : Int) = (n : Int) + 1 by omega] at this
      exact this
    rw [b24_138, if_pos (by omega), ix_p hr.1 hr.2, ix_p n0 (by omega)]
    by_cases q : gi h (145 + 1 + Int.toNat (gi h (A + 3) k)) n = -1
    · rw [if_pos q]
      refine hgo bh bp _ _ ?_
      have v2 : gi h (152 + 1 + Int.toNat (gi h (A + 3) k)) n = -1 := by unfold c2v at v; omega
      have e1 : hF h (gi h (A + 3) k) n = 1000000 := if_pos q
      have e2 : pF h (gi h (A + 3) k) n = 1000000 := if_pos v2
      have f1 : mnI Q (hF h (gi h (A + 3) k)) (n + 1) = mnI Q (hF h (gi h (A + 3) k)) n := by
        by_cases z : Q n
        · rw [mnI_s.1 z, e1, if_neg (by have := (mnI_le (P := Q) (g := hF h (gi h (A + 3) k)) n).1; omega)]
        · exact mnI_s.2 z
      have f2 : mnI Q (pF h (gi h (A + 3) k)) (n + 1) = mnI Q (pF h (gi h (A + 3) k)) n := by
        by_cases z : Q n
        · rw [mnI_s.1 z, e2, if_neg (by have := (mnI_le (P := Q) (g := pF h (gi h (A + 3) k)) n).1; omega)]
        · exact mnI_s.2 z
      rw [f1, f2]; exact hc
    · rw [if_neg q, ix_p hr.1 hr.2, ix_p n0 (by omega), a1, a2, rw_e, show gi h (P + 3 + (gi h (A + 3) k).toNat) n = rws h P (gi h (A + 3) k) n from rfl, y1, bk_v, b24_182]
      by_cases z : y = key
      · have hQ := y2.mp z
        have hc' := cod2_s hc v q
        rw [if_pos z, ix_p hr.1 hr.2, ix_p n0 (by omega)]
        have f1 : mnI Q (hF h (gi h (A + 3) k)) (n + 1) = if kc (gi h (145 + 1 + Int.toNat (gi h (A + 3) k)) n) < mnI Q (hF h (gi h (A + 3) k)) n then kc (gi h (145 + 1 + Int.toNat (gi h (A + 3) k)) n) else mnI Q (hF h (gi h (A + 3) k)) n := mnI_s.1 hQ
        have f2 : mnI Q (pF h (gi h (A + 3) k)) (n + 1) = if kc (gi h (152 + 1 + Int.toNat (gi h (A + 3) k)) n) < mnI Q (pF h (gi h (A + 3) k)) n then kc (gi h (152 + 1 + Int.toNat (gi h (A + 3) k)) n) else mnI Q (pF h (gi h (A + 3) k)) n := mnI_s.1 hQ
        rw [← f1, ← f2] at hc'
        have g2 : ∀ (x8 : Int) (bh : Int) (w10 : Option dm_V) (x11 : Int), ∃ w11, dL d 24 216 [lR 1 0 144, lI k, lI (gi h (A + 3) k), w3, w4, lI E, lI key, lI x8, lI bp, lI n, w10, lI x11] [dI bh] h = dL d 24 238 [lR 1 0 144, lI k, lI (gi h (A + 3) k), w3, w4, lI E, lI key, lI bh, lI (if bp = -1 then x11 else if x11 < bp then x11 else bp), lI n, w10, w11] [] h := by
          intro x8 bh w10 x11
          refine ⟨lI x11, ?_⟩
          rw [b24_216]
          by_cases y : bp = -1
          · rw [if_pos y, if_pos y, b24_236]
          · rw [if_neg y, if_neg y, b24_236]
        by_cases y : bh = -1
        · rw [if_pos y] at hc' ⊢
          obtain ⟨w11, e⟩ := g2 bh (gi h (145 + 1 + Int.toNat (gi h (A + 3) k)) n) (lI (gi h (145 + 1 + Int.toNat (gi h (A + 3) k)) n)) (gi h (152 + 1 + Int.toNat (gi h (A + 3) k)) n)
          rw [e]
          exact hgo _ _ _ _ hc'
        · rw [if_neg y] at hc' ⊢
          obtain ⟨w11, e⟩ := g2 bh (if gi h (145 + 1 + Int.toNat (gi h (A + 3) k)) n < bh then gi h (145 + 1 + Int.toNat (gi h (A + 3) k)) n else bh) (lI (gi h (145 + 1 + Int.toNat (gi h (A + 3) k)) n)) (gi h (152 + 1 + Int.toNat (gi h (A + 3) k)) n)
          rw [e]
          exact hgo _ _ _ _ hc'
      · rw [if_neg z]
        refine hgo bh bp _ _ ?_
        have hQ : ¬ Q n := fun w => z (y2.mpr w)
        rw [mnI_s.2 hQ, mnI_s.2 hQ]; exact hc
end WGH
