/-! COSTS: the class finds them -/
section CFI
variable {h H : dm_H} {π : Int → Int}
/-- what facts cost: nothing in height, their price -/
def fcH (h : dm_H) (r c a : Int) : Prop := ∃ i, (0 ≤ i ∧ i < gi h 8 0) ∧ gi h 9 i = r ∧ gi h 10 i = c ∧ a = 0
def fcP (h : dm_H) (r c a : Int) : Prop := ∃ i, (0 ≤ i ∧ i < gi h 8 0) ∧ gi h 9 i = r ∧ gi h 10 i = c ∧ a = gi h 11 i
/-- stable heights, and prices -/
def SH (h : dm_H) (s : Int → Int → Int) : Prop := STB 0 (cK h) (RLc h) (fcH h) (cW h (gr h 1 8)) s
def SP (h : dm_H) (s : Int → Int → Int) : Prop := STB 1 (cK h) (RLc h) (fcP h) (cW h (gr h 1 8)) s
theorem SH_r {u : mU} (hu : RLc h u) : SBr 0 (SH h) (cK h) u (cW h (gr h 1 8)) := fun _ hs => ⟨hs.1, hs.2.2 u hu⟩
theorem SP_r {u : mU} (hu : RLc h u) : SBr 1 (SP h) (cK h) u (cW h (gr h 1 8)) := fun _ hs => ⟨hs.1, hs.2.2 u hu⟩
/-- no cost yet -/
theorem s153i {d : Nat} (hd : 2 ≤ d) (n6 : gi h 2 0 ≤ 6) (w1 : Option dm_V) : ∀ (m : Nat) (k : Int) (H : dm_H) (w3 : Option dm_V), 0 ≤ k → k + m = gi h 2 0 → gi H 2 0 = gi h 2 0 → frO h H → gr H 144 5 = gr h 1 8 → (∀ r x, 0 ≤ r → r < k → 0 ≤ x → x < 32 → gi H (145 + 1 + Int.toNat r) x = -1 ∧ gi H (152 + 1 + Int.toNat r) x = -1) → ∃ H' w3', dL (d - 1) 153 7 [lR 1 0 144, w1, lI k, w3] [] H = dL (d - 1) 153 46 [lR 1 0 144, w1, lI 0, w3'] [] H' ∧ frO h H' ∧ gr H' 144 5 = gr h 1 8 ∧ (∀ r x, 0 ≤ r → r < gi h 2 0 → 0 ≤ x → x < 32 → gi H' (145 + 1 + Int.toNat r) x = -1 ∧ gi H' (152 + 1 + Int.toNat r) x = -1) := by
  intro m
  induction m with
  | zero =>
    intro k H w3 k0 km e f g c
    refine ⟨H, w3, ?_, f, g, fun r x r0 r1 => c r x r0 (by omega)⟩
    rw [b153_7, e, if_neg (by omega)]
  | succ m ih =>
    intro k H w3 k0 km e f g c
    have f2 : frO H (fill (fill H (145 + 1 + Int.toNat k) 32 (-1)) (152 + 1 + Int.toNat k) 32 (-1)) := ⟨fun a i p => by rw [gi_fill, if_neg (by omega), gi_fill, if_neg (by omega)], fun _ _ _ => rfl, rfl⟩
    rw [b153_7, e, if_pos (by omega), ix_p k0 (by omega), s21 (by omega) 32 _ (-1) _ (by omega), bk_n, b153_28, ix_p k0 (by omega), s21 (by omega) 32 _ (-1) _ (by omega), bk_n, b153_38, ck_p (by omega) (by omega)]
    refine ih (k + 1) _ _ (by omega) (by omega) (by rw [gi_fill, if_neg (by omega), gi_fill, if_neg (by omega)]; exact e) (frO_t f f2) g (fun r x r0 r1 x0 x1 => ?_)
    by_cases q : r = k
    · subst q
      refine ⟨?_, ?_⟩
      · rw [gi_fill, if_neg (by omega), gi_fill, if_pos ⟨rfl, x0, x1⟩]
      · rw [gi_fill, if_pos ⟨rfl, x0, x1⟩]
    · have := c r x r0 (by omega) x0 x1
      rw [gi_fill, if_neg (by omega), gi_fill, if_neg (by omega), gi_fill, if_neg (by omega), gi_fill, if_neg (by omega)]
      exact this
/-- what all heaps on the way are -/
def onW (h H : dm_H) : Prop := frO h H ∧ gr H 144 5 = gr h 1 8 ∧ CC H ∧ (LBS (SH h) (cW h (gr h 1 8)) (hF H) ∧ LBS (SP h) (cW h (gr h 1 8)) (pF H))
/-- facts' offers -/
def fgt (h H : dm_H) (n : Int) : Prop := ∀ i, 0 ≤ i → i < n → ∀ x, plW (cW h (gr h 1 8)) (gi h 9 i) (gi h 10 i) x → hF H (gi h 9 i) x ≤ 0 ∧ pF H (gi h 9 i) x ≤ gi h 11 i
theorem fgt_m (I : IN0 π h) {n : Int} (hn : n ≤ gi h 8 0) {H H' : dm_H} {sz : Int → Int} (m : cmv sz H H') (g : fgt h H n) : fgt h H' n := fun i i0 i1 x hx => by
  have F := I.2.2.2.2.2.2.2.2.1.1.2 i i0 (by omega)
  have V := I.2.2.2.2.2.2.2.2.2.2.2.2.2.2.2.1
  have := g i i0 i1 x hx
  have h6 := I.1.1.1
  have := m.1 (gi h 9 i) x F.1.1 (by omega) hx.1.1 (by have := hx.1.2; have := (V _ F.1.1 (by omega)).1.2; omega)
  exact ⟨by omega, by omega⟩
theorem s153f {d : Nat} (hd : 3 ≤ d) (I : IN0 π h) (w1 : Option dm_V) : ∀ (m : Nat) (k : Int) (H : dm_H) (w3 : Option dm_V), 0 ≤ k → k + m = gi h 8 0 → onW h H → fgt h H k → ∃ H' w3', dL (d - 1) 153 46 [lR 1 0 144, w1, lI k, w3] [] H = dL (d - 1) 153 102 [lR 1 0 144, w1, lI 0, w3'] [] (si H' 144 13 1) ∧ onW h H' ∧ fgt h H' (gi h 8 0) := by
  have V := I.2.2.2.2.2.2.2.2.2.2.2.2.2.2.2.1
  have n24 := I.2.2.2.2.2.2.2.2.1.1.1
  have h6 := I.1.1.1
  have hP : gr h 1 8 = 95 ∨ gr h 1 8 = 112 := I.2.2.2.2.2.2.2.2.2.1.1
  intro m
  induction m with
  | zero =>
    intro k H w3 k0 km o g
    refine ⟨H, w3, ?_, o, by rw [show gi h 8 0 = k by omega]; exact g⟩
    rw [b153_46, o.1.1 8 0 (by omega), if_neg (by omega)]
  | succ m ih =>
    intro k H w3 k0 km o g
    obtain ⟨f, g5, C, L⟩ := o
    have F := I.2.2.2.2.2.2.2.2.1.1.2 k k0 (by omega)
    have Fp := (I.2.2.2.2.2.2.2.2.1.2.2.2.2.1 k k0 (by omega)).1
    have eX : ∀ a i, a < 137 → gi H a i = gi h a i := fun a i ha => f.1 a i (Or.inl ha)
    have hr : 0 ≤ gi h 9 k ∧ gi h 9 k < 6 := ⟨F.1.1, by omega⟩
    have n0 := (nD_r H).1
    obtain ⟨h2, y1, y2, y3, y4, y5, y6⟩ := s27 (d := d - 1) (h := H) (P := gr h 1 8) (r := gi h 9 k) (c := gi h 10 k) (a := 0) (b := gi h 11 k) (by omega) g5 C hr (by rw [show rsz H (gr h 1 8) (gi h 9 k) = rsz h (gr h 1 8) (gi h 9 k) from eX _ _ (by omega)]; exact (V _ hr.1 hr.2).1) (fun x x0 x1 => by rw [eX 2 0 (by omega)]; exact F.1.2) (fun a b a0 ab b1 e => by
      rw [show rws H (gr h 1 8) (gi h 9 k) a = (cW h (gr h 1 8)).2 (gi h 9 k) a from eX _ _ (by omega), show rws H (gr h 1 8) (gi h 9 k) b = (cW h (gr h 1 8)).2 (gi h 9 k) b from eX _ _ (by omega)] at e
      rw [show rsz H (gr h 1 8) (gi h 9 k) = rsz h (gr h 1 8) (gi h 9 k) from eX _ _ (by omega)] at b1
      obtain ⟨i, _, _, i2⟩ := (V _ hr.1 hr.2).2.2 a b a0 ab b1
      exact i2 (by rw [e])) (by omega) (by omega)
    have hpl : ∀ r c x, 0 ≤ r → r < 6 → (plW (cW H (gr h 1 8)) r c x ↔ plW (cW h (gr h 1 8)) r c x) := fun r c x r0 r1 => plW_e hP eX ⟨r0, r1⟩
    have m9p : m9 (gi h 11 k) = gi h 11 k := by unfold m9; rw [if_neg (by omega)]
    rw [m9p] at y5 y6
    have o2 : onW h h2 := ⟨frO_t f (frO_27 y2), by rw [y2.2.1]; exact g5, y3, fun s hs r x r0 r1 x0 x1 => by
      rcases (y6 r x r0 r1).1 with w | ⟨w, wp, we⟩
      · rw [w]; exact L.1 s hs r x r0 r1 x0 x1
      · rw [we]
        exact hs.2.1 r (gi h 10 k) 0 r0 r1 ⟨k, ⟨k0, by omega⟩, w.symm, rfl, rfl⟩ x (by rw [w]; exact (hpl _ _ _ hr.1 hr.2).mp wp), fun s hs r x r0 r1 x0 x1 => by
      rcases (y6 r x r0 r1).2 with w | ⟨w, wp, we⟩
      · rw [w]; exact L.2 s hs r x r0 r1 x0 x1
      · rw [we]
        exact hs.2.1 r (gi h 10 k) (gi h 11 k) r0 r1 ⟨k, ⟨k0, by omega⟩, w.symm, rfl, rfl⟩ x (by rw [w]; exact (hpl _ _ _ hr.1 hr.2).mp wp)⟩
    have g2 : fgt h h2 (k + 1) := fun i i0 i1 x hx => by
      by_cases e : i = k
      · rw [e] at hx ⊢
        exact y5 x ((hpl _ _ _ hr.1 hr.2).mpr hx)
      · exact fgt_m I (by omega) y4 g i i0 (by omega) x hx
    obtain ⟨H', w3', z1, z2⟩ := ih (k + 1) h2 w3 (by omega) (by omega) o2 g2
    refine ⟨H', w3', ?_, z2⟩
    rw [b153_46, eX 8 0 (by omega), if_pos (by omega), ix_p k0 (by omega), ix_p k0 (by omega), ix_p k0 (by omega), eX 9 k (by omega), eX 10 k (by omega), eX 11 k (by omega), y1, bk_n, b153_89, ck_p (by omega) (by omega), z1]
end CFI
