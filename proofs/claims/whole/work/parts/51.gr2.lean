/-! GROUPS take a binding -/
def frG (h h' : dm_H) : Prop := (∀ a i, ¬ (a = 140 ∧ i = 2) → a ≠ 141 → a ≠ 142 → gi h' a i = gi h a i) ∧ (∀ a i, gr h' a i = gr h a i) ∧ h'.2.2 = h.2.2
/-- the rule at A is u, as far as groups look at it -/
def GU (cl : Int → Int) (u : mU) (A : Nat) (h : dm_H) : Prop := gr h 140 1 = A ∧ gi h A 3 = cl u.2.1 ∧ (∀ i, gi h (A + 1) i = u.2.2.1 i) ∧ gi h A 1 = u.1 ∧ (u.1 = 1 ∨ u.1 = 2) ∧ (1 ≤ cl u.2.1 ∧ cl u.2.1 ≤ 3)
theorem m99_if (z : Int) : (if z < 99 then z else 99) = m99 z := by
  unfold m99
  repeat' split
  all_goals omega
theorem gam_r {cl : Int → Int} {u : mU} {v : mA} (hc : 1 ≤ cl u.2.1) (ht : ∀ i, 0 ≤ i → i < cl u.2.1 → 0 ≤ tv v (u.2.2.1 i) ∧ tv v (u.2.2.1 i) ≤ 99) : 0 ≤ gam cl u v ∧ gam cl u v ≤ 99 := by
  unfold gam
  split
  · omega
  · exact ht _ (by omega) (by omega)
theorem s29 {d : Nat} (hd : 2 ≤ d) {cl : Int → Int} {u : mU} {A : Nat} {l : List mA} {h : dm_H} {v : mA} (U : GU cl u A h) (hva : va h 138 = v) (ht : ∀ i, 0 ≤ i → i < cl u.2.1 → 0 ≤ tv v (u.2.2.1 i) ∧ tv v (u.2.2.1 i) ≤ 99) (G : GR cl u l h) (hl : ∀ w, w ∈ l → 0 ≤ gam cl u w) (hru : ru A) :
    (∃ g h', dF d 29 [dR 1 4 140] h = rI g h' ∧ GR cl u (l ++ [v]) h' ∧ frG h h' ∧ (0 ≤ g ∧ g < gi h' 140 2) ∧ gi h' 141 g = gkv cl u v ∧ (∀ x, x < gi h 140 2 → gi h' 141 x = gi h 141 x) ∧ gi h 140 2 ≤ gi h' 140 2) ∨
    (dF d 29 [dR 1 4 140] h = rI (-1) (si h 140 3 1) ∧ gi h 140 2 = 32 ∧ ∀ x, 0 ≤ x → x < 32 → gi h 141 x ≠ gkv cl u v) := by
  obtain ⟨u1, u2, u3, u4, u5, u6⟩ := U
  obtain ⟨g1, g2, g3, g4⟩ := G
  have eh : gi h (A + 1) = u.2.2.1 := funext u3
  have hga := gam_r u6.1 ht
  have h26 : dF (d - 1) 26 [dR 1 8 A, dR 2 8 138, dI (cl u.2.1 - 1)] h = rI (gkv cl u v) h := by
    have := s26 (d := d - 1) (by omega) A (cl u.2.1 - 1) h (by omega) (fun i i0 i1 => by rw [hva, u3]; exact ht i i0 (by omega))
    rw [hva, eh] at this
    exact this
  obtain ⟨g, e1, e2, e3, e4⟩ := s30 (d := d - 1) (by omega) h (gkv cl u v) g1
  have hpre : dF d 29 [dR 1 4 140] h = dL (d - 1) 29 29 [lR 1 4 140, lI (gkv cl u v), none, none] [dI g] h := by
    rw [f29 (by omega), b29_0, u1, u2, ck_p (by omega) (by omega), h26, bk_v, b29_23, e1, bk_v]
  -- behind the group's place
  have hend : ∀ (H : dm_H) (w1 w3 : Option dm_V) (b : Int), gr H 140 1 = A → gi H A 3 = cl u.2.1 → (∀ i, gi H (A + 1) i = u.2.2.1 i) → gi H A 1 = u.1 → va H 138 = v → 0 ≤ g → g < 32 → gi H 142 g = b → 0 ≤ b → b ≤ 99 → dL (d - 1) 29 75 [lR 1 4 140, w1, lI g, w3] [] H = rI g (si H 142 g (m99 (b + gam cl u v))) := by
    intro H w1 w3 b y1 y2 y3 y4 y5 g0 g32 yb b0 b99
    have hfin : ∀ (w1 : Option dm_V) (x : Int), 0 ≤ x → x ≤ 99 → x = gam cl u v → dL (d - 1) 29 130 [lR 1 4 140, w1, lI g, lI x] [] H = rI g (si H 142 g (m99 (b + gam cl u v))) := by
      intro w1 x x0 x1 x2
      rw [b29_130, ix_p g0 (by omega), yb, ck_p (by omega) (by omega), ix_p g0 (by omega), m99_if, x2]
    rw [b29_75, y1, y4]
    by_cases q : u.1 = 2
    · rw [if_pos q, y2, if_pos (by omega), ck_p (by omega) (by omega), ix_p (by omega) (by omega), s31 (by omega), bk_v, b29_129, tv_va, y5, y3]
      have := ht (cl u.2.1 - 1) (by omega) (by omega)
      refine hfin _ _ this.1 this.2 ?_
      unfold gam
      rw [if_neg (by omega)]
    · rw [if_neg q]
      refine hfin _ 1 (by omega) (by omega) ?_
      unfold gam
      rw [if_pos (by omega)]
  by_cases g32 : g < 32
  · left
    by_cases gn : g = gi h 140 2
    · refine ⟨g, si (si (si (si h 141 g (gkv cl u v)) 142 g 0) 140 2 (gi h 140 2 + 1)) 142 g (m99 (0 + gam cl u v)), ?_, ?_, ?_, ?_, ?_, ?_, ?_⟩
      · have hA := ru_ne hru
        rw [hpre, b29_29, if_pos g32, if_pos gn, ix_p e2.1 (by omega), ix_p e2.1 (by omega), gi_sin (by decide), gi_sin (by decide), ck_p (by omega) (by omega)]
        have lo : ∀ (a : Nat) i, a ≤ 138 → gi (si (si (si h 141 g (gkv cl u v)) 142 g 0) 140 2 (gi h 140 2 + 1)) a i = gi h a i := by
          intro a i ha
          rw [gi_sin (by omega), gi_sin (by omega), gi_sin (by omega)]
        refine hend _ _ _ 0 u1 (by rw [lo _ _ (by omega)]; exact u2) (fun i => by rw [lo _ _ (by omega)]; exact u3 i) (by rw [lo _ _ (by omega)]; exact u4) ?_ e2.1 g32 (by rw [gi_sin (by decide), gi_sis]) (by omega) (by omega)
        refine Eq.trans ?_ hva
        funext x
        unfold va
        rw [lo 138 x (by omega)]
      · refine GR_new (g := g) ⟨g1, g2, g3, g4⟩ gn g32 e3 ?_ (fun x => ?_) (fun x => ?_) hga.1
        · rw [gi_sin (by decide), gi_sis]
        · rw [gi_sin (by decide), gi_sin (by decide), gi_sin (by decide), gi_si]
          by_cases q : x = g
          · rw [if_pos ⟨rfl, q⟩, if_pos q]
          · rw [if_neg (fun z => q z.2), if_neg q]
        · rw [gi_si]
          by_cases q : x = g
          · rw [if_pos ⟨rfl, q⟩, if_pos q]
          · rw [if_neg (fun z => q z.2), if_neg q, gi_sin (by decide), gi_sij q, gi_sin (by decide)]
      · refine ⟨fun a i p1 p2 p3 => ?_, fun _ _ => rfl, rfl⟩
        rw [gi_sin p3, gi_si, if_neg p1, gi_sin p3, gi_sin p2]
      · rw [gi_sin (by decide), gi_sis]; omega
      · rw [gi_sin (by decide), gi_sin (by decide), gi_sin (by decide), gi_sis]
      · intro x hx
        rw [gi_sin (by decide), gi_sin (by decide), gi_sin (by decide), gi_sij (by omega)]
      · rw [gi_sin (by decide), gi_sis]; omega
    · have gl : g < gi h 140 2 := by omega
      have ek := e4 gl
      obtain ⟨_, t1⟩ := g3 g e2.1 gl
      have hb : 0 ≤ gi h 142 g ∧ gi h 142 g ≤ 99 := by
        rw [t1]
        exact m99_r (gsm_nn hl)
      refine ⟨g, si h 142 g (m99 (gi h 142 g + gam cl u v)), ?_, ?_, ?_, ?_, ?_, ?_, ?_⟩
      · rw [hpre, b29_29, if_pos g32, if_neg gn]
        exact hend h _ _ _ u1 u2 u3 u4 hva e2.1 g32 rfl hb.1 hb.2
      · refine GR_old (g := g) ⟨g1, g2, g3, g4⟩ ⟨e2.1, gl⟩ ek (gi_sin (by decide)) (fun x => gi_sin (by decide)) (fun x => ?_) hga.1
        rw [gi_si]
        by_cases q : x = g
        · rw [if_pos ⟨rfl, q⟩, if_pos q]
        · rw [if_neg (fun z => q z.2), if_neg q]
      · exact ⟨fun a i p1 p2 p3 => gi_sin p3, fun _ _ => rfl, rfl⟩
      · rw [gi_sin (by decide)]; exact ⟨e2.1, gl⟩
      · rw [gi_sin (by decide)]; exact ek
      · intro x _; exact gi_sin (by decide)
      · rw [gi_sin (by decide)]; omega
  · right
    have : g = 32 := by omega
    refine ⟨?_, by omega, fun x x0 x1 => e3 x x0 (by omega)⟩
    rw [hpre, b29_29, if_neg g32]
