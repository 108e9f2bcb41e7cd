/-! WHAT IS FOUND on both sides, packed -/
section FND
variable {h : dm_H}
/-- only what hangs and layers are other ones, in the class -/
def frCH (h h' : dm_H) : Prop := (∀ a i, a ≠ 6 → a ≠ 7 → ¬ (a = 2 ∧ i = 6) → gi h' a i = gi h a i) ∧ (∀ a i, gr h' a i = gr h a i) ∧ h'.2.2 = h.2.2
theorem frCH_trans {h h1 h2 : dm_H} (a : frCH h h1) (b : frCH h1 h2) : frCH h h2 := ⟨fun c i p q r => by rw [b.1 c i p q r, a.1 c i p q r], fun c i => by rw [b.2.1, a.2.1], by rw [b.2.2, a.2.2]⟩
/-- the rules of the class's book stay the same ones -/
theorem RLc_cg {h h' : dm_H} (hA : ∀ j, 0 ≤ j → j < gi h 13 1 → ru (gr h 14 j)) (e : ∀ a i, 13 ≤ a → a ≤ 136 → gi h' a i = gi h a i) (er : ∀ j, gr h' 14 j = gr h 14 j) : RLc h' = RLc h := by
  have key : ∀ j, 0 ≤ j → j < gi h 13 1 → gi h' (gr h 14 j) 1 = gi h (gr h 14 j) 1 ∧ uR h' (gr h 14 j) = uR h (gr h 14 j) := by
    intro j j0 j1
    have r := hA j j0 j1
    have hr : 15 ≤ gr h 14 j ∧ gr h 14 j + 7 < 137 := by unfold ru at r; omega
    obtain ⟨A, eA⟩ : ∃ A, A = gr h 14 j := ⟨_, rfl⟩
    rw [← eA] at hr ⊢
    have c : cR h' A = cR h A := by
      unfold cR
      rw [show gi h' (A + 2) = gi h (A + 2) from funext (fun i => e _ i (by omega) (by omega)), show gi h' (A + 3) = gi h (A + 3) from funext (fun i => e _ i (by omega) (by omega)), show gi h' (A + 4) = gi h (A + 4) from funext (fun i => e _ i (by omega) (by omega))]
      have : (fun k => tm h' A k) = fun k => tm h A k := by
        funext k i
        exact e (A + 5) _ (by omega) (by omega)
      rw [this]
    refine ⟨e A 1 (by omega) (by omega), ?_⟩
    unfold uR
    rw [c, e A 1 (by omega) (by omega), e A 2 (by omega) (by omega), e A 4 (by omega) (by omega), show gi h' (A + 1) = gi h (A + 1) from funext (fun i => e _ i (by omega) (by omega))]
  have e13 := e 13 1 (by omega) (by omega)
  funext u
  refine propext ⟨fun ⟨j, j0, j1, j2, j3⟩ => ?_, fun ⟨j, j0, j1, j2, j3⟩ => ?_⟩
  · rw [e13] at j1
    rw [er] at j2 j3
    obtain ⟨k1, k2⟩ := key j j0 j1
    exact ⟨j, j0, j1, by rw [← k1]; exact j2, by rw [← k2]; exact j3⟩
  · obtain ⟨k1, k2⟩ := key j j0 j1
    exact ⟨j, j0, by rw [e13]; exact j1, by rw [er, k1]; exact j2, by rw [er, k2]; exact j3⟩
/-- what hangs, in the class -/
def CH (h : dm_H) : Prop := st6 h 6 ∧ LT (eg (RLc h)) (bh h 6)
/-- layers, in the class -/
def CL (h : dm_H) : Prop := lyL (gi h 4) (ocL (RLc h)) (RLc h) (gi h 7) ∧ (∀ r, 0 ≤ r → r < 6 → gi h 7 r ≤ gi h 2 6) ∧ 0 ≤ gi h 2 6 ∧ gi h 2 6 ≤ 5
theorem CH_oc (c : CH h) : ocH h 6 = ocL (RLc h) := ocH_L c.2
/-- rules that are not layerless have layers -/
theorem lay_ex {cl kd : Int → Int} {n : Int} {RL : mU → Prop} (T : ∃ H : Int → Int → Prop, LT (eg RL) H) (h1 : ∀ u, RL u → G1 cl n u) (h2 : ∀ u, RL u → ¬ LYL (ocL RL) u) : ∃ f, lyS kd (ocL RL) RL f ∧ ∀ r, 0 ≤ r → r < 6 → f r ≤ 5 := by
  obtain ⟨H, T⟩ := T
  have e : (fun r q => r = q ∨ (H r q ∧ H q r)) = ocL RL := by
    funext r q
    unfold ocL
    rw [LTc_of T, LTc_of T]
  have := lyS_ex (kd := kd) T (fun u hu => (h1 u hu).2.2.1.1) (by rw [e]; exact h2)
  rw [e] at this
  exact this
/-- connect and layOut, one behind the other -/
theorem con_lay {d : Nat} (hd : 3 ≤ d) (C : CB h) (g : ∀ u, RLc h u → G1 (cK h) (gi h 2 0) u) (g2 : ∀ u, RLc h u → ¬ LYL (ocL (RLc h)) u) : ∃ h1 h2, dF d 109 [dR 1 9 13] h = rV h1 ∧ dF d 119 [dR 1 9 13] h1 = rV h2 ∧ frCH h h2 ∧ CH h2 ∧ CL h2 ∧ RLc h2 = RLc h := by
  have hA : ∀ j, 0 ≤ j → j < gi h 13 1 → ru (gr h 14 j) := fun j j0 j1 => (C.2.2 j j0 j1).1
  obtain ⟨h1, x1, x2, x3, x4, x5, x6, -⟩ := s109 (d := d) (by omega) C
  have r1 : RLc h1 = RLc h := RLc_cg hA (fun a i p q => x2 a i (by omega)) (fun j => x3 14 j)
  have C1 : CB h1 := by
    obtain ⟨c1, c2, c3⟩ := C
    unfold CB
    simp only [x3]
    refine ⟨by rw [x2 _ _ (by omega)]; exact c1, by rw [x2 _ _ (by omega)]; exact c2, fun j j0 j1 => ?_⟩
    rw [x2 _ _ (by omega)] at j1
    obtain ⟨d1, d2, d3, d4⟩ := c3 j j0 j1
    have hr : 15 ≤ gr h 14 j ∧ gr h 14 j + 7 < 137 := by unfold ru at d1; omega
    refine ⟨d1, by rw [x2 _ _ (by omega)]; exact d2, fun q => ?_, fun k k0 k1 q => ?_⟩
    · rw [x2 _ _ (by omega)] at q
      rw [x2 _ _ (by omega), x2 _ _ (by omega)]; exact d3 q
    · rw [x2 _ _ (by omega)] at k1
      rw [x2 _ _ (by omega)] at q
      rw [x2 _ _ (by omega), x2 _ _ (by omega)]; exact d4 k k0 k1 q
  have T1 : LT (eg (RLc h1)) (bh h1 6) := by rw [r1]; exact x6
  have e4 : gi h1 4 = gi h 4 := funext (fun i => x2 4 i (by omega))
  obtain ⟨f, f1, f2⟩ := lay_ex (kd := gi h 4) ⟨_, x6⟩ g g2
  have oc1 : ocH h1 6 = ocL (RLc h) := by rw [ocH_L T1, r1]
  obtain ⟨h2, y1, y2, y3, y4, y5⟩ := s119 (d := d) (by omega) C1 x5 (f0 := f) (by rw [e4, oc1, r1]; exact f1) f2
  have r2 : RLc h2 = RLc h := by
    rw [← r1]
    exact RLc_cg (fun j j0 j1 => by rw [x3]; rw [x2 _ _ (by omega)] at j1; exact hA j j0 j1) (fun a i p q => y2.1 a i (by omega) (by omega)) (fun j => y2.2.1 14 j)
  refine ⟨h1, h2, x1, y1, ⟨fun a i p q r => by rw [y2.1 a i q r, x2 a i p], fun a i => by rw [y2.2.1, x3], by rw [y2.2.2, x4]⟩, ⟨fun r r0 r1 => ?_, ?_⟩, ⟨?_, y4, y5⟩, r2⟩
  · rw [y2.1 6 r (by omega) (by omega)]; exact x5 r r0 r1
  · rw [r2]
    have : bh h2 6 = bh h1 6 := by
      funext r q
      unfold bh
      rw [y2.1 6 r (by omega) (by omega)]
    rw [this]; exact x6
  · have e42 : gi h2 4 = gi h1 4 := funext (fun i => y2.1 4 i (by omega) (by omega))
    rw [r2, e42]
    rw [oc1, r1] at y3
    exact y3
/-- the reference finds what follows -/
theorem ref_follows {cl kd ly : Int → Int} {RL : mU → Prop} {U : Int → mU} {n : Int} {d : Nat} (hd : 12 ≤ d) (D : DC cl kd) (hn : n ≤ 6) (G : GOOD cl kd n RL) (hk : ∀ r, gi h 167 r = kd r) (F : FVr cl kd h) (B : HBr cl kd RL U h) (l : lyL kd (ocL RL) RL ly) (l5 : ∀ r, 0 ≤ r → r < 6 → ly r ≤ 5) :
    ∃ b h', dF d 177 [dR 1 11 165] h = rI b h' ∧ frF h h' ∧ (∀ r, 0 ≤ r → r < 6 → gi h' 176 r = ly r) ∧ ((b = 1 ∧ SRT (rW h') ∧ gds cl kd ly (ftR h) RL 12 (rW h')) ∨ (b = 0 ∧ muc cl kd ly (ftR h) RL)) := by
  have hS : ∀ u, RL u → HSu u := fun u hu => (G u hu).1.2.2.1.1
  obtain ⟨h1, x1, x2, x3, x4, x5, x6⟩ := s178 (d := d - 1) (by omega) B hS
  have f1 : frY h h1 := ⟨fun a i p => x2 a i (by omega), x3, x4⟩
  have B1 := HBr_F (frF_Y f1) B
  have oc1 : ocH h1 175 = ocL RL := ocH_L x6
  obtain ⟨h2, y1, y2, y3, y4, y5⟩ := s182 (d := d - 1) (by omega) B1 hS (fun r => by rw [x2 _ _ (by omega)]; exact hk r) x5 (f := ly) (by rw [oc1]; exact l) l5
  have f2 : frY h1 h2 := ⟨fun a i p => y2 a i (by omega), y3, y4⟩
  obtain ⟨b, h', z1, z2, z3, z4⟩ := s177 (d := d) (by omega) D (RU_of hn G l.1) F B x1 f1 y1 f2 y5
  exact ⟨b, h', z1, z2, fun r r0 r1 => by rw [z3.2, y5 r r0 r1], z4⟩
/-- the class finds what follows -/
theorem cls_follows {π : Int → Int} {d : Nat} (hd : 10 ≤ d) {P : Nat} (hp : rw_ P) (K : RK h) (B : BKS π h) (G : GOOD (cK h) (gi h 4) (gi h 2 0) (RLc h)) (L : CL h) (F : FV h) (t g1 g2 : Int) :
    ∃ b h', dF d 58 [dR 1 1 143, dR 1 7 P, dI t, dI g1, dI g2] h = rI b h' ∧ frS P h h' ∧ ((b = 1 ∧ gds (cK h) (gi h 4) (gi h 7) (ftC h t g1 g2) (RLc h) (gi h 2 6 + 1) (cW h' P)) ∨ (b = 0 ∧ muc (cK h) (gi h 4) (gi h 7) (ftC h t g1 g2) (RLc h))) :=
  s58 hd hp K (BKS_BK K B (RU_of K.1.2 G L.1.1)) F (by have := L.2.2; omega) t g1 g2
end FND
