/-! THE CALLS repair and repairAt -/
section ORP
variable {h H h' : dm_H} {π : Int → Int}
/-- what finding a repair may touch in the class -/
def fgx (h h' : dm_H) : Prop := (∀ a i, ¬ (gr h 1 9 + 1 ≤ a ∧ a ≤ gr h 1 9 + 16) → ¬ (a = gr h 1 9 ∧ i = 5) → ¬ (137 ≤ a ∧ a ≤ 143) → ¬ (a = 1 ∧ (i = 16 ∨ i = 17)) → a ≠ 164 → ¬ (a = 165 ∧ i = 0) → gi h' a i = gi h a i) ∧ (∀ a i, ¬ (137 ≤ a ∧ a ≤ 143) → gr h' a i = gr h a i)
theorem fgx_trans {h h1 h2 : dm_H} (a : fgx h h1) (b : fgx h1 h2) : fgx h h2 := by
  have e : gr h1 1 9 = gr h 1 9 := a.2 _ _ (by omega)
  exact ⟨fun c i p q r s t u => by rw [b.1 c i (by rw [e]; exact p) (by rw [e]; exact q) r s t u, a.1 c i p q r s t u], fun c i p => by rw [b.2 c i p, a.2 c i p]⟩
theorem fgx_P (f : fpx h h') : fgx h h' := ⟨fun a i p q r _ _ _ => f.1 a i p q r, f.2.1⟩
theorem fgx_all (I : IN0 π h) (f : fgx h h') : IN0 π h' ∧ gr h' 1 8 = gr h 1 8 ∧ RLc h' = RLc h := by
  have hW := I.2.2.2.2.2.2.2.2.2.1
  have hP : gr h 1 8 = 95 ∨ gr h 1 8 = 112 := hW.1
  have hQ : gr h 1 9 = 95 ∨ gr h 1 9 = 112 := hW.2.1
  have hPQ := hW.2.2
  have fr : fr0 h h' := ⟨fun a i c => f.1 a i (by unfold crd at c; omega) (by unfold crd at c; omega) (by unfold crd at c; omega) (by unfold crd at c; omega) (by unfold crd at c; omega) (by unfold crd at c; omega), ⟨f.2 _ _ (by omega), f.2 _ _ (by omega), f.2 _ _ (by omega)⟩, fun j => f.2 _ _ (by omega)⟩
  have lo : ∀ a i, a = 6 ∨ a = 7 ∨ a = 2 ∨ a = 177 ∨ a = 178 → gi h' a i = gi h a i := fun a i q => f.1 a i (by omega) (by omega) (by omega) (by omega) (by omega) (by omega)
  have hl := CHL_cg fr (fun i => lo _ _ (by omega)) (fun i => lo _ _ (by omega)) (lo _ _ (by omega)) I
  have hA : ∀ j, 0 ≤ j → j < gi h 13 1 → ru (gr h 14 j) := fun j j0 j1 => (I.2.2.1.2.2.1 j j0 j1).1
  refine ⟨IN0_cg fr (rW_same (fun i => lo _ _ (by omega)) (fun i => lo _ _ (by omega))) hl.1 hl.2 I, f.2 _ _ (by omega), RLc_cg2 (f.1 _ _ (by omega) (by omega) (by omega) (by omega) (by omega) (by omega)) (fun j _ _ => f.2 _ _ (by omega)) (fun j j0 j1 a i p q _ => by
    have := ru_r (hA j j0 j1)
    exact f.1 a i (by omega) (by omega) (by omega) (by omega) (by omega) (by omega))⟩
theorem RPx_cg (I : IN0 π h) (f : fgx h h') {s a b : Int} : RPx h' s a b ↔ RPx h s a b := by
  have hW := I.2.2.2.2.2.2.2.2.2.1
  have hP : gr h 1 8 = 95 ∨ gr h 1 8 = 112 := hW.1
  have hQ : gr h 1 9 = 95 ∨ gr h 1 9 = 112 := hW.2.1
  have hPQ := hW.2.2
  obtain ⟨-, er, eR⟩ := fgx_all I f
  have hA : ∀ j, 0 ≤ j → j < gi h 13 1 → ru (gr h 14 j) := fun j j0 j1 => (I.2.2.1.2.2.1 j j0 j1).1
  have lo : ∀ a i, (a < 95 ∨ (129 ≤ a ∧ a ≤ 136)) → ¬ (a = 1 ∧ (i = 16 ∨ i = 17)) → gi h' a i = gi h a i := fun a i q r => f.1 a i (by omega) (by omega) (by omega) r (by omega) (by omega)
  have eK : cK h' = cK h := by unfold cK; simp only [show ∀ i, gi h' 3 i = gi h 3 i from fun i => lo _ _ (by omega) (by omega)]
  have e4 : gi h' 4 = gi h 4 := funext (fun i => lo _ _ (by omega) (by omega))
  have e7 : gi h' 7 = gi h 7 := funext (fun i => lo _ _ (by omega) (by omega))
  have e12 : gi h' 1 12 = gi h 1 12 := lo _ _ (by omega) (by omega)
  have e8 : gi h' 8 0 = gi h 8 0 := lo _ _ (by omega) (by omega)
  have eF : ftC h' = ftC h := by
    funext t g1 g2 r c
    unfold ftC
    simp only [e8, show ∀ i, gi h' 9 i = gi h 9 i from fun i => lo _ _ (by omega) (by omega), show ∀ i, gi h' 10 i = gi h 10 i from fun i => lo _ _ (by omega) (by omega), show ∀ i, gi h' 12 i = gi h 12 i from fun i => lo _ _ (by omega) (by omega)]
  have e13 : gi h' 13 1 = gi h 13 1 := lo _ _ (by omega) (by omega)
  have eb : ∀ ω, brk h' ω ↔ brk h ω := by
    intro ω
    have key : ∀ j, 0 ≤ j → j < gi h 13 1 → (brj h' ω j ↔ brj h ω j) := by
      intro j j0 j1
      have r := ru_r (hA j j0 j1)
      unfold brj
      rw [f.2 14 j (by omega)]
      obtain ⟨A, eA⟩ : ∃ A, gr h 14 j = A := ⟨_, rfl⟩
      rw [eA] at r ⊢
      rw [lo A 1 (by omega) (by omega), lo A 4 (by omega) (by omega), (uR_cg (A := A) (h := h) (h' := h') (fun a i p q _ => lo a i (by omega) (by omega))).2]
    unfold brk
    rw [e13]
    exact ⟨fun ⟨j, hj, q⟩ => ⟨j, hj, (key j hj.1 hj.2).mp q⟩, fun ⟨j, hj, q⟩ => ⟨j, hj, (key j hj.1 hj.2).mpr q⟩⟩
  have ebP : brk h' (cW h' (gr h' 1 8)) ↔ brk h (cW h (gr h 1 8)) := by
    have ew : eqW (cW h (gr h 1 8)) (cW h' (gr h 1 8)) := cW_far hW.1 (fun a i p q => f.1 a i (by omega) (by omega) (by omega) (by omega) (by omega) (by omega))
    rw [eb, er]
    exact (brk_set I (fun r r0 r1 _ c => inW_eq ew r r0 r1 c)).symm
  have ef : ∀ g1 g2, fine h' g1 g2 ↔ fine h g1 g2 := by
    intro g1 g2
    unfold fine hasQ
    rw [eK, e4, e7, eF, e12, eR]
    exact ⟨fun ⟨ω, g, q⟩ => ⟨ω, g, fun z => q ((eb ω).mpr z)⟩, fun ⟨ω, g, q⟩ => ⟨ω, g, fun z => q ((eb ω).mp z)⟩⟩
  unfold RPx
  simp only [ebP, ef, e8]
theorem fgx_f {x y : Int} : fgx h (si (si h 1 16 x) 1 17 y) := ⟨fun a i _ _ _ s _ _ => by rw [gi_si, if_neg (by omega), gi_si, if_neg (by omega)], fun _ _ _ => rfl⟩
theorem fgx_w {s a b : Int} : fgx h (si (si (si h 1 17 s) 164 0 a) 164 1 b) := ⟨fun c i _ _ _ r u _ => by rw [gi_si, if_neg (by omega), gi_si, if_neg (by omega), gi_si, if_neg (by omega)], fun _ _ _ => rfl⟩
theorem fgx_n {s : Int} : fgx h (si h 1 17 s) := ⟨fun c i _ _ _ r _ _ => by rw [gi_si, if_neg (by omega)], fun _ _ _ => rfl⟩
/-- the class finds a repair -/
theorem s18 {d : Nat} (hd : 12 ≤ d) (I : IN0 π h) (S : still h (gr h 1 8)) (F0 : gi h 1 16 = 0) : ∃ h', dF d 18 [dR 1 10 1] h = rV h' ∧ fgx h h' ∧ h'.2.2 = h.2.2 ∧ gi h' 1 16 = 1 ∧ RPx h (gi h' 1 17) (gi h' 164 0) (gi h' 164 1) := by
  obtain ⟨H0, eH0⟩ : ∃ H0, H0 = si (si h 1 16 1) 1 17 0 := ⟨_, rfl⟩
  have f0 : fgx h H0 := by rw [eH0]; exact fgx_f
  obtain ⟨I0, er, -⟩ := fgx_all I f0
  have hW := I.2.2.2.2.2.2.2.2.2.1
  have hP : gr h 1 8 = 95 ∨ gr h 1 8 = 112 := hW.1
  have hQ : gr h 1 9 = 95 ∨ gr h 1 9 = 112 := hW.2.1
  have hPQ := hW.2.2
  have S0 : still H0 (gr H0 1 8) := by
    rw [er]
    exact still_to (fun a i p q => f0.1 a i (by omega) (by omega) (by omega) (by omega) (by omega) (by omega)) (fun r _ _ => f0.1 _ _ (by omega) (by omega) (by omega) (by omega) (by omega) (by omega)) S
  have hQ0 : gr H0 1 9 = 95 ∨ gr H0 1 9 = 112 := by rw [f0.2 _ _ (by omega)]; exact hQ
  have V0 : VW (cK H0) (gi H0 4) (cW H0 (gr H0 1 8)) := I0.2.2.2.2.2.2.2.2.2.2.2.2.2.2.2.1
  have n24 := I0.2.2.2.2.2.2.2.2.1.1.1
  have k16 : gi H0 1 16 = 1 := by rw [eH0, gi_sij (by decide), gi_sis]
  have k17 : gi H0 1 17 = 0 := by rw [eH0, gi_sis]
  have tz : H0.2.2 = h.2.2 := by rw [eH0]; rfl
  have c0 : dF d 18 [dR 1 10 1] h = dm_back (dL (d - 1) 18) dm_t18 26 [lR 1 10 1, none, none, none, none, none, none] [] (dF (d - 1) 19 [dR 1 1 143, dR 1 7 (gr H0 1 8)] H0) := by
    rw [f18 (by omega), b18_0, if_pos F0, ← eH0]
  obtain ⟨b, H1, x1, x2, x3, x4⟩ := s19 (d := d - 1) (by omega) I0 (fpx_refl H0) (P := gr H0 1 8) (by rw [er]; exact hP) V0 S0
  have f1 : fpx H0 H1 := fpx_J x2
  rw [x1, bk_v, b18_29] at c0
  have wr : ∀ (s a b : Int) (H : dm_H), fpx H0 H → RPx H0 s a b → dF d 18 [dR 1 10 1] h = rV (si (si (si H 1 17 s) 164 0 a) 164 1 b) → ∃ h', dF d 18 [dR 1 10 1] h = rV h' ∧ fgx h h' ∧ h'.2.2 = h.2.2 ∧ gi h' 1 16 = 1 ∧ RPx h (gi h' 1 17) (gi h' 164 0) (gi h' 164 1) := by
    intro s a b H f r c
    refine ⟨_, c, fgx_trans f0 (fgx_trans (fgx_P f) fgx_w), ?_, ?_, ?_⟩
    · show H.2.2 = _
      rw [f.2.2, tz]
    · rw [gi_sin (by decide), gi_sin (by decide), gi_sij (by decide), f.1 _ _ (by omega) (by omega) (by omega)]; exact k16
    · have v1 : gi (si (si (si H 1 17 s) 164 0 a) 164 1 b) 1 17 = s := by rw [gi_sin (by decide), gi_sin (by decide), gi_sis]
      have v2 : gi (si (si (si H 1 17 s) 164 0 a) 164 1 b) 164 0 = a := by rw [gi_sij (by decide), gi_sis]
      have v3 : gi (si (si (si H 1 17 s) 164 0 a) 164 1 b) 164 1 = b := gi_sis
      rw [v1, v2, v3]
      exact (RPx_cg I f0).mp r
  rcases x3 with rfl | rfl
  · rw [if_pos rfl] at c0
    refine ⟨H1, c0, fgx_trans f0 (fgx_P f1), by rw [f1.2.2, tz], ?_, ?_⟩
    · rw [f1.1 _ _ (by omega) (by omega) (by omega)]; exact k16
    · rw [f1.1 1 17 (by omega) (by omega) (by omega), k17]
      exact (RPx_cg I f0).mp (Or.inl ⟨rfl, fun z => by have := x4.mpr z; omega⟩)
  · rw [if_neg (by decide), b18_37, if_neg (by decide)] at c0
    have br := x4.mp rfl
    rcases s18_1 (d := d) hd I0 br (gi H0 8 0).toNat 0 0 H1 none none none (by omega) (by omega) f1 ⟨st_z 24, fun k k0 k1 => by omega⟩ (fun j j0 j1 => by omega) with ⟨a, ha, z1, z2, H', z3, z4⟩ | ⟨z1, t', H', y4, y5, y6, z2, z3, z4⟩
    · exact wr 1 a a H' z4 (Or.inr (Or.inl ⟨rfl, br, ha, z1, z2⟩)) (by rw [c0, z3])
    · rw [z2, b18_37, if_neg (by decide)] at c0
      rcases s18_3 (d := d) hd I0 br z1 (gi H0 8 0).toNat 0 t' H' _ y5 y6 (by omega) (by omega) z3 z4 (fun i j i0 i1 => by omega) with ⟨a, b, hab, u1, u2, H2, u3, u4⟩ | ⟨u1, H2, u3, u4⟩
      · exact wr 2 a b H2 u4 (Or.inr (Or.inr (Or.inl ⟨rfl, br, z1, hab, u1, u2⟩))) (by rw [c0, u3])
      · rw [u3] at c0
        refine ⟨_, c0, fgx_trans f0 (fgx_trans (fgx_P u4) fgx_n), ?_, ?_, ?_⟩
        · show H2.2.2 = _
          rw [u4.2.2, tz]
        · rw [gi_sij (by decide), u4.1 _ _ (by omega) (by omega) (by omega)]; exact k16
        · rw [gi_sis]
          exact (RPx_cg I f0).mp (Or.inr (Or.inr (Or.inr ⟨rfl, br, z1, u1⟩)))
end ORP
