/-! THE INVARIANT, on: the class's book alone; facts; rows -/
/-- a rule of the class's book, by itself -/
def RIc (A : Nat) (h : dm_H) : Prop := ru A ∧ DSH A h ∧ SAFE (cR h A) (gi h A 4) (gi h A 1) (gi h A 3) (gi h (A + 1)) ∧ (0 ≤ gi h A 7 ∧ gi h A 7 ≤ gi h A 4) ∧ ∀ i, 0 ≤ i → i < gi h A 3 → slot (gi h (A + 1) i) ≠ -1 → kng (cR h A) (gi h A 7) (slot (gi h (A + 1) i))
def CBS (h : dm_H) : Prop := (0 ≤ gi h 13 1 ∧ gi h 13 1 ≤ 10) ∧ ∀ j, 0 ≤ j → j < gi h 13 1 → RIc (gr h 14 j) h
theorem gds_up {cl kd ly : Int → Int} {ft : Int → Int → Prop} {RL : mU → Prop} {n m : Int} {ω : mW} (hl : ∀ r, 0 ≤ r → r < 6 → ly r < n) (hU : ∀ u, RL u → 0 ≤ u.2.1 ∧ u.2.1 < 6) (g : gds cl kd ly ft RL n ω) : gds cl kd ly ft RL m ω := by
  refine ⟨g.1, fun L L0 L1 => ?_⟩
  by_cases z : L < n
  · exact g.2 L L0 z
  · refine ⟨⟨fun r c r0 r1 _ l _ => ?_, fun u hu _ l _ _ => ?_⟩, fun Dm ω' _ _ _ _ r r0 r1 _ l _ _ => ?_⟩
    · have := hl r r0 r1; omega
    · have a := hU u hu
      have := hl _ a.1 a.2; omega
    · have := hl r r0 r1; omega
theorem gds_ly {cl kd ly ly' : Int → Int} {ft : Int → Int → Prop} {RL : mU → Prop} {n : Int} {ω : mW} (e : ∀ r, 0 ≤ r → r < 6 → ly' r = ly r) (hU : ∀ u, RL u → 0 ≤ u.2.1 ∧ u.2.1 < 6) (g : gds cl kd ly ft RL n ω) : gds cl kd ly' ft RL n ω := by
  refine ⟨g.1, fun L L0 L1 => ?_⟩
  obtain ⟨⟨a1, a2⟩, a3⟩ := g.2 L L0 L1
  refine ⟨⟨fun r c r0 r1 q l f => a1 r c r0 r1 q (by rw [← e r r0 r1]; exact l) f, fun u hu q l c m => a2 u hu q (by have b := hU u hu; rw [← e _ b.1 b.2]; exact l) c m⟩, fun Dm ω' d v low c r r0 r1 q l x hx => ?_⟩
  refine a3 Dm ω' d v (fun s s0 s1 sq sl => low s s0 s1 sq (by rw [e s s0 s1]; exact sl)) ⟨fun s x s0 s1 sq sl f => c.1 s x s0 s1 sq (by rw [e s s0 s1]; exact sl) f, fun u hu uq ul x m => c.2 u hu uq (by have b := hU u hu; rw [e _ b.1 b.2]; exact ul) x m⟩ r r0 r1 q (by rw [← e r r0 r1]; exact l) x hx
section I2
variable {h : dm_H} {π : Int → Int}
theorem RIN_c {A : Nat} {p : Int} (R : RIN A p h) : RIc A h := ⟨R.1, R.2.1, R.2.2.1, R.2.2.2.1⟩
theorem BKS_c (B : BKS π h) : CBS h := ⟨B.1, fun j j0 j1 => RIN_c (B.2.2.1 j j0 j1)⟩
theorem RIc_cg {A : Nat} {h h' : dm_H} (hr : ru A) (e : ∀ a i, A ≤ a → a ≤ A + 6 → ¬ (a = A ∧ i = 0) → gi h' a i = gi h a i) (e2 : gi h' 2 0 = gi h 2 0) (e3 : ∀ i, gi h' 3 i = gi h 3 i) (R : RIc A h) : RIc A h' := by
  obtain ⟨r1, D, r3, r4, r5⟩ := R
  have c := (uR_cg (A := A) (h := h) (h' := h') (fun a i p q r => e a i p (by omega) (by omega))).2
  have D' : DSH A h' := by
    -- the number of a rule does not matter to its shape
    have E : ∀ a i, A ≤ a → a ≤ A + 6 → ¬ (a = A ∧ i = 7) → gi (si h' A 0 (gi h A 0)) a i = gi h a i := by
      intro a i p q r
      rw [gi_si]
      by_cases z : a = A ∧ i = 0
      · rw [if_pos z, z.1, z.2]
      · rw [if_neg z]; exact e a i p q z
    have D1 : DSH A (si h' A 0 (gi h A 0)) := DSH_cg E (by rw [gi_sin (by unfold ru at hr; omega)]; exact e2) (fun i => by rw [gi_sin (by unfold ru at hr; omega)]; exact e3 i) D
    have e0 : ∀ i, i ≠ 0 → gi (si h' A 0 (gi h A 0)) A i = gi h' A i := fun i hi => by rw [gi_si, if_neg (by omega)]
    have eb : ∀ a i, a ≠ A → gi (si h' A 0 (gi h A 0)) a i = gi h' a i := fun a i ha => gi_sin ha
    have cc : cR (si h' A 0 (gi h A 0)) A = cR h' A := (uR_cg (fun a i p q r => by rw [gi_si, if_neg (by omega)])).2
    have ck : cK (si h' A 0 (gi h A 0)) = cK h' := by
      unfold cK
      have : ∀ r, gi (si h' A 0 (gi h A 0)) 3 r = gi h' 3 r := fun r => eb 3 r (by unfold ru at hr; omega)
      simp only [this]
    obtain ⟨d1, d2, d3, d4, d5, d6, d7, d8, d9, d10, d11⟩ := D1
    rw [cc, ck, eb 2 _ (by unfold ru at hr; omega)] at d7
    rw [e0 1 (by omega)] at d1 d3 d4
    rw [e0 4 (by omega)] at d2 d7 d8 d9 d10 d11
    rw [e0 2 (by omega), e0 3 (by omega)] at d3 d4
    rw [e0 3 (by omega)] at d5 d6
    rw [eb 2 _ (by unfold ru at hr; omega), eb 3 _ (by unfold ru at hr; omega)] at d4
    rw [e0 5 (by omega), cc] at d9
    rw [e0 6 (by omega)] at d10 d11
    refine ⟨d1, d2, d3, d4, fun i i0 i1 => ?_, fun i i0 i1 => ?_, d7, fun k k0 k1 q i i0 i1 => ?_, d9, d10, fun k k0 k1 q => ?_⟩
    · have := d5 i i0 i1; rw [eb _ _ (by omega)] at this; exact this
    · have := d6 i i0 i1; rw [eb _ _ (by omega)] at this; exact this
    · have := d8 k k0 k1 (by rw [eb _ _ (by omega)]; exact q) i i0 i1
      have et : tm (si h' A 0 (gi h A 0)) A k i = tm h' A k i := eb _ _ (by omega)
      rw [et] at this; exact this
    · exact d11 k k0 k1 (by rw [eb _ _ (by omega)]; exact q)
  have ea : ∀ i, i ≠ 0 → gi h' A i = gi h A i := fun i hi => e A i (by omega) (by omega) (by omega)
  have e1 : gi h' (A + 1) = gi h (A + 1) := funext (fun i => e _ i (by omega) (by omega) (by omega))
  refine ⟨r1, D', ?_, ?_, ?_⟩
  · rw [c, ea 4 (by omega), ea 1 (by omega), ea 3 (by omega), e1]; exact r3
  · rw [ea 7 (by omega), ea 4 (by omega)]; exact r4
  · rw [c, ea 7 (by omega), ea 3 (by omega), e1]; exact r5
theorem RIc_G1 (K : RK h) {A : Nat} (R : RIc A h) (h3 : gi h A 1 ≠ 3) : G1 (cK h) (gi h 2 0) (uR h A) := by
  obtain ⟨r1, ⟨d1, d2, d3, d4, d5, d6, d7, d8, d9, d10, d11⟩, r3, r4⟩ := R
  have hr := (d4 h3).1
  have hc := cK_c K hr.1 hr.2
  have ec : gi h A 3 = cK h (gi h A 2) := by rw [(d4 h3).2, hc.1]
  have h6 := K.1
  rw [ec] at r3 d5
  refine ⟨by show 0 ≤ gi h A 1 ∧ gi h A 1 ≤ 2; omega, hr, ⟨⟨by show 0 ≤ gi h A 2 ∧ gi h A 2 < 6; omega, d2, fun k k0 k1 ha => ?_⟩, ⟨by show 0 ≤ cK h (gi h A 2) ∧ cK h (gi h A 2) ≤ 3; omega, fun i i0 i1 => ?_⟩, d7, fun k k0 k1 => r3.2.1 k k0 k1⟩, r3, d5⟩
  · have := d7 k k0 k1
    have ha : (cR h A).1 k = 0 ∨ (cR h A).1 k = 1 := ha
    show 0 ≤ (cR h A).2.1 k ∧ (cR h A).2.1 k < 6
    rcases this with q | q | q
    · have := q.2.1; omega
    · omega
    · omega
  · have := d5 i i0 i1
    show -1 ≤ gi h (A + 1) i ∧ gi h (A + 1) i ≤ 107
    omega
theorem CBS_G1 (K : RK h) (B : CBS h) : ∀ u, RLc h u → G1 (cK h) (gi h 2 0) u := by
  rintro u ⟨j, j0, j1, j2, rfl⟩
  exact RIc_G1 K (B.2 j j0 j1) j2
theorem CBS_CB (K : RK h) (B : CBS h) : CB h := by
  refine ⟨B.1, K.1, fun j j0 j1 => ?_⟩
  obtain ⟨r1, ⟨d1, d2, d3, d4, d5, d6, d7, d8, d9, d10, d11⟩, -⟩ := B.2 j j0 j1
  refine ⟨r1, d2, fun q => (d4 q).1, fun k k0 k1 ha => ?_⟩
  have ha : (cR h (gr h 14 j)).1 k = 0 ∨ (cR h (gr h 14 j)).1 k = 1 := ha
  show 0 ≤ (cR h (gr h 14 j)).2.1 k ∧ (cR h (gr h 14 j)).2.1 k < gi h 2 0
  rcases d7 k k0 k1 with q | q | q
  · exact q.2.1
  · omega
  · omega
theorem CBS_BK (K : RK h) (B : CBS h) (hU : ∀ u, RLc h u → RU (cK h) (gi h 4) (gi h 7) (ocL (RLc h)) u) : BK h (ocL (RLc h)) (RLc h) := by
  refine ⟨B.1, fun j j0 j1 => ?_⟩
  obtain ⟨r1, ⟨d1, d2, d3, d4, d5, d6, d7, d8, d9, d10, d11⟩, r3, r4, r5⟩ := B.2 j j0 j1
  refine ⟨r1, ?_⟩
  by_cases h3 : gi h (gr h 14 j) 1 = 3
  · exact Or.inl h3
  right
  have hr := (d4 h3).1
  have hc := cK_c K hr.1 hr.2
  have ec : gi h (gr h 14 j) 3 = cK h (gi h (gr h 14 j) 2) := by rw [(d4 h3).2, hc.1]
  have hl : RLc h (uR h (gr h 14 j)) := ⟨j, j0, j1, h3, rfl⟩
  refine ⟨by omega, ⟨r1, hU _ hl, hl, hr.2, ec, ⟨r4.2, fun i i0 i1 => r5 i i0 (by omega)⟩, abf_le d2 (fun q => ?_)⟩, fun k k0 k1 _ h6 i i0 i1 => d8 k k0 k1 h6 i i0 ?_⟩
  · by_cases z : ∃ k, 0 ≤ k ∧ k < 4 ∧ (cR h (gr h 14 j)).1 k ≠ 0
    · exact z
    · have := atc_all (ρ := cR h (gr h 14 j)) 4 (fun k k0 k1 => Or.inl (by
        by_cases y : (cR h (gr h 14 j)).1 k = 0
        · exact y
        · exact absurd ⟨k, k0, k1, y⟩ z))
      have d91 := d9.1
      have d92 := d9.2
      rw [q, show (4 : Int).toNat = 4 from rfl, this] at d91
      clear z
      omega
  · have := LSH_w (d7 k k0 k1)
    have e : (cR h (gr h 14 j)).2.2.1 k = gi h (gr h 14 j + 4) k := rfl
    omega
/-- the class finds what follows -/
theorem cls_found {d : Nat} (hd : 10 ≤ d) {P : Nat} (hp : rw_ P) (K : RK h) (B : CBS h) (G : GOOD (cK h) (gi h 4) (gi h 2 0) (RLc h)) (L : CL h) (F : FV h) (t g1 g2 : Int) :
    ∃ b h', dF d 58 [dR 1 1 143, dR 1 7 P, dI t, dI g1, dI g2] h = rI b h' ∧ frS P h h' ∧ ((b = 1 ∧ gds (cK h) (gi h 4) (gi h 7) (ftC h t g1 g2) (RLc h) (gi h 2 6 + 1) (cW h' P)) ∨ (b = 0 ∧ muc (cK h) (gi h 4) (gi h 7) (ftC h t g1 g2) (RLc h))) :=
  s58 hd hp K (CBS_BK K B (RU_of K.1.2 G L.1.1)) F (by have := L.2.2; omega) t g1 g2
/-- the facts of both -/
def IFc (h : dm_H) : Prop := FV h ∧ FO (fL 9 h) (gi h 8 0) ∧ gi h 165 5 = gi h 8 0 ∧ (∀ p, 0 ≤ p → p < gi h 8 0 → fL 168 h p = fL 9 h p) ∧ (∀ p, 0 ≤ p → p < gi h 8 0 → (1 ≤ gi h 11 p ∧ gi h 11 p ≤ 99) ∧ (gi h 12 p = -1 ∨ gi h 1 12 < gi h 12 p)) ∧ gi h 165 4 = gi h 1 12 ∧ 0 ≤ gi h 1 12 ∧ gi h 165 10 = -1 ∧ gi h 165 11 = -1
/-- the rows of both -/
def IRw (h : dm_H) : Prop := (rw_ (gr h 1 8) ∧ rw_ (gr h 1 9) ∧ gr h 1 8 ≠ gr h 1 9) ∧ SRT (cW h (gr h 1 8)) ∧ eqW (cW h (gr h 1 8)) (rW h) ∧ (∀ r, gi h 2 0 ≤ r → r < 6 → rsz h (gr h 1 8) r = 0) ∧ (∀ r, 0 ≤ r → r < 6 → 0 ≤ (oW h).1 r ∧ (oW h).1 r ≤ 32) ∧ (gi h 1 13 = ms (cW h (gr h 1 8)) (oW h) ∧ gi h 1 14 = ms (oW h) (cW h (gr h 1 8))) ∧ gds (cK h) (gi h 4) (gi h 7) (ftC h (gi h 1 12) (-1) (-1)) (RLc h) 12 (cW h (gr h 1 8))
/-- the numbers of rules -/
def INm (π : Int → Int) (h : dm_H) : Prop := gi h 165 15 = gi h 13 3 ∧ 0 ≤ gi h 13 3 ∧ ∀ j, 0 ≤ j → j < gi h 13 1 → (0 ≤ gi h (gr h 14 j) 0 ∧ gi h (gr h 14 j) 0 < gi h 13 3) ∧ gi h 173 (π j) = gi h (gr h 14 j) 0 ∧ ∀ i, 0 ≤ i → i < j → gi h (gr h 14 i) 0 < gi h (gr h 14 j) 0
/-- all but costs and repairs -/
def IN0 (π : Int → Int) (h : dm_H) : Prop := IRel h ∧ IDr h ∧ BKS π h ∧ gi h 174 10 = 0 ∧ INm π h ∧ GOOD (cK h) (gi h 4) (gi h 2 0) (RLc h) ∧ CH h ∧ CL h ∧ IFc h ∧ IRw h
/-- facts on both sides are the same ones -/
theorem ft_eq {t g1 g2 : Int} (I : IRel h) (F : IFc h) {h' : dm_H} (e8 : gi h' 165 5 = gi h 8 0) (e9 : ∀ p, 0 ≤ p → p < gi h 8 0 → gi h' 168 p = gi h 9 p ∧ gi h' 169 p = gi h 10 p) (e10 : gi h' 165 10 = g1) (e11 : gi h' 165 11 = g2) (ht : t ≤ gi h 1 12) : ∀ r c, 0 ≤ r → r < 6 → (ftC h t g1 g2 r c ↔ ftR h' r c) := by
  obtain ⟨F1, F2, F3, F4, F5, F6, F7, F8, F9⟩ := F
  intro r c r0 r1
  unfold ftC ftR
  rw [e8, e10, e11]
  constructor
  · rintro ⟨p, p0, p1, p2, p3, p4, p5, p6⟩
    obtain ⟨q1, q2⟩ := e9 p p0 p1
    exact ⟨p, p0, p1, p2, p3, by rw [q1, p5], by rw [q2, p6]⟩
  · rintro ⟨p, p0, p1, p2, p3, p5, p6⟩
    obtain ⟨q1, q2⟩ := e9 p p0 p1
    have := (F5 p p0 p1).2
    exact ⟨p, p0, p1, p2, p3, by omega, by rw [← q1, p5], by rw [← q2, p6]⟩
/-- the reference's facts have the shape -/
theorem FVr_of (I : IRel h) (F : IFc h) : FVr (cK h) (gi h 4) h := by
  obtain ⟨I1, I2, I3, I4⟩ := I
  obtain ⟨F1, F2, F3, F4, F5, F6, F7, F8, F9⟩ := F
  have h6 := I1.1
  refine ⟨by rw [F3]; exact F1.1, fun p p0 p1 => ?_⟩
  rw [F3] at p1
  have e := F4 p p0 p1
  have a1 : gi h 168 p = gi h 9 p := congrArg (fun t => t.1) e
  have a2 : gi h 169 p = gi h 10 p := congrArg (fun t => t.2.1) e
  obtain ⟨v1, v2⟩ := F1.2 p p0 p1
  rw [a1, a2]
  exact ⟨by omega, by rw [(I3 _).1, (cK_c I1 v1.1 v1.2).1], (I3 _).2, v2⟩
end I2
