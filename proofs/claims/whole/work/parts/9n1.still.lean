/-! STAMPS behind a run that was not too much: all are 0 -/
section STL
variable {P : Nat} {hB : dm_H} {oc : Int → Int → Prop}
theorem lays58s {d : Nat} (hd : 9 ≤ d) (hp : rw_ P) (K : RK hB) (B : BK hB oc (RLc hB)) {ft : Int → Int → Prop} (hft : ∀ r c, ft r c → 0 ≤ r ∧ r < gi hB 2 0) (htop : 0 ≤ gi hB 2 6 ∧ gi hB 2 6 ≤ 100) (w1 w2 w3 w4 : Option dm_V) : ∀ (m : Nat) (L : Int) (h : dm_H) (w6 w7 : Option dm_V), 0 ≤ L → L + m = gi hB 2 6 + 1 → LI P hB ft L h →
    ∃ b h', dL d 58 91 [lR 1 1 143, w1, w2, w3, w4, lI L, w6, w7] [] h = rI b h' ∧ (b = 1 → stp_ P 0 h') := by
  have hru15 : ru 15 := Or.inl (by omega)
  intro m
  induction m with
  | zero =>
    intro L h w6 w7 L0 Lm I
    have e26 : gi h 2 6 = gi hB 2 6 := (frR_e hru15 hp I.1).1 2 (by omega) 6
    rw [b58_91, e26, if_pos (by omega), b58_247, I.2.1, I.2.2.2.2.2.2.2.1, if_pos rfl, b58_262, z1_p (Or.inr rfl)]
    exact ⟨1, h, rfl, fun _ => I.2.2.2.1⟩
  | succ m ih =>
    intro L h w6 w7 L0 Lm I
    obtain ⟨h', w6', w7', t1, t2⟩ := layer hd hp K B hft (by omega) I w1 w2 w3 w4 w6 w7 (by omega)
    rw [t1]
    rcases t2 with t2 | ⟨t2, t3, t4, t5⟩
    · exact ih (L + 1) h' _ _ (by omega) (by omega) t2
    · have e26 : gi h' 2 6 = gi hB 2 6 := (frR_e hru15 hp t4).1 2 (by omega) 6
      refine ⟨0, h', ?_, fun q => by omega⟩
      rw [b58_91, e26, t3, t2]
      by_cases z : gi hB 2 6 < L + 1
      · rw [if_pos z, b58_247, t3, t2, if_neg (by decide), b58_262, z1_p (Or.inl rfl)]
      · rw [if_neg z, if_neg (by decide), b58_247, t3, t2, if_neg (by decide), b58_262, z1_p (Or.inl rfl)]
end STL
theorem s58s {d : Nat} (hd : 10 ≤ d) {P : Nat} (hp : rw_ P) {h : dm_H} {oc : Int → Int → Prop} (K : RK h) (B : BK h oc (RLc h)) (F : FV h) (htop : 0 ≤ gi h 2 6 ∧ gi h 2 6 ≤ 100) (t g1 g2 : Int) :
    ∃ b h', dF d 58 [dR 1 1 143, dR 1 7 P, dI t, dI g1, dI g2] h = rI b h' ∧ (b = 1 → stp_ P 0 h') := by
  have hP : P = 95 ∨ P = 112 := hp
  have B' : BK (sr h 143 5 P) oc (RLc (sr h 143 5 P)) := by rw [RLc_sr]; exact BK_sr B
  have e5 : gr (sr h 143 5 P) 143 5 = P := by rw [gr_sr, if_pos ⟨rfl, rfl⟩]
  rw [f58 (by omega), b58_0, e5, s59 (by omega), bk_n, b58_12]
  have cg : ∀ a i, gi (clr (sr h 143 5 P) P) a i = if a = P ∧ i = 5 then 0 else if a = P + 16 ∧ 0 ≤ i ∧ i < 6 then 0 else if a = P + 1 ∧ 0 ≤ i ∧ i < 6 then 0 else gi h a i := by
    intro a i
    unfold clr
    rw [gi_si, gi_fill, gi_fill]
    rfl
  have f0 : frR P (sr h 143 5 P) (clr (sr h 143 5 P) P) := ⟨fun a i n1 n2 n3 => by rw [cg, if_neg n2, if_neg (by omega), if_neg (by omega)]; rfl, fun _ _ _ _ _ => rfl, rfl⟩
  have z0 : ∀ r, 0 ≤ r → r < 6 → rsz (clr (sr h 143 5 P) P) P r = 0 := fun r r0 r1 => by
    unfold rsz
    rw [cg, if_neg (by omega), if_neg (by omega), if_pos ⟨rfl, r0, r1⟩]
  obtain ⟨h1, t1, t2⟩ := facts58 (d := d - 1) (hB := sr h 143 5 P) (by omega) hp K F t g1 g2 (lR 1 7 P) none none (gi h 8 0).toNat 0 (clr (sr h 143 5 P) P) (by omega) (by have := F.1.1; show 0 + ((gi h 8 0).toNat : Int) = gi h 8 0; omega) f0 e5
    (fun r r0 r1 => ⟨by show 0 ≤ rsz (clr (sr h 143 5 P) P) P r ∧ rsz (clr (sr h 143 5 P) P) P r ≤ 32; rw [z0 r r0 r1]; omega, fun x x0 x1 => absurd (show x < rsz (clr (sr h 143 5 P) P) P r from x1) (by rw [z0 r r0 r1]; omega), fun x y x0 xy y1 => absurd (show y < rsz (clr (sr h 143 5 P) P) P r from y1) (by rw [z0 r r0 r1]; omega)⟩)
    (fun r r0 r1 => ⟨by rw [cg, if_neg (by omega), if_pos ⟨rfl, r0, r1⟩]; omega, fun x x0 x1 => by rw [z0 r r0 r1] at x1; omega⟩)
    (fun r r0 r1 => z0 r (by have := K.1.1; have r0 : gi h 2 0 ≤ r := r0; omega) r1) (by rw [cg, if_pos ⟨rfl, rfl⟩])
    (fun r c r0 r1 ⟨x, x0, x1, _⟩ => absurd (show x < rsz (clr (sr h 143 5 P) P) P r from x1) (by rw [z0 r r0 r1]; omega)) (fun q q0 q1 => by omega)
  rw [t1]
  obtain ⟨b, h', u1, u2⟩ := lays58s (d := d - 1) (by omega) hp (hB := sr h 143 5 P) K B' (ft := ftC (sr h 143 5 P) t g1 g2) (by
    rintro r c ⟨q, q0, q1, _, _, _, rfl, _⟩
    exact (F.2 q q0 q1).1) htop (lR 1 7 P) (lI t) (lI g1) (lI g2) (gi h 2 6 + 1).toNat 0 h1 none none (by omega) (by show 0 + ((gi h 2 6 + 1).toNat : Int) = gi h 2 6 + 1; omega) t2
  exact ⟨b, h', u1, u2⟩
theorem stp_still {P : Nat} {h : dm_H} (s : stp_ P 0 h) : still h P := by
  intro r p r0 r1 p0 p1
  obtain ⟨⟨a1, a2⟩, a3⟩ := s r r0 r1
  have := a3 p p0 p1
  omega
theorem cls_still {d : Nat} (hd : 10 ≤ d) {P : Nat} (hp : rw_ P) {h : dm_H} (K : RK h) (B : CBS h) (G : GOOD (cK h) (gi h 4) (gi h 2 0) (RLc h)) (L : CL h) (F : FV h) (t g1 g2 : Int) {b : Int} {h' : dm_H} (e : dF d 58 [dR 1 1 143, dR 1 7 P, dI t, dI g1, dI g2] h = rI b h') (hb : b = 1) : still h' P := by
  obtain ⟨b', h'', x1, x2⟩ := s58s hd hp K (CBS_BK K B (RU_of K.1.2 G L.1.1)) F (by have := L.2.2; omega) t g1 g2
  obtain ⟨e1, e2⟩ := rI_inj (e.symm.trans x1)
  rw [e2]
  exact stp_still (x2 (by omega))
/-- stamps in another heap -/
theorem still_to {h2 H : dm_H} {Q : Nat} (e : ∀ a i, Q + 10 ≤ a → a ≤ Q + 15 → gi H a i = gi h2 a i) (ez : ∀ r, 0 ≤ r → r < 6 → rsz H Q r = rsz h2 Q r) (S : still h2 Q) : still H Q := by
  intro r p r0 r1 p0 p1
  rw [ez r r0 r1] at p1
  have a : rst H Q r p = rst h2 Q r p := e _ _ (by omega) (by omega)
  rw [a]
  exact S r p r0 r1 p0 p1
