/-! BOTH FIND THE SAME -/
section JNT
theorem joint {d e : Nat} (hd : 10 ≤ d) (he : 12 ≤ e) {Q : Nat} (hq : rw_ Q) {h1 : dm_H} (K : RK h1) (C : CBS h1) (G : GOOD (cK h1) (gi h1 4) (gi h1 2 0) (RLc h1)) (L : CL h1) (F : FV h1) (t g1 g2 : Int) :
    ∃ b h2, dF d 58 [dR 1 1 143, dR 1 7 Q, dI t, dI g1, dI g2] h1 = rI b h2 ∧ frS Q h1 h2 ∧ (b = 0 ∨ b = 1) ∧ (b = 1 → gds (cK h1) (gi h1 4) (gi h1 7) (ftC h1 t g1 g2) (RLc h1) 12 (cW h2 Q) ∧ still h2 Q) ∧
      ∀ (H : dm_H) (U : Int → mU), (∀ r, gi H 167 r = gi h1 4 r) → FVr (cK h1) (gi h1 4) H → HBr (cK h1) (gi h1 4) (RLc h1) U H → (∀ r c, 0 ≤ r → r < 6 → (ftC h1 t g1 g2 r c ↔ ftR H r c)) →
        ∃ H', dF e 177 [dR 1 11 165] H = rI b H' ∧ frF H H' ∧ (∀ r, 0 ≤ r → r < 6 → gi H' 176 r = gi h1 7 r) ∧ (b = 1 → SRT (rW H') ∧ VW (cK h1) (gi h1 4) (rW H') ∧ ∀ r, 0 ≤ r → r < 6 → ∀ c, inW (cW h2 Q) r c ↔ inW (rW H') r c) := by
  obtain ⟨b, h2, x1, x2, x3⟩ := cls_found hd hq K C G L F t g1 g2
  have D := DC_of K
  have hU := RU_of K.1.2 G L.1.1
  have hUr : ∀ u, RLc h1 u → 0 ≤ u.2.1 ∧ u.2.1 < 6 := fun u hu => (hU u hu).2.1
  have hl : ∀ r, 0 ≤ r → r < 6 → 0 ≤ gi h1 7 r ∧ gi h1 7 r < gi h1 2 6 + 1 := fun r r0 r1 => ⟨L.1.1.1 r r0 r1, by have := L.2.1 r r0 r1; omega⟩
  refine ⟨b, h2, x1, x2, ?_, fun q => ?_, fun H U hk FR B ft => ?_⟩
  · rcases x3 with ⟨q, _⟩ | ⟨q, _⟩ <;> omega
  · rcases x3 with ⟨_, g⟩ | ⟨w, _⟩
    · exact ⟨gds_up (fun r r0 r1 => (hl r r0 r1).2) hUr g, cls_still hd hq K C G L F t g1 g2 x1 q⟩
    · omega
  · obtain ⟨b', H', y1, y2, y3, y4⟩ := ref_follows (h := H) he D K.1.2 G hk FR B L.1 (fun r r0 r1 => by have := L.2.1 r r0 r1; have := L.2.2; omega)
    have y4' : (b' = 1 ∧ gds (cK h1) (gi h1 4) (gi h1 7) (ftR H) (RLc h1) 12 (rW H')) ∨ (b' = 0 ∧ muc (cK h1) (gi h1 4) (gi h1 7) (ftR H) (RLc h1)) := y4.imp (fun z => ⟨z.1, z.2.2⟩) id
    obtain ⟨z1, z2, z3⟩ := both D hU ft hl (by have := L.2.2; omega) x3 y4'
    rw [← z1] at y1 y4
    refine ⟨H', y1, y2, y3, fun q => ?_⟩
    rcases y4 with ⟨_, w1, w2⟩ | ⟨w, _⟩
    · exact ⟨w1, w2.1, fun r r0 r1 c => z3 q r c r0 r1⟩
    · omega
/-- the new rows of both, sorted, are the same -/
theorem new_eq {cl kd : Int → Int} {ω ω1 ω2 : mW} (V1 : VW cl kd ω1) (V2 : VW cl kd ω2) (S1 : SRT ω1) (S2 : SRT ω2) (e1 : ∀ r, 0 ≤ r → r < 6 → ∀ c, inW ω1 r c ↔ inW ω r c) (e2 : ∀ r, 0 ≤ r → r < 6 → ∀ c, inW ω r c ↔ inW ω2 r c) : eqW ω1 ω2 :=
  srt_eq S1 S2 (fun r r0 r1 => ⟨(V1 r r0 r1).1.1, (V2 r r0 r1).1.1⟩) (fun r r0 r1 c => (e1 r r0 r1 c).trans (e2 r r0 r1 c))
end JNT
