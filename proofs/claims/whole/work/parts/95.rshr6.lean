/-! SHRINKING: the reference, all rules -/
section RS6
variable {h : dm_H} {cl kd : Int → Int} {RL : mU → Prop} {U : Int → mU}
/-- what rules keep whatever comes -/
def RGD (cl : Int → Int) (n : Int) (u : mU) : Prop := HSu u ∧ HDS cl u ∧ (∀ k, 0 ≤ k → k < u.2.2.2.2 → LSH cl n u.2.2.2.1 k) ∧ ∀ k, 0 ≤ k → k < u.2.2.2.2 → SAFL u.2.2.2.1 k
theorem s234 {d : Nat} (hd : 6 ≤ d) (B : HBr cl kd RL U h) {n : Int} (hR : ∀ u, RL u → RGD cl n u) (hk : ∀ r, gi h 167 r = kd r) (hkd : ∀ r, 0 ≤ r → r < 6 → 0 ≤ kd r ∧ kd r ≤ 2) (s : st6 h 175) : ∃ b, dF d 234 [dR 1 11 165] h = rI b h ∧ (b = 0 ∨ b = 1) ∧ (b = 1 ↔ ∃ u, RL u ∧ u.1 = 0 ∧ ¬ NSH kd (ocH h 175) u (cl u.2.1)) := by
  have loop : ∀ (m : Nat) (p is : Int), 0 ≤ p → p + m = 11 → (is = 0 ∨ is = 1) → (is = 1 ↔ ∃ q, 0 ≤ q ∧ q < p ∧ gi h 174 q ≠ 0 ∧ gi h 172 (38 * q) ≠ 3 ∧ (U q).1 = 0 ∧ ¬ NSH kd (ocH h 175) (U q) (cl (U q).2.1)) →
      ∃ b, dL (d - 1) 234 4 [lR 1 11 165, lI is, lI p] [] h = rI b h ∧ (b = 0 ∨ b = 1) ∧ (b = 1 ↔ ∃ q, 0 ≤ q ∧ q < 11 ∧ gi h 174 q ≠ 0 ∧ gi h 172 (38 * q) ≠ 3 ∧ (U q).1 = 0 ∧ ¬ NSH kd (ocH h 175) (U q) (cl (U q).2.1)) := by
    intro m
    induction m with
    | zero =>
      intro p is p0 pm i01 hi
      rw [show p = 11 by omega] at hi ⊢
      rw [b234_4, if_pos (by omega), z1_p i01]
      exact ⟨is, rfl, i01, hi⟩
    | succ m ih =>
      intro p is p0 pm i01 hi
      have nxt : ∀ (is' : Int) (w1 : Option dm_V), (is' = 0 ∨ is' = 1) → (is' = 1 ↔ is = 1 ∨ (gi h 174 p ≠ 0 ∧ gi h 172 (38 * p) ≠ 3 ∧ (U p).1 = 0 ∧ ¬ NSH kd (ocH h 175) (U p) (cl (U p).2.1))) → ∃ b, dL (d - 1) 234 45 [lR 1 11 165, w1, lI p] [dI is'] h = rI b h ∧ (b = 0 ∨ b = 1) ∧ (b = 1 ↔ ∃ q, 0 ≤ q ∧ q < 11 ∧ gi h 174 q ≠ 0 ∧ gi h 172 (38 * q) ≠ 3 ∧ (U q).1 = 0 ∧ ¬ NSH kd (ocH h 175) (U q) (cl (U q).2.1)) := by
        intro is' w1 j01 hj
        rw [b234_45, ck_p (by omega) (by omega)]
        refine ih (p + 1) is' (by omega) (by omega) j01 ?_
        rw [hj, hi]
        constructor
        · rintro (⟨q, q0, q1, q2⟩ | y)
          · exact ⟨q, q0, by omega, q2⟩
          · exact ⟨p, p0, by omega, y⟩
        · rintro ⟨q, q0, q1, q2⟩
          by_cases e : q = p
          · rw [e] at q2; exact Or.inr q2
          · exact Or.inl ⟨q, q0, by omega, q2⟩
      have no : ¬ (gi h 174 p ≠ 0 ∧ gi h 172 (38 * p) ≠ 3 ∧ (U p).1 = 0 ∧ ¬ NSH kd (ocH h 175) (U p) (cl (U p).2.1)) → is = 0 → ∀ w1, ∃ b, dL (d - 1) 234 44 [lR 1 11 165, w1, lI p] [] h = rI b h ∧ (b = 0 ∨ b = 1) ∧ (b = 1 ↔ ∃ q, 0 ≤ q ∧ q < 11 ∧ gi h 174 q ≠ 0 ∧ gi h 172 (38 * q) ≠ 3 ∧ (U q).1 = 0 ∧ ¬ NSH kd (ocH h 175) (U q) (cl (U q).2.1)) := by
        intro hn i0 w1
        rw [b234_44]
        exact nxt 0 w1 (Or.inl rfl) ⟨fun y => by omega, fun y => y.elim (fun z => by omega) (fun z => absurd z hn)⟩
      rw [b234_4, if_neg (by omega)]
      rcases i01 with rfl | rfl
      case inr =>
        rw [if_neg (by decide), b234_40]
        exact nxt 1 _ (Or.inr rfl) ⟨fun _ => Or.inl rfl, fun _ => rfl⟩
      rw [if_pos rfl, ix_p p0 (by omega)]
      by_cases z1 : gi h 174 p = 0
      · rw [if_pos z1]; exact no (fun y => y.1 z1) rfl _
      rw [if_neg z1, s179 (by omega) p 0 h (by omega) (by omega), bk_v, b234_29, Int.add_zero]
      by_cases z2 : gi h 172 (38 * p) = 0
      case neg =>
        rw [if_neg z2]
        refine no (fun y => ?_) rfl _
        obtain ⟨y1, y2, y3, _⟩ := y
        have := (B.1 p p0 (by omega) y1 y2).2.2.1
        omega
      have b1 := B.1 p p0 (by omega) z1 (by omega)
      have hu0 : (U p).1 = 0 := by have := b1.2.2.1; omega
      obtain ⟨g1, g2, g3, g4⟩ := hR _ b1.1
      obtain ⟨b, x1, x2, x3⟩ := s235 (d := d - 1) (by omega) b1.2 g1 g2 hk hkd s g3 g4
      rw [if_pos z2, x1, bk_v, b234_37]
      rcases x2 with rfl | rfl
      · rw [if_pos rfl]
        exact no (fun y => by have := x3.mpr y.2.2.2; omega) rfl _
      · rw [if_neg (by decide), b234_40]
        exact nxt 1 _ (Or.inr rfl) ⟨fun _ => Or.inr ⟨z1, by omega, hu0, x3.mp rfl⟩, fun _ => rfl⟩
  obtain ⟨b, x1, x2, x3⟩ := loop 11 0 0 (by omega) (by omega) (Or.inl rfl) ⟨fun y => by omega, fun ⟨q, q0, q1, _⟩ => by omega⟩
  refine ⟨b, by rw [f234 (by omega), b234_0, x1], x2, ?_⟩
  rw [x3]
  constructor
  · rintro ⟨q, q0, q1, q2, q3, q4, q5⟩
    exact ⟨U q, (B.1 q q0 (by omega) q2 q3).1, q4, q5⟩
  · rintro ⟨u, u1, u2, u3⟩
    obtain ⟨q, q0, q1, q2, rfl⟩ := B.2 u u1
    exact ⟨q, q0.1, by omega, q1, q2, u2, u3⟩
end RS6
