/-! A TURN: every rule of the layer once -/
section TURN3
variable {P : Nat} {hB : dm_H} {oc : Int → Int → Prop} {RL : mU → Prop} {L : Int}
theorem dn_base {A : Nat} (K : RK hB) (R : RP hB oc RL A) (hL : gi hB 7 (gi hB A 2) = L) {r s : Int} {ft ft1 : Int → Int → Prop} {hs h h' : dm_H} (I : RI P hB ft RL s L hs) (I1 : RI P hB ft1 RL s L h) (k : dn P hB A r h h') : dn P hB A r hs h' := by
  have D := RK_D K
  refine ⟨k.1, fun q z c hc => k.2 q z c (mkd_cg (RU_GW D R.2.1 I.2.1) (RU_GW D R.2.1 I1.2.1) (fun k k0 k1 y c => ?_) hc)⟩
  rcases R.2.1.2.2.2.1 k k0 k1 with ⟨_, s1, _, _, _, _, s6⟩ | ⟨s, _⟩
  · have l := s6 (fun z => q z.2.1)
    have l : gi hB 7 (gi hB (A + 3) k) < gi hB 7 (gi hB A 2) := l
    have s1 : 0 ≤ gi hB (A + 3) k ∧ gi hB (A + 3) k < 6 := s1
    obtain ⟨a1, a2⟩ := I.2.2.2.2.1 _ s1.1 s1.2 (by omega)
    obtain ⟨b1, b2⟩ := I1.2.2.2.2.1 _ s1.1 s1.2 (by omega)
    show (∃ x, 0 ≤ x ∧ x < rsz hs P (gi hB (A + 3) k) ∧ rws hs P (gi hB (A + 3) k) x = c) ↔ (∃ x, 0 ≤ x ∧ x < rsz h P (gi hB (A + 3) k) ∧ rws h P (gi hB (A + 3) k) x = c)
    rw [a1, b1]
    constructor
    · rintro ⟨x, x0, x1, x2⟩; exact ⟨x, x0, x1, by rw [b2, ← a2]; exact x2⟩
    · rintro ⟨x, x0, x1, x2⟩; exact ⟨x, x0, x1, by rw [a2, ← b2]; exact x2⟩
  · omega
theorem turn_r {d : Nat} (hd : 9 ≤ d) (hp : rw_ P) (K : RK hB) (B : BK hB oc RL) {r s : Int} (hr : 0 ≤ r ∧ r + 1 = s ∧ s ≤ 1000000) {ft : Int → Int → Prop} {hs : dm_H} (I : RI P hB ft RL s L hs) (o : oldl P hB L hs) (r5 : gr hs 143 5 = P) (h7 : gi hs 143 7 = r) (w1 w2 w3 w4 : Option dm_V) :
    ∃ h' ft', dL d 58 159 [lR 1 1 143, w1, w2, w3, w4, lI L, lI r, lI 0] [] hs = dL d 58 159 [lR 1 1 143, w1, w2, w3, w4, lI L, lI r, lI (gi hB 13 1)] [] h' ∧ (∀ r c, ft r c → ft' r c) ∧ RI P hB ft' RL s L h' ∧ oldl P hB L h' ∧ frR P hs h' ∧ gro (cK hB) (gi hB 4) P s hs h' ∧ (gr h' 143 5 = P ∧ gi h' 143 7 = r) ∧ (gi h' P 5 ≠ 0 → tmp P hB ft RL L) ∧ (gi h' P 5 = 0 → ft' = ft ∧ gi hs P 5 = 0 ∧ flc P hB s hs h' ∧ ∀ j, 0 ≤ j → j < gi hB 13 1 → gi hB (gr hB 14 j) 1 ≠ 3 → gi hB 7 (gi hB (gr hB 14 j) 2) = L → dn P hB (gr hB 14 j) r hs h') := by
  have hP : P = 95 ∨ P = 112 := hp
  have loop : ∀ (m : Nat) (j : Int) (h : dm_H) (ft1 : Int → Int → Prop), 0 ≤ j → j + m = gi hB 13 1 → (∀ r c, ft r c → ft1 r c) → RI P hB ft1 RL s L h → oldl P hB L h → frR P hs h → gro (cK hB) (gi hB 4) P s hs h → (gr h 143 5 = P ∧ gi h 143 7 = r) → (gi h P 5 ≠ 0 → tmp P hB ft RL L) → (gi h P 5 = 0 → ft1 = ft ∧ gi hs P 5 = 0 ∧ flc P hB s hs h ∧ ∀ i, 0 ≤ i → i < j → gi hB (gr hB 14 i) 1 ≠ 3 → gi hB 7 (gi hB (gr hB 14 i) 2) = L → dn P hB (gr hB 14 i) r hs h) →
      ∃ h' ft', dL d 58 159 [lR 1 1 143, w1, w2, w3, w4, lI L, lI r, lI j] [] h = dL d 58 159 [lR 1 1 143, w1, w2, w3, w4, lI L, lI r, lI (gi hB 13 1)] [] h' ∧ (∀ r c, ft r c → ft' r c) ∧ RI P hB ft' RL s L h' ∧ oldl P hB L h' ∧ frR P hs h' ∧ gro (cK hB) (gi hB 4) P s hs h' ∧ (gr h' 143 5 = P ∧ gi h' 143 7 = r) ∧ (gi h' P 5 ≠ 0 → tmp P hB ft RL L) ∧ (gi h' P 5 = 0 → ft' = ft ∧ gi hs P 5 = 0 ∧ flc P hB s hs h' ∧ ∀ j, 0 ≤ j → j < gi hB 13 1 → gi hB (gr hB 14 j) 1 ≠ 3 → gi hB 7 (gi hB (gr hB 14 j) 2) = L → dn P hB (gr hB 14 j) r hs h') := by
    intro m
    induction m with
    | zero =>
      intro j h ft1 j0 jm a1 a2 a3 a4 a5 a6 a8 a7
      have ej : j = gi hB 13 1 := by omega
      rw [ej] at a7 ⊢
      exact ⟨h, ft1, rfl, a1, a2, a3, a4, a5, a6, a8, a7⟩
    | succ m ih =>
      intro j h ft1 j0 jm a1 a2 a3 a4 a5 a6 a8 a7
      have hj : j < gi hB 13 1 := by omega
      have hb10 := B.1.2
      obtain ⟨b1, b2⟩ := B.2 j j0 hj
      have hru := ru_g b1
      obtain ⟨e1, -, -, -, -, e7⟩ := frR_e b1 hp a2.1
      have e13 : gi h 13 1 = gi hB 13 1 := e1 13 (by omega) 1
      have e14 : gr h 14 j = gr hB 14 j := a2.1.2.1 14 j (by omega) (by omega) (by omega)
      -- the rule is set
      have hg : ∀ a i, gi (sr h 143 6 (gr hB 14 j)) a i = gi h a i := fun _ _ => rfl
      have m1 : smP P h (sr h 143 6 (gr hB 14 j)) := fun _ _ _ _ => rfl
      have f1 : frR P h (sr h 143 6 (gr hB 14 j)) := ⟨fun _ _ _ _ _ => rfl, fun a i p1 p2 p3 => by rw [gr_sr, if_neg p3], rfl⟩
      have k6 : gr (sr h 143 6 (gr hB 14 j)) 143 6 = gr hB 14 j := by rw [gr_sr, if_pos ⟨rfl, rfl⟩]
      have k5 : gr (sr h 143 6 (gr hB 14 j)) 143 5 = P := by rw [gr_sr, if_neg (by decide)]; exact a6.1
      have I1 := RI_P b1 hp a2 f1 m1
      have o1 : oldl P hB L (sr h 143 6 (gr hB 14 j)) := a3
      have hfl : flc P hB s h (sr h 143 6 (gr hB 14 j)) := flc_P hp m1 rfl
      have hset : dL d 58 159 [lR 1 1 143, w1, w2, w3, w4, lI L, lI r, lI j] [] h = (if gi hB (gr hB 14 j) 1 = 3 then dL d 58 220 [lR 1 1 143, w1, w2, w3, w4, lI L, lI r, lI j] [] (sr h 143 6 (gr hB 14 j)) else dm_ix (gi hB (gr hB 14 j) 2) 6 (if gi hB 7 (gi hB (gr hB 14 j) 2) = L then dm_back (dL d 58) dm_t58 217 [lR 1 1 143, w1, w2, w3, w4, lI L, lI r, lI j] [] (dF d 61 [dR 1 1 143] (sr h 143 6 (gr hB 14 j))) else dL d 58 220 [lR 1 1 143, w1, w2, w3, w4, lI L, lI r, lI j] [] (sr h 143 6 (gr hB 14 j)))) := by
        rw [b58_159, e13, if_pos hj, ix_p j0 (by omega), e14, k6, hg, hg, hg, e1 (gr hB 14 j) (by omega), e1 (gr hB 14 j) (by omega), e7]
      have hnext : ∀ (h' : dm_H), dL d 58 220 [lR 1 1 143, w1, w2, w3, w4, lI L, lI r, lI j] [] h' = dL d 58 159 [lR 1 1 143, w1, w2, w3, w4, lI L, lI r, lI (j + 1)] [] h' := by
        intro h'
        rw [b58_220, ck_p (by omega) (by omega)]
      -- a rule that is passed over
      have hskip : (gi hB (gr hB 14 j) 1 ≠ 3 → gi hB 7 (gi hB (gr hB 14 j) 2) ≠ L) → _ := fun hno => ih (j + 1) (sr h 143 6 (gr hB 14 j)) ft1 (by omega) (by omega) a1 I1 o1 (frR_trans a4 f1) (gro_trans a5 (gro_P m1)) ⟨k5, a6.2⟩ a8 (fun z => by
        obtain ⟨z1, z2, z3, z4⟩ := a7 z
        refine ⟨z1, z2, flc_trans z3 hfl, fun i i0 i1 y1 y2 => ?_⟩
        by_cases e : i = j
        · rw [e] at y1 y2; exact absurd y2 (hno y1)
        · obtain ⟨-, b3⟩ := B.2 i i0 (by omega)
          rcases b3 with b3 | ⟨_, R', _⟩
          · exact absurd b3 y1
          · exact dn_gro hp K R' y2 (by omega) a2 I1 (gro_P m1) (z4 i i0 (by omega) y1 y2))
      rw [hset]
      rcases b2 with c3 | ⟨ck, R, hAny⟩
      · rw [if_pos c3, hnext]
        exact hskip (fun z => absurd c3 z)
      · have hr6 : 0 ≤ gi hB (gr hB 14 j) 2 ∧ gi hB (gr hB 14 j) 2 < 6 := R.2.1.2.1
        rw [if_neg (by omega), ix_p hr6.1 hr6.2]
        by_cases hL : gi hB 7 (gi hB (gr hB 14 j) 2) = L
        · rw [if_pos hL]
          obtain ⟨h', ft', q1, q2, q3, q4, q5, q6, q7⟩ := fire (d := d) hp K R ck hL hAny hr I1 o1 k6 k5 a6.2 hd
          rw [q1, bk_n, hnext]
          have g2 := gro_trans (gro_P (cl := cK hB) (kd := gi hB 4) (s := s) m1) q5
          refine ih (j + 1) h' ft' (by omega) (by omega) (fun x y z => q2 x y (a1 x y z)) q3 (oldl_gro o1 I1 q3 q5) (frR_trans a4 (frR_trans f1 q4)) (gro_trans a5 g2) ⟨q6.2.1, q6.2.2⟩ (fun z => ?_) (fun z => ?_)
          · by_cases y : gi h P 5 = 0
            · rw [← (a7 y).1]; exact q7.1 z
            · exact a8 y
          obtain ⟨y1, y2, y3, y4⟩ := q7.2 z
          obtain ⟨z1, z2, z3, z4⟩ := a7 y2
          subst z1
          subst y1
          refine ⟨rfl, z2, flc_trans z3 (flc_trans hfl y3), fun i i0 i1 x1 x2 => ?_⟩
          by_cases e : i = j
          · rw [e]
            exact dn_base K R hL I I1 y4
          · obtain ⟨-, b3⟩ := B.2 i i0 (by omega)
            rcases b3 with b3 | ⟨_, R', _⟩
            · exact absurd b3 x1
            · exact dn_gro hp K R' x2 (by omega) a2 q3 g2 (z4 i i0 (by omega) x1 x2)
        · rw [if_neg hL, hnext]
          exact hskip (fun _ => hL)
  exact loop (gi hB 13 1).toNat 0 hs ft (by omega) (by have := B.1; omega) (fun _ _ q => q) I o (frR_refl P hs) (gro_refl P s hs) ⟨r5, h7⟩ (fun z => (I.2.2.2.2.2.resolve_left z).2) (fun z => ⟨rfl, z, flc_refl hs, fun i i0 i1 => by omega⟩)
end TURN3
