/-! A RUN of the derivation -/
/-- the facts that hold at time t, without two -/
def ftC (h : dm_H) (t g1 g2 : Int) : Int → Int → Prop := fun r c => ∃ p, 0 ≤ p ∧ p < gi h 8 0 ∧ p ≠ g1 ∧ p ≠ g2 ∧ ¬ (gi h 12 p ≠ -1 ∧ gi h 12 p ≤ t) ∧ gi h 9 p = r ∧ gi h 10 p = c
/-- facts are rows -/
def FV (h : dm_H) : Prop := (0 ≤ gi h 8 0 ∧ gi h 8 0 ≤ 24) ∧ ∀ p, 0 ≤ p → p < gi h 8 0 → (0 ≤ gi h 9 p ∧ gi h 9 p < gi h 2 0) ∧ vcd (cK h (gi h 9 p)) (gi h 10 p)
/-- what a run touches, all told -/
def frS (P : Nat) (h h' : dm_H) : Prop := (∀ a i, ¬ (P + 1 ≤ a ∧ a ≤ P + 16) → ¬ (a = P ∧ i = 5) → ¬ (137 ≤ a ∧ a ≤ 143) → gi h' a i = gi h a i) ∧ (∀ a i, a ≠ 137 → ¬ (a = 140 ∧ i = 1) → ¬ (a = 143 ∧ (i = 5 ∨ i = 6)) → gr h' a i = gr h a i) ∧ h'.2.2 = h.2.2
section RUN58
variable {P : Nat} {hB : dm_H} {oc : Int → Int → Prop}
/-- facts are too few to be too many -/
theorem fact_put {cl kd : Int → Int} {ω : mW} {r : Int} (hr : 0 ≤ r ∧ r < 6) (V : VW cl kd ω) {n : Int} (hn : 0 ≤ n ∧ n ≤ 24) {f : Int → Int} (hf : ∀ c, inW ω r c → ∃ q, 0 ≤ q ∧ q < n ∧ f q = c) (hz : ω.1 r = 32) : False := by
  have hc : ∀ x : Int, ∃ q, 0 ≤ x → x < 32 → 0 ≤ q ∧ q < 24 ∧ f q = ω.2 r x := by
    intro x
    by_cases w : 0 ≤ x ∧ x < 32
    · obtain ⟨q, q0, q1, q2⟩ := hf (ω.2 r x) ⟨x, w.1, by rw [hz]; exact w.2, rfl⟩
      exact ⟨q, fun _ _ => ⟨q0, by omega, q2⟩⟩
    · exact ⟨0, fun a b => absurd ⟨a, b⟩ w⟩
  obtain ⟨x, y, x0, xy, y1, e⟩ := pigeon 24 (fun x => (hc x).choose) (fun x x0 x1 => by
    have := (hc x).choose_spec x0 (by omega)
    exact ⟨this.1, this.2.1⟩)
  have ex := ((hc x).choose_spec x0 (by omega)).2.2
  have ey := ((hc y).choose_spec (by omega) (by omega)).2.2
  have e : (hc x).choose = (hc y).choose := e
  obtain ⟨i, i0, i1, i2⟩ := (V r hr.1 hr.2).2.2 x y x0 xy (by omega)
  exact i2 (by rw [← ex, ← ey, e])
theorem facts58 {d : Nat} (hd : 2 ≤ d) (hp : rw_ P) (K : RK hB) (F : FV hB) (t g1 g2 : Int) (w1 w6 w7 : Option dm_V) : ∀ (m : Nat) (p : Int) (h : dm_H), 0 ≤ p → p + m = gi hB 8 0 → frR P hB h → gr h 143 5 = P → VW (cK hB) (gi hB 4) (cW h P) → stp_ P 0 h → (∀ r, gi hB 2 0 ≤ r → r < 6 → rsz h P r = 0) → gi h P 5 = 0 →
    (∀ r c, 0 ≤ r → r < 6 → inW (cW h P) r c → ∃ q, 0 ≤ q ∧ q < p ∧ q ≠ g1 ∧ q ≠ g2 ∧ ¬ (gi hB 12 q ≠ -1 ∧ gi hB 12 q ≤ t) ∧ gi hB 9 q = r ∧ gi hB 10 q = c) → (∀ q, 0 ≤ q → q < p → q ≠ g1 → q ≠ g2 → ¬ (gi hB 12 q ≠ -1 ∧ gi hB 12 q ≤ t) → cov (cK hB) (gi hB 4) (cW h P) (gi hB 9 q) (gi hB 10 q)) →
    ∃ h', dL d 58 15 [lR 1 1 143, w1, lI t, lI g1, lI g2, lI p, w6, w7] [] h = dL d 58 91 [lR 1 1 143, w1, lI t, lI g1, lI g2, lI 0, w6, w7] [] h' ∧ LI P hB (ftC hB t g1 g2) 0 h' := by
  have hP : P = 95 ∨ P = 112 := hp
  have hru15 : ru 15 := Or.inl (by omega)
  intro m
  induction m with
  | zero =>
    intro p h p0 pm a1 a2 a3 a4 a5 a6 a7 a8
    obtain ⟨e1, -⟩ := frR_e hru15 hp a1
    rw [b58_15, e1 8 (by omega), if_neg (by omega)]
    refine ⟨h, rfl, a1, a2, a3, a4, a5, ?_, ?_, a6, a3, fun L L0 L1 => by omega⟩
    · rintro r c r0 r1 ⟨q, q0, q1, q2, q3, q4, rfl, rfl⟩
      exact a8 q q0 (by omega) q2 q3 q4
    · intro r c r0 r1 _ hc
      obtain ⟨q, q0, q1, q2, q3, q4, q5, q6⟩ := a7 r c r0 r1 hc
      exact ⟨q, q0, by omega, q2, q3, q4, q5, q6⟩
  | succ m ih =>
    intro p h p0 pm a1 a2 a3 a4 a5 a6 a7 a8
    obtain ⟨e1, -, -, e4, e5, -⟩ := frR_e hru15 hp a1
    have h24 := F.1
    obtain ⟨v1, v2⟩ := F.2 p p0 (by omega)
    have hnext : ∀ h', dL d 58 82 [lR 1 1 143, w1, lI t, lI g1, lI g2, lI p, w6, w7] [] h' = dL d 58 15 [lR 1 1 143, w1, lI t, lI g1, lI g2, lI (p + 1), w6, w7] [] h' := fun h' => by rw [b58_82, ck_p (by omega) (by omega)]
    have hskip : ¬ (p ≠ g1 ∧ p ≠ g2 ∧ ¬ (gi hB 12 p ≠ -1 ∧ gi hB 12 p ≤ t)) → _ := fun hno => ih (p + 1) h (by omega) (by omega) a1 a2 a3 a4 a5 a6 (fun r c r0 r1 hc => by
      obtain ⟨q, q0, q1, q2⟩ := a7 r c r0 r1 hc
      exact ⟨q, q0, by omega, q2⟩) (fun q q0 q1 q2 q3 q4 => by
      by_cases z : q = p
      · rw [z] at q2 q3 q4; exact absurd ⟨q2, q3, q4⟩ hno
      · exact a8 q q0 (by omega) q2 q3 q4)
    rw [b58_15, e1 8 (by omega), if_pos (by omega)]
    by_cases z1 : p = g1
    · rw [if_pos z1, hnext]; exact hskip (fun w => w.1 z1)
    rw [if_neg z1]
    by_cases z2 : p = g2
    · rw [if_pos z2, hnext]; exact hskip (fun w => w.2.1 z2)
    rw [if_neg z2, s60 (by omega) p t h (by omega), bk_v, b58_50, e1 12 (by omega)]
    by_cases z3 : gi hB 12 p ≠ -1 ∧ gi hB 12 p ≤ t
    · rw [bi_1 z3, if_neg (by decide), hnext]; exact hskip (fun w => w.2.2 z3)
    rw [bi_0 z3, if_pos rfl, ix_p p0 (by omega), ix_p p0 (by omega), a2, e1 9 (by omega), e1 10 (by omega)]
    have n6 := K.1
    obtain ⟨b, h', t1, t2⟩ := s36p (d := d) hd (h := h) hp (r := gi hB 9 p) (c := gi hB 10 p) (s := 0) (RK_fr hp a1 K) (by rw [e1 2 (by omega)]; exact v1) (by rw [e4, e5]; exact a3) a4 (by rw [e4]; exact v2)
    rw [e4, e5] at t2
    obtain ⟨b01, fP, V', S', g', hin, y0, y1, yo⟩ := t2
    have hr6 : 0 ≤ gi hB 9 p ∧ gi hB 9 p < 6 := by omega
    have key : gi h' P 5 = 0 ∧ cov (cK hB) (gi hB 4) (cW h' P) (gi hB 9 p) (gi hB 10 p) := by
      rcases b01 with q | q
      · rcases y0 q with ⟨rfl, w⟩ | ⟨_, w, _⟩
        · exact ⟨a6, w⟩
        · refine (fact_put hr6 a3 (n := p) (by omega) (f := gi hB 10) (fun c hc => ?_) w).elim
          obtain ⟨q, q0, q1, _, _, _, _, q6⟩ := a7 _ c hr6.1 hr6.2 hc
          exact ⟨q, q0, q1, q6⟩
      · obtain ⟨w1, w2, _⟩ := y1 q
        exact ⟨by rw [w2]; exact a6, w1⟩
    rw [t1, bk_v, b58_81, hnext]
    refine ih (p + 1) h' (by omega) (by omega) (frR_trans a1 (frR_D (frD_P fP))) (by rw [fP.2.1]; exact a2) V' S' (fun r r0 r1 => ?_) key.1 (fun r c r0 r1 hc => ?_) (fun q q0 q1 q2 q3 q4 => ?_)
    · rw [(yo r (by omega) r1 (by omega)).1]; exact a5 r r0 r1
    · rcases hin r c r0 r1 hc with w | ⟨rfl, rfl⟩
      · obtain ⟨q, q0, q1, q2⟩ := a7 r c r0 r1 w
        exact ⟨q, q0, by omega, q2⟩
      · exact ⟨p, p0, by omega, z1, z2, z3, rfl, rfl⟩
    · by_cases z : q = p
      · rw [z]; exact key.2
      · have vq := (F.2 q q0 (by omega)).1
        exact gro_cov g' (by omega) (a8 q q0 (by omega) q2 q3 q4)
theorem lays58 {d : Nat} (hd : 9 ≤ d) (hp : rw_ P) (K : RK hB) (B : BK hB oc (RLc hB)) {ft : Int → Int → Prop} (hft : ∀ r c, ft r c → 0 ≤ r ∧ r < gi hB 2 0) (htop : 0 ≤ gi hB 2 6 ∧ gi hB 2 6 ≤ 100) (w1 w2 w3 w4 : Option dm_V) : ∀ (m : Nat) (L : Int) (h : dm_H) (w6 w7 : Option dm_V), 0 ≤ L → L + m = gi hB 2 6 + 1 → LI P hB ft L h →
    ∃ b h', dL d 58 91 [lR 1 1 143, w1, w2, w3, w4, lI L, w6, w7] [] h = rI b h' ∧ frR P hB h' ∧ ((b = 1 ∧ gds (cK hB) (gi hB 4) (gi hB 7) ft (RLc hB) (gi hB 2 6 + 1) (cW h' P)) ∨ (b = 0 ∧ muc (cK hB) (gi hB 4) (gi hB 7) ft (RLc hB))) := by
  have hru15 : ru 15 := Or.inl (by omega)
  intro m
  induction m with
  | zero =>
    intro L h w6 w7 L0 Lm I
    have e26 : gi h 2 6 = gi hB 2 6 := (frR_e hru15 hp I.1).1 2 (by omega) 6
    rw [b58_91, e26, if_pos (by omega), b58_247, I.2.1, I.2.2.2.2.2.2.2.1, if_pos rfl, b58_262, z1_p (Or.inr rfl)]
    refine ⟨1, h, rfl, I.1, Or.inl ⟨rfl, ?_⟩⟩
    rw [show gi hB 2 6 + 1 = L by omega]
    exact I.2.2.2.2.2.2.2.2
  | succ m ih =>
    intro L h w6 w7 L0 Lm I
    obtain ⟨h', w6', w7', t1, t2⟩ := layer hd hp K B hft (by omega) I w1 w2 w3 w4 w6 w7 (by omega)
    rw [t1]
    rcases t2 with t2 | ⟨t2, t3, t4, t5⟩
    · exact ih (L + 1) h' _ _ (by omega) (by omega) t2
    · have e26 : gi h' 2 6 = gi hB 2 6 := (frR_e hru15 hp t4).1 2 (by omega) 6
      refine ⟨0, h', ?_, t4, Or.inr ⟨rfl, t5⟩⟩
      rw [b58_91, e26, t3, t2]
      by_cases z : gi hB 2 6 < L + 1
      · rw [if_pos z, b58_247, t3, t2, if_neg (by decide), b58_262, z1_p (Or.inl rfl)]
      · rw [if_neg z, if_neg (by decide), b58_247, t3, t2, if_neg (by decide), b58_262, z1_p (Or.inl rfl)]
end RUN58
theorem BK_sr {h : dm_H} {P : Nat} {oc : Int → Int → Prop} {RL : mU → Prop} (B : BK h oc RL) : BK (sr h 143 5 P) oc RL := by
  refine ⟨B.1, fun j j0 j1 => ?_⟩
  have e : gr (sr h 143 5 P) 14 j = gr h 14 j := by rw [gr_sr, if_neg (by omega)]
  rw [e]
  exact B.2 j j0 j1
theorem RLc_sr {h : dm_H} {P : Nat} : RLc (sr h 143 5 P) = RLc h := by
  have e : ∀ j, gr (sr h 143 5 P) 14 j = gr h 14 j := fun j => by rw [gr_sr, if_neg (by omega)]
  funext u
  apply propext
  unfold RLc
  simp only [e]
  exact Iff.rfl
theorem s58 {d : Nat} (hd : 10 ≤ d) {P : Nat} (hp : rw_ P) {h : dm_H} {oc : Int → Int → Prop} (K : RK h) (B : BK h oc (RLc h)) (F : FV h) (htop : 0 ≤ gi h 2 6 ∧ gi h 2 6 ≤ 100) (t g1 g2 : Int) :
    ∃ b h', dF d 58 [dR 1 1 143, dR 1 7 P, dI t, dI g1, dI g2] h = rI b h' ∧ frS P h h' ∧ ((b = 1 ∧ gds (cK h) (gi h 4) (gi h 7) (ftC h t g1 g2) (RLc h) (gi h 2 6 + 1) (cW h' P)) ∨ (b = 0 ∧ muc (cK h) (gi h 4) (gi h 7) (ftC h t g1 g2) (RLc h))) := by
  have hP : P = 95 ∨ P = 112 := hp
  have B' : BK (sr h 143 5 P) oc (RLc (sr h 143 5 P)) := by rw [RLc_sr]; exact BK_sr B
  have e5 : gr (sr h 143 5 P) 143 5 = P := by rw [gr_sr, if_pos ⟨rfl, rfl⟩]
  rw [f58 (by omega), b58_0, e5, s59 (by omega), bk_n, b58_12]
  have cg : ∀ a i, gi (clr (sr h 143 5 P) P) a i = if a = P ∧ i = 5 then 0 else if a = P + 16 ∧ 0 ≤ i ∧ i < 6 then 0 else if a = P + 1 ∧ 0 ≤ i ∧ i < 6 then 0 else gi h a i := by
    intro a i
    unfold clr
    rw [gi_si, gi_fill, gi_fill]
    rfl
  have f0 : frR P (sr h 143 5 P) (clr (sr h 143 5 P) P) := ⟨fun a i n1 n2 n3 => by rw [cg, if_neg n2, if_neg (by omega), if_neg (by omega)]; rfl, fun _ _ _ _ _ => rfl, rfl⟩
  have z0 : ∀ r, 0 ≤ r → r < 6 → rsz (clr (sr h 143 5 P) P) P r = 0 := fun r r0 r1 => by
    unfold rsz
    rw [cg, if_neg (by omega), if_neg (by omega), if_pos ⟨rfl, r0, r1⟩]
  obtain ⟨h1, t1, t2⟩ := facts58 (d := d - 1) (hB := sr h 143 5 P) (by omega) hp K F t g1 g2 (lR 1 7 P) none none (gi h 8 0).toNat 0 (clr (sr h 143 5 P) P) (by omega) (by have := F.1.1; show 0 + ((gi h 8 0).toNat : Int) = gi h 8 0; omega) f0 e5
    (fun r r0 r1 => ⟨by show 0 ≤ rsz (clr (sr h 143 5 P) P) P r ∧ rsz (clr (sr h 143 5 P) P) P r ≤ 32; rw [z0 r r0 r1]; omega, fun x x0 x1 => absurd (show x < rsz (clr (sr h 143 5 P) P) P r from x1) (by rw [z0 r r0 r1]; omega), fun x y x0 xy y1 => absurd (show y < rsz (clr (sr h 143 5 P) P) P r from y1) (by rw [z0 r r0 r1]; omega)⟩)
    (fun r r0 r1 => ⟨by rw [cg, if_neg (by omega), if_pos ⟨rfl, r0, r1⟩]; omega, fun x x0 x1 => by rw [z0 r r0 r1] at x1; omega⟩)
    (fun r r0 r1 => z0 r (by have := K.1.1; have r0 : gi h 2 0 ≤ r := r0; omega) r1) (by rw [cg, if_pos ⟨rfl, rfl⟩])
    (fun r c r0 r1 ⟨x, x0, x1, _⟩ => absurd (show x < rsz (clr (sr h 143 5 P) P) P r from x1) (by rw [z0 r r0 r1]; omega)) (fun q q0 q1 => by omega)
  rw [t1]
  obtain ⟨b, h', u1, u2, u3⟩ := lays58 (d := d - 1) (by omega) hp (hB := sr h 143 5 P) K B' (ft := ftC (sr h 143 5 P) t g1 g2) (by
    rintro r c ⟨q, q0, q1, _, _, _, rfl, _⟩
    exact (F.2 q q0 q1).1) htop (lR 1 7 P) (lI t) (lI g1) (lI g2) (gi h 2 6 + 1).toNat 0 h1 none none (by omega) (by show 0 + ((gi h 2 6 + 1).toNat : Int) = gi h 2 6 + 1; omega) t2
  refine ⟨b, h', u1, ⟨fun a i n1 n2 n3 => u2.1 a i n1 n2 n3, fun a i n1 n2 n3 => ?_, u2.2.2⟩, ?_⟩
  · rw [u2.2.1 a i n1 n2 (by omega), gr_sr, if_neg (by omega)]
  · rw [RLc_sr] at u3
    exact u3
