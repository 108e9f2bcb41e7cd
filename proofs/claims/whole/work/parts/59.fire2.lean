/-! FIRE -/
section FIRE
variable {P : Nat} {hB : dm_H} {oc : Int → Int → Prop} {ft : Int → Int → Prop} {RL : mU → Prop} {s L : Int}
theorem RP_sub {A : Nat} (K : RK hB) (R : RP hB oc RL A) {k : Int} (k0 : 0 ≤ k) (k1 : k < gi hB A 4) (q : gi hB (A + 2) k = 0 ∨ gi hB (A + 2) k = 1) : (0 ≤ gi hB (A + 3) k ∧ gi hB (A + 3) k < 6) ∧ 0 ≤ gi hB (A + 4) k ∧ gi hB 7 (gi hB (A + 3) k) ≤ gi hB 7 (gi hB A 2) ∧ (gi hB (A + 2) k = 1 → gi hB 7 (gi hB (A + 3) k) < gi hB 7 (gi hB A 2)) := by
  rcases R.2.1.2.2.2.1 k k0 k1 with ⟨s0, s1, s2, s3, s4, s5, s6⟩ | ⟨z, _⟩
  · have s1 : 0 ≤ gi hB (A + 3) k ∧ gi hB (A + 3) k < 6 := s1
    have s2 : gi hB (A + 4) k = cK hB (gi hB (A + 3) k) := s2
    have D := (RK_D K _ s1.1 s1.2).1
    refine ⟨s1, by omega, ?_, fun z => s6 (fun y => by have y : gi hB (A + 2) k = 0 := y.1; omega)⟩
    by_cases y : nea (gi hB 4) oc (uR hB A) k
    · exact s5 y
    · exact Int.le_of_lt (s6 y)
  · have z : gi hB (A + 2) k = 2 ∨ (gi hB (A + 2) k = 3 ∧ _) := z
    omega
theorem vbq_mono {A : Nat} (hp : rw_ P) (K : RK hB) (R : RP hB oc RL A) (hL : gi hB 7 (gi hB A 2) = L) {s' : Int} {h h' : dm_H} (I : RI P hB ft RL s L h) (I' : RI P hB ft RL s' L h') (g : gro (cK hB) (gi hB 4) P s' h h') {Q : Int → Int → Prop} (hQ : ∀ k t, Q k t → t < s') : ∀ (n : Nat) (k : Int) (v w : mA), 0 ≤ k → k + n = gi hB A 4 → vbq A P h' Q n k v w → vbq A P h Q n k v w := by
  obtain ⟨e1, e2, e3, -, -, -⟩ := frR_e R.1 hp I.1
  obtain ⟨f1, f2, f3, -, -, -⟩ := frR_e R.1 hp I'.1
  have ec : ∀ j, j ≤ 7 → ∀ i, gi h (A + j) i = gi hB (A + j) i := fun j hj i => e1 _ (by omega) i
  have fc : ∀ j, j ≤ 7 → ∀ i, gi h' (A + j) i = gi hB (A + j) i := fun j hj i => f1 _ (by omega) i
  have ht : ∀ k, tm h' A k = tm h A k := fun k => funext (fun i => by unfold tm; rw [ec 5 (by omega), fc 5 (by omega)])
  intro n
  induction n with
  | zero => intro k v w _ _ e; exact e
  | succ n ih =>
    rintro k v w k0 kN ⟨x, x1, x2⟩
    refine ⟨x, ?_, ih (k + 1) x w (by omega) (by omega) x2⟩
    rw [fc 2 (by omega), fc 3 (by omega), fc 4 (by omega), ht] at x1
    rw [ec 2 (by omega), ec 3 (by omega), ec 4 (by omega)]
    rcases x1 with ⟨a, p, p0, p1, p2, p3⟩ | ⟨a, a2⟩
    · have z := RP_sub K R k0 (by omega) (Or.inl a)
      obtain ⟨g1, g2, g3, g4⟩ := g _ z.1.1 z.1.2
      have hns := hQ _ _ p2
      have hlt : p < rsz h P (gi hB (A + 3) k) := by
        rcases Int.lt_or_le p (rsz h P (gi hB (A + 3) k)) with y | y
        · exact y
        · have := g3 p p0 y p1; omega
      rcases g2 p p0 hlt with ⟨y1, y2⟩ | ⟨y1, _⟩
      · exact Or.inl ⟨a, p, p0, hlt, by rw [← y2]; exact p2, by rw [← y1]; exact p3⟩
      · omega
    · refine Or.inr ⟨a, ?_⟩
      rw [f3] at a2
      rw [e3]
      refine stp_cg (fun y c => ?_) a2
      have y1 : gi hB (A + 2) k = 1 := by rcases y with y | y; exact absurd y a; exact y
      have z := RP_sub K R k0 (by omega) (Or.inr y1)
      have zl := z.2.2.2 y1
      obtain ⟨u1, u2⟩ := I.2.2.2.2.1 _ z.1.1 z.1.2 (by omega)
      obtain ⟨w1, w2⟩ := I'.2.2.2.2.1 _ z.1.1 z.1.2 (by omega)
      show (∃ x, 0 ≤ x ∧ x < rsz h' P (gi hB (A + 3) k) ∧ rws h' P (gi hB (A + 3) k) x = c) ↔ (∃ x, 0 ≤ x ∧ x < rsz h P (gi hB (A + 3) k) ∧ rws h P (gi hB (A + 3) k) x = c)
      rw [u1, w1]
      constructor
      · rintro ⟨x, x0, x1, x2⟩; exact ⟨x, x0, x1, by rw [u2, ← w2]; exact x2⟩
      · rintro ⟨x, x0, x1, x2⟩; exact ⟨x, x0, x1, by rw [w2, ← u2]; exact x2⟩
/-- no new row, no binding with it -/
theorem vbq_none {A : Nat} {h : dm_H} {r na : Int} (hn : gi h (A + 2) na = 0) (hx : ∀ x, 0 ≤ x → x < rsz h P (gi h (A + 3) na) → rst h P (gi h (A + 3) na) x < r) : ∀ (n : Nat) (k : Int) (v w : mA), k ≤ na → na < k + n → ¬ vbq A P h (Qr r na) n k v w := by
  intro n
  induction n with
  | zero => intro k v w q1 q2; omega
  | succ n ih =>
    rintro k v w q1 q2 ⟨x, x1, x2⟩
    by_cases e : k = na
    · subst e
      rcases x1 with ⟨a, p, p0, p1, p2, p3⟩ | ⟨a, _⟩
      · have := hx p p0 p1
        have := p2.1
        rw [if_pos rfl] at this
        omega
      · exact a hn
    · exact ih (k + 1) x w (by omega) (by omega) x2
/-- what the flag tells -/
def flc (P : Nat) (hB : dm_H) (s : Int) (h h' : dm_H) : Prop := (gi h' 143 8 = gi h 143 8 ∧ smW (cW h P) (cW h' P)) ∨ (gi h' 143 8 = 1 ∧ (s = 1 ∨ wgh (cK hB) (gi hB 4) (cW h P) < wgh (cK hB) (gi hB 4) (cW h' P)))
theorem smW_tr {ω ω1 ω2 : mW} (a : smW ω ω1) (b : smW ω1 ω2) : smW ω ω2 := fun r r0 r1 => ⟨by rw [(b r r0 r1).1, (a r r0 r1).1], fun x => by rw [(b r r0 r1).2, (a r r0 r1).2]⟩
theorem flc_trans {h h1 h2 : dm_H} (a : flc P hB s h h1) (b : flc P hB s h1 h2) : flc P hB s h h2 := by
  rcases b with ⟨b1, b2⟩ | ⟨b1, b2⟩
  · rcases a with ⟨a1, a2⟩ | ⟨a1, a2⟩
    · exact Or.inl ⟨by rw [b1, a1], smW_tr a2 b2⟩
    · exact Or.inr ⟨by rw [b1, a1], by rw [smW_wgh b2]; exact a2⟩
  · refine Or.inr ⟨b1, ?_⟩
    rcases b2 with b2 | b2
    · exact Or.inl b2
    · rcases a with ⟨a1, a2⟩ | ⟨a1, a2 | a2⟩
      · right; rw [← smW_wgh a2]; exact b2
      · exact Or.inl a2
      · right; omega
theorem flc_refl (h : dm_H) : flc P hB s h h := Or.inl ⟨rfl, fun _ _ _ => ⟨rfl, fun _ => rfl⟩⟩
theorem flc_P (hp : rw_ P) {h h' : dm_H} (e : smP P h h') (e8 : gi h' 143 8 = gi h 143 8) : flc P hB s h h' := Or.inl ⟨e8, fun r r0 r1 => ⟨e _ _ (by omega) (by omega), fun x => e _ _ (by omega) (by omega)⟩⟩
theorem gro_P {cl kd : Int → Int} {h h' : dm_H} (e : smP P h h') : gro cl kd P s h h' := by
  intro r r0 r1
  have e1 : rsz h' P r = rsz h P r := e _ _ (by omega) (by omega)
  rw [e1, e (P + 16) r (by omega) (by omega)]
  exact ⟨Int.le_refl _, fun x _ _ => Or.inl ⟨e _ _ (by omega) (by omega), e _ _ (by omega) (by omega)⟩, fun x _ _ _ => by omega, Int.le_refl _, Or.inl rfl⟩
theorem smP_b (hp : rw_ P) {h : dm_H} {A V : Nat} : smP P h (bgn h A P V) := fun a i _ _ => bgn_gi (by unfold rw_ at hp; omega) (by unfold rw_ at hp; omega)
theorem smP_g (hp : rw_ P) {h : dm_H} {A : Nat} : smP P h (grb h A) := fun a i _ _ => grb_gi (by unfold rw_ at hp; omega)
theorem smP_tr {h h1 h2 : dm_H} (a : smP P h h1) (b : smP P h1 h2) : smP P h h2 := fun c i p q => by rw [b c i p q, a c i p q]
theorem s63e {d : Nat} (hd : 1 ≤ d) {h : dm_H} (h2 : gi h 140 2 = 0) (h3 : gi h 140 3 = 0) (r5 : gr h 143 5 = P) (h5 : gi h P 5 = 0 ∨ gi h P 5 = 1) : dF d 63 [dR 1 1 143] h = rV h := by
  rw [f63 hd, b63_0, b63_2, if_neg (by omega), r5, h3, if_pos rfl]
  rcases h5 with q | q
  · rw [if_pos q, b63_77, z1_p (Or.inl rfl), si_same q]
  · rw [if_neg (by omega), b63_72, b63_77, z1_p (Or.inr rfl), si_same q]
/-- in the first round a FOLLOWS rule looks at all -/
theorem fire_0 {A : Nat} (hp : rw_ P) (K : RK hB) (R : RP hB oc RL A) (hk : gi hB A 1 = 0) (hL : gi hB 7 (gi hB A 2) = L) {h : dm_H} (I : RI P hB ft RL 1 L h) (r6 : gr h 143 6 = A) (r5 : gr h 143 5 = P) (h7 : gi h 143 7 = 0) {d : Nat} (hd : 9 ≤ d) :
    ∃ h', dF d 61 [dR 1 1 143] h = rV h' ∧ RI P hB ft RL 1 L h' ∧ frR P h h' ∧ gro (cK hB) (gi hB 4) P 1 h h' ∧ flc P hB 1 h h' ∧ (gr h' 143 6 = A ∧ gr h' 143 5 = P ∧ gi h' 143 7 = 0) ∧ (gi h' P 5 = 0 → gi h P 5 = 0 ∧ ∀ w, vbq A P h' (Qr 0 (-1)) (gi hB A 4).toNat 0 v0 w → cov (cK hB) (gi hB 4) (cW h' P) (gi hB A 2) (hdc (cK hB) (uR hB A) w)) := by
  have hP : P = 95 ∨ P = 112 := hp
  obtain ⟨e1, e2, e3, e4, e5, e6⟩ := frR_e R.1 hp I.1
  have eA : ∀ i, gi h A i = gi hB A i := fun i => e1 A (by omega) i
  have f1 : frR P h (grb (bgn h A P 143) A) := frR_trans frR_b frR_g
  have m1 : smP P h (grb (bgn h A P 143) A) := smP_tr (smP_b hp) (smP_g hp)
  have I1 := RI_P R.1 hp I f1 m1
  have hg : ∀ a i, a ≠ 140 → gi (grb (bgn h A P 143) A) a i = gi (bgn h A P 143) a i := fun a i ha => grb_gi (by omega)
  have hb8 : gi (grb (bgn h A P 143) A) 143 8 = gi h 143 8 := by rw [hg _ _ (by decide), bgn_gi (by decide) (by decide)]
  have hb7 : gi (grb (bgn h A P 143) A) 143 7 = 0 := by rw [hg _ _ (by decide), bgn_gi (by decide) (by decide)]; exact h7
  obtain ⟨j2, j3, j4, j5, j9, j10⟩ := bgn_j h A P 143
  obtain ⟨b6, b7, b8⟩ := bgn_gr h A P 143
  have hva : va (grb (bgn h A P 143) A) 138 = v0 := by
    refine Eq.trans ?_ (bgn_va h A P 143)
    funext x; unfold va; rw [hg _ _ (by decide)]
  have hgr : ∀ a i, a ≠ 140 → gr (grb (bgn h A P 143) A) a i = gr (bgn h A P 143) a i := fun a i ha => by rw [grb_gr, if_neg (by omega)]
  have k6 : gr (grb (bgn h A P 143) A) 143 6 = A := by rw [hgr _ _ (by decide), bgn_gn (by decide)]; exact r6
  have k5 : gr (grb (bgn h A P 143) A) 143 5 = P := by rw [hgr _ _ (by decide), bgn_gn (by decide)]; exact r5
  obtain ⟨h', q1, q2, q3, q4, q5, q6⟩ := join_F (d := d - 1) hp K R hk hL I1 (rd := 0) (na := -1) (by omega) k6 k5 (by rw [hb7]; omega) ⟨by rw [hgr _ _ (by decide)]; exact b6, by rw [hgr _ _ (by decide)]; exact b7, by rw [hgr _ _ (by decide)]; exact b8⟩ hva ⟨by rw [hg _ _ (by decide)]; exact j2, by rw [hg _ _ (by decide)]; exact j4, by rw [hg _ _ (by decide)]; exact j5, by rw [hg _ _ (by decide)]; exact j9, by rw [hg _ _ (by decide)]; exact j10⟩ (by omega)
  have c2 : gi h' 140 2 = 0 := by
    rw [q3.1 140 2 (by omega) (by omega) (by omega) (by omega) (by omega) (by omega)]
    unfold grb; rw [gi_sij (by decide), gi_sis]
  have c3 : gi h' 140 3 = 0 := by
    rw [q3.1 140 3 (by omega) (by omega) (by omega) (by omega) (by omega) (by omega)]
    unfold grb; rw [gi_sis]
  have c5 : gr h' 143 5 = P := by rw [q3.2.1]; exact k5
  have h63 := s63e (d := d - 1) (by omega) c2 c3 c5 (by rcases q2.2.2.2.2.2 with z | z; exact Or.inl z; exact Or.inr z.1)
  refine ⟨h', ?_, q2, frR_trans f1 (frR_D q3), gro_trans (gro_P m1) q4, flc_trans (flc_P hp m1 hb8) q5, ⟨by rw [q3.2.1]; exact k6, c5, by rw [q3.1 143 7 (by omega) (by omega) (by omega) (by omega) (by omega) (by omega)]; exact hb7⟩, fun z => ?_⟩
  · rw [f61 (by omega), b61_0, if_pos h7, r6, eA, if_pos hk, r5, s20 (by omega), bk_n, b61_40, bgn_gn (by decide), r6, s62 (by omega), bk_n, b61_51, q1, bk_n, b61_59, h63, bk_n, b61_63]
  · obtain ⟨y1, y2⟩ := q6 z
    exact ⟨by rw [← m1 P 5 (by omega) (by omega)]; exact y1, y2⟩
end FIRE
