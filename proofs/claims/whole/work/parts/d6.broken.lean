/-! WHAT MUST NEVER FOLLOW -/
section BRK
variable {h H : dm_H} {π : Int → Int}
/-- sets of rows decide which bindings there are -/
theorem bnd_set {ρ : mR} {ω ω' : mW} {N : Int} (hw : ∀ k, 0 ≤ k → k < N → ρ.1 k = 0 ∨ ρ.1 k = 1 → 0 ≤ ρ.2.2.1 k ∧ ∀ c, inW ω (ρ.2.1 k) c ↔ inW ω' (ρ.2.1 k) c) : ∀ (n : Nat) (k : Int) (v u : mA), 0 ≤ k → k + n ≤ N → (u ∈ bnd ρ ω n k v ↔ u ∈ bnd ρ ω' n k v)
  | 0, _, _, _, _, _ => Iff.rfl
  | n + 1, k, v, u, k0, kn => by
    have e : ∀ w, w ∈ opt ρ ω k v ↔ w ∈ opt ρ ω' k v := by
      intro w
      rw [mem_opt (fun q => (hw k k0 (by omega) (Or.inl q)).1), mem_opt (fun q => (hw k k0 (by omega) (Or.inl q)).1)]
      unfold stp
      by_cases q : ρ.1 k = 0 ∨ ρ.1 k = 1
      · simp only [(hw k k0 (by omega) q).2]
      · have q0 : ¬ ρ.1 k = 0 := fun z => q (Or.inl z)
        have q1 : ¬ ρ.1 k = 1 := fun z => q (Or.inr z)
        simp only [q0, q1, false_and, false_or]
    show u ∈ (opt ρ ω k v).flatMap (fun w => bnd ρ ω n (k + 1) w) ↔ u ∈ (opt ρ ω' k v).flatMap (fun w => bnd ρ ω' n (k + 1) w)
    rw [List.mem_flatMap, List.mem_flatMap]
    exact ⟨fun ⟨w, h1, h2⟩ => ⟨w, (e w).mp h1, (bnd_set hw n (k + 1) w u (by omega) (by omega)).mp h2⟩, fun ⟨w, h1, h2⟩ => ⟨w, (e w).mpr h1, (bnd_set hw n (k + 1) w u (by omega) (by omega)).mpr h2⟩⟩
theorem ne_nil_iff {α : Type} {l l' : List α} (e : ∀ u, u ∈ l ↔ u ∈ l') : l ≠ [] ↔ l' ≠ [] := by
  constructor
  · intro q
    obtain ⟨u, hu⟩ := List.exists_mem_of_ne_nil _ q
    exact List.ne_nil_of_mem ((e u).mp hu)
  · intro q
    obtain ⟨u, hu⟩ := List.exists_mem_of_ne_nil _ q
    exact List.ne_nil_of_mem ((e u).mpr hu)
/-- rule j is NEVER and has a binding -/
def brj (h : dm_H) (ω : mW) (j : Int) : Prop := gi h (gr h 14 j) 1 = 3 ∧ bnd (cR h (gr h 14 j)) ω (gi h (gr h 14 j) 4).toNat 0 v0 ≠ []
/-- a rule that is NEVER has a binding -/
def brk (h : dm_H) (ω : mW) : Prop := ∃ j, (0 ≤ j ∧ j < gi h 13 1) ∧ brj h ω j
/-- relations that bear on rules that are NEVER -/
def nvr (h : dm_H) (q : Int) : Prop := ∃ j, (0 ≤ j ∧ j < gi h 13 1) ∧ gi h (gr h 14 j) 1 = 3 ∧ ∃ k, (0 ≤ k ∧ k < gi h (gr h 14 j) 4) ∧ (gi h (gr h 14 j + 2) k = 0 ∨ gi h (gr h 14 j + 2) k = 1) ∧ rch6 h (gi h (gr h 14 j + 3) k) q
theorem nvr_dwn : dwn (RLc h) (nvr h) := by
  rintro u hu ⟨j, hj, j3, k, hk, ks, q⟩ i i0 i1 is
  exact ⟨j, hj, j3, k, hk, ks, rch6_dwn _ u hu q i i0 i1 is⟩
theorem brk_set (I : IN0 π h) {ω ω' : mW} (e : ∀ r, 0 ≤ r → r < 6 → nvr h r → ∀ c, inW ω r c ↔ inW ω' r c) : brk h ω ↔ brk h ω' := by
  have B := I.2.2.1
  have h6 := I.1.1.1
  have key : ∀ j, 0 ≤ j → j < gi h 13 1 → (brj h ω j ↔ brj h ω' j) := by
    intro j j0 j1
    have R := B.2.2.1 j j0 j1
    obtain ⟨d1, d2, d3, d4, d5, d6, d7, d8, d9, d10, d11⟩ := R.2.1
    unfold brj
    by_cases j3 : gi h (gr h 14 j) 1 = 3
    · have := ne_nil_iff (fun u => bnd_set (ρ := cR h (gr h 14 j)) (ω := ω) (ω' := ω') (N := gi h (gr h 14 j) 4) (fun k k0 k1 ks => by
        have w := LSH_w (d7 k k0 k1)
        have w : 1 ≤ (cR h (gr h 14 j)).2.2.1 k ∧ (cR h (gr h 14 j)).2.2.1 k ≤ 3 := w
        have hs : 0 ≤ (cR h (gr h 14 j)).2.1 k ∧ (cR h (gr h 14 j)).2.1 k < gi h 2 0 := by
          rcases d7 k k0 k1 with z | z | z
          · exact z.2.1
          · have z1 := z.1; omega
          · have z1 := z.1; omega
        exact ⟨by omega, e _ hs.1 (by omega) ⟨j, ⟨j0, j1⟩, j3, k, ⟨k0, k1⟩, ks, Or.inl rfl⟩⟩) (gi h (gr h 14 j) 4).toNat 0 v0 u (by omega) (by omega))
      rw [this]
    · exact ⟨fun q => absurd q.1 j3, fun q => absurd q.1 j3⟩
  exact ⟨fun ⟨j, hj, q⟩ => ⟨j, hj, (key j hj.1 hj.2).mp q⟩, fun ⟨j, hj, q⟩ => ⟨j, hj, (key j hj.1 hj.2).mpr q⟩⟩
/-- without g1 and g2 nothing is broken -/
def fine (h : dm_H) (g1 g2 : Int) : Prop := hasQ h g1 g2 (fun ω => ¬ brk h ω)
theorem fine_set (I : IN0 π h) : setQ h (fun ω => ¬ brk h ω) := fun ω ω' _ _ e q z => q ((brk_set I (fun r r0 r1 _ c => e r r0 r1 c)).mpr z)
/-- facts that bear on nothing of it mend nothing -/
theorem fine_far (I : IN0 π h) {g1 g2 g3 g4 : Int} {ω' : mW} (g' : gds (cK h) (gi h 4) (gi h 7) (ftC h (gi h 1 12) g3 g4) (RLc h) 12 ω') (b : brk h ω') (h1 : 0 ≤ g1 → g1 < gi h 8 0 → g1 ≠ g3 → g1 ≠ g4 → ¬ nvr h (gi h 9 g1)) (h2 : 0 ≤ g2 → g2 < gi h 8 0 → g2 ≠ g3 → g2 ≠ g4 → ¬ nvr h (gi h 9 g2)) (h3 : 0 ≤ g3 → g3 < gi h 8 0 → g3 ≠ g1 → g3 ≠ g2 → ¬ nvr h (gi h 9 g3)) (h4 : 0 ≤ g4 → g4 < gi h 8 0 → g4 ≠ g1 → g4 ≠ g2 → ¬ nvr h (gi h 9 g4)) : ¬ fine h g1 g2 := by
  rintro ⟨ω, g, q⟩
  exact q ((brk_set I (fun r r0 r1 z c => hasQ_far I nvr_dwn h1 h2 h3 h4 g g' r r0 r1 z c)).mpr b)
/-- the class sees whether something is broken -/
theorem s19 {d : Nat} (hd : 9 ≤ d) (I : IN0 π h) (f : fpx h H) {P : Nat} (hp : rw_ P) (V : VW (cK h) (gi h 4) (cW H P)) (S : still H P) : ∃ b H', dF d 19 [dR 1 1 143, dR 1 7 P] H = rI b H' ∧ frJ H H' ∧ (b = 0 ∨ b = 1) ∧ (b = 1 ↔ brk h (cW H P)) := by
  have hQ : gr h 1 9 = 95 ∨ gr h 1 9 = 112 := I.2.2.2.2.2.2.2.2.2.1.2.1
  have hP : gr h 1 8 = 95 ∨ gr h 1 8 = 112 := I.2.2.2.2.2.2.2.2.2.1.1
  have hp' : P = 95 ∨ P = 112 := hp
  have s := spare_all (h' := H) I (fun a i p q r _ _ => f.1 a i p q r) f.2.1
  have B := I.2.2.1
  have hn := B.1
  have lo : ∀ a i, a < 95 ∨ (129 ≤ a ∧ a ≤ 136) → gi H a i = gi h a i := fun a i ha => f.1 a i (by omega) (by omega) (by omega)
  have lr : ∀ j, gr H 14 j = gr h 14 j := fun j => f.2.1 _ _ (by omega)
  have KH : RK H := s.1.1.1
  have eK : cK H = cK h := by unfold cK; simp only [show ∀ i, gi H 3 i = gi h 3 i from fun i => lo _ _ (by omega)]
  have e4 : gi H 4 = gi h 4 := funext (fun i => lo _ _ (by omega))
  have VH : VW (cK H) (gi H 4) (cW H P) := by rw [eK, e4]; exact V
  have loop : ∀ (m : Nat) (x : Int) (H1 : dm_H), 0 ≤ x → x + m = gi h 13 1 → frJ H H1 → (∀ j, 0 ≤ j → j < x → ¬ brj h (cW H P) j) → ∃ b H', dL (d - 1) 19 2 [lR 1 1 143, lR 1 7 P, lI x] [] H1 = rI b H' ∧ frJ H H' ∧ (b = 0 ∨ b = 1) ∧ (b = 1 ↔ brk h (cW H P)) := by
    intro m
    induction m with
    | zero =>
      intro x H1 x0 xm fJ no
      refine ⟨0, H1, ?_, fJ, Or.inl rfl, ⟨fun q => by omega, fun ⟨j, hj, q⟩ => absurd q (no j hj.1 (by omega))⟩⟩
      rw [b19_2, fJ.1 _ _ (by omega), lo _ _ (by omega), if_neg (by omega)]
    | succ m ih =>
      intro x H1 x0 xm fJ no
      have Rh := B.2.2.1 x x0 (by omega)
      have hru := ru_r Rh.1
      have RH : RIc (gr h 14 x) H := by
        have := (s.1.2.2.1).2.2.1 x x0 (by rw [lo 13 1 (by omega)]; omega)
        rw [lr x] at this
        exact RIN_c this
      have e13 : gi H1 13 1 = gi h 13 1 := by rw [fJ.1 _ _ (by omega), lo _ _ (by omega)]
      have e14 : gr H1 14 x = gr h 14 x := by rw [fJ.2.1 _ _ (by omega), lr]
      obtain ⟨A, eA⟩ : ∃ A, gr h 14 x = A := ⟨_, rfl⟩
      rw [eA] at hru RH e14 Rh
      have eA1 : gi H1 A 1 = gi h A 1 := by rw [fJ.1 _ _ (by omega), lo _ _ (by omega)]
      have on : ∀ (H2 : dm_H), frJ H H2 → ¬ brj h (cW H P) x → ∃ b H', dL (d - 1) 19 75 [lR 1 1 143, lR 1 7 P, lI x] [] H2 = rI b H' ∧ frJ H H' ∧ (b = 0 ∨ b = 1) ∧ (b = 1 ↔ brk h (cW H P)) := by
        intro H2 f2 q
        rw [b19_75, ck_p (by omega) (by omega)]
        refine ih (x + 1) H2 (by omega) (by omega) f2 (fun j j0 j1 => ?_)
        by_cases z : j = x
        · rw [z]; exact q
        · exact no j j0 (by omega)
      rw [b19_2, e13, if_pos (by omega), ix_p x0 (by omega), e14, eA1]
      by_cases j3 : gi h A 1 = 3
      · rw [if_pos j3, ix_p x0 (by omega), s20 (by omega), bk_n, b19_47]
        obtain ⟨j2, j3', j4, j5, j9, j10⟩ := bgn_j H1 A P 0
        have va1 : va (si (bgn H1 A P 0) 137 4 1) 138 = v0 := by
          rw [← bgn_va H1 A P 0]
          funext s
          unfold va
          rw [gi_sin (by decide)]
        have e137 : ∀ i, i ≠ 4 → gi (si (bgn H1 A P 0) 137 4 1) 137 i = gi (bgn H1 A P 0) 137 i := fun i hi => gi_sij hi
        obtain ⟨H2, y1, y2, y3, y4⟩ := jn_step (d := d - 1) (h := H) (h1 := si (bgn H1 A P 0) 137 4 1) (M := 1) (v := v0) (by omega) KH RH hp VH S (frJ_trans fJ (frJ_trans frJ_b frJ_si)) (bgn_gr H1 A P 0) ((e137 2 (by decide)).trans j2) ((e137 3 (by decide)).trans j3') gi_sis (by omega) ((e137 5 (by decide)).trans j5) ((e137 9 (by decide)).trans j9) ((e137 10 (by decide)).trans j10) va1 ⟨(v0_J (cR h A)).1, (v0_J (cR h A)).2.1⟩
        have ecR : cR H A = cR h A := (uR_cg (fun a i p q _ => lo a i (by omega))).2
        have eN : gi H A 4 = gi h A 4 := lo _ _ (by omega)
        rw [ecR, eN] at y3
        rw [y1, bk_n, b19_63]
        have hb : 0 < gi H2 137 2 ↔ bnd (cR h A) (cW H P) (gi h A 4).toNat 0 v0 ≠ [] := by
          cases hl : bnd (cR h A) (cW H P) (gi h A 4).toNat 0 v0 with
          | nil =>
            rw [hl] at y3
            have q := (y3.1 (by simp)).1
            simp at q
            exact ⟨fun z => by omega, fun z => absurd rfl z⟩
          | cons u l =>
            rw [hl] at y3
            have q := (y3.2 (by rw [List.length_cons]; push_cast; omega)).1
            exact ⟨fun _ => by simp, fun _ => by omega⟩
        by_cases z : 0 < gi H2 137 2
        · rw [if_pos z]
          refine ⟨1, H2, rfl, y2, Or.inr rfl, ⟨fun _ => ⟨x, ⟨x0, by omega⟩, ?_⟩, fun _ => rfl⟩⟩
          unfold brj
          rw [eA]
          exact ⟨j3, hb.mp z⟩
        · rw [if_neg z]
          refine on H2 y2 (fun q => z (hb.mpr ?_))
          unfold brj at q
          rw [eA] at q
          exact q.2
      · rw [if_neg j3]
        refine on H1 fJ (fun q => j3 ?_)
        unfold brj at q
        rw [eA] at q
        exact q.1
  rw [f19 (by omega), b19_0]
  exact loop (gi h 13 1).toNat 0 H (by omega) (by omega) ⟨fun _ _ _ => rfl, fun _ _ _ => rfl, rfl⟩ (fun j j0 j1 => by omega)
theorem rRl_cg {p : Int} (e1 : ∀ i, gi H 172 i = gi h 172 i) (e2 : ∀ i, gi H 166 i = gi h 166 i) : rRl H p = rRl h p := by
  unfold rRl rsrt rsbj rwid rtrm lq
  simp only [e1, e2]
/-- the reference sees whether all is fine -/
theorem s273 {d : Nat} (hd : 13 ≤ d) (I : IN0 π h) (f : frX h H) (E : eqW (rW h) (aW H)) (g1 g2 : Int) : ∃ b H', dF d 273 [dR 1 11 165, dI g1, dI g2] H = rI b H' ∧ frX h H' ∧ eqW (rW h) (aW H') ∧ (b = 0 ∨ b = 1) ∧ (b = 1 ↔ fine h g1 g2) ∧ gi H' 165 0 = gi H 165 0 ∧ H'.2.2 = H.2.2 ∧ (∀ i, 44 ≤ i → gi H' 165 i = gi H 165 i) := by
  have hQ : gr h 1 9 = 95 ∨ gr h 1 9 = 112 := I.2.2.2.2.2.2.2.2.2.1.2.1
  have B := I.2.2.1
  have J0 := I.2.2.2.1
  have f1 : frX h (si (si H 165 10 g1) 165 11 g2) := frX_trans f (frX_trans (frX_i (by omega)) (frX_i (by omega)))
  obtain ⟨b, H1, x1, x2, x3, x4⟩ := run_r (d := d - 1) (by omega) I f1
  rw [show gi (si (si H 165 10 g1) 165 11 g2) 165 10 = g1 by rw [gi_sij (by decide), gi_sis], gi_sis] at x3
  obtain ⟨q1, q2⟩ := hasQ_run I (fine_set I) x3
  have f2 : frX h H1 := frX_trans f1 (frX_F x2)
  have n4 : ∀ a i, ¬ (175 ≤ a ∧ a ≤ 180) → ¬ (185 ≤ a ∧ a ≤ 190) → ¬ (a = 165 ∧ (i = 10 ∨ i = 11 ∨ (27 ≤ i ∧ i ≤ 34))) → gi H1 a i = gi H a i := fun a i p q r => by rw [x2.1 a i p q (by omega), gi_si, if_neg (by omega), gi_si, if_neg (by omega)]
  have tz : H1.2.2 = H.2.2 := by rw [x2.2.2]; rfl
  have lo : ∀ a i, 166 ≤ a → a ≤ 174 → gi H1 a i = gi h a i := fun a i p q => f2.1 a i (by omega) (by omega) (by omega) (by omega) (by omega) (by omega)
  have E1 : eqW (rW h) (aW H1) := eqW_trans E (aW_same (fun a i q => n4 a i (by omega) (by omega) (by omega)))
  -- rules, one after the other
  have loop : ∀ (m : Nat) (p : Int) (H2 : dm_H), 0 ≤ p → p + m = 10 → VW (cK h) (gi h 4) (rW H1) → frM H1 H2 → (∀ j, 0 ≤ j → j < gi h 13 1 → π j < p → ¬ brj h (rW H1) j) → ∃ b H', dL (d - 1) 273 18 [lR 1 11 165, lI g1, lI g2, lI 1, lI p] [] H2 = rI b H' ∧ frM H1 H' ∧ (b = 0 ∨ b = 1) ∧ (b = 1 ↔ ¬ brk h (rW H1)) := by
    intro m
    induction m with
    | zero =>
      intro p H2 p0 pm V fm no
      refine ⟨1, H2, ?_, fm, Or.inr rfl, ⟨fun _ ⟨j, hj, q⟩ => ?_, fun _ => rfl⟩⟩
      · rw [b273_18, if_neg (by omega), b273_82, z1_p (Or.inr rfl)]
      · have R := B.2.2.1 j hj.1 hj.2
        have r1 := R.2.2.2.2.2.1.1
        have r2 := R.2.2.2.2.1
        by_cases z : π j = 10
        · rw [z] at r2; exact r2 J0
        · exact no j hj.1 hj.2 (by omega) q
    | succ m ih =>
      intro p H2 p0 pm V fm no
      have l2 : ∀ a i, 166 ≤ a → a ≤ 174 → gi H2 a i = gi h a i := fun a i p q => by rw [fm.1 a i (by omega) (by omega) (by omega) (by omega), lo a i p q]
      have on : ∀ (H3 : dm_H), frM H1 H3 → (∀ j, 0 ≤ j → j < gi h 13 1 → π j = p → ¬ brj h (rW H1) j) → ∃ b H', dL (d - 1) 273 76 [lR 1 11 165, lI g1, lI g2, lI 1, lI p] [] H3 = rI b H' ∧ frM H1 H' ∧ (b = 0 ∨ b = 1) ∧ (b = 1 ↔ ¬ brk h (rW H1)) := by
        intro H3 f3 q
        rw [b273_76, ck_p (by omega) (by omega)]
        refine ih (p + 1) H3 (by omega) (by omega) V f3 (fun j j0 j1 jp => ?_)
        by_cases z : π j = p
        · exact q j j0 j1 z
        · exact no j j0 j1 (by omega)
      rw [b273_18, if_pos (by omega), if_neg (by decide), ix_p p0 (by omega), l2 174 p (by omega) (by omega)]
      by_cases z : gi h 174 p = 0
      · rw [if_pos z]
        refine on H2 fm (fun j j0 j1 jp => ?_)
        have r2 := (B.2.2.1 j j0 j1).2.2.2.2.1
        rw [jp] at r2
        exact absurd z r2
      rw [if_neg z]
      obtain ⟨j, j0, j1, jp⟩ := B.2.2.2.2.1 p p0 (by omega) z
      have R := B.2.2.1 j j0 j1
      have uniq : ∀ i, 0 ≤ i → i < gi h 13 1 → π i = p → i = j := by
        intro i i0 i1 ip
        rcases Int.lt_trichotomy i j with w | w | w
        · exact absurd (ip.trans jp.symm) (B.2.2.2.1 i j i0 w j1)
        · exact w
        · exact absurd (jp.trans ip.symm) (B.2.2.2.1 j i j0 w i1)
      have S := R.2.2.2.2.2.1
      rw [jp] at S
      have s1 := S.1
      have s2 := S.2.1
      have s5 := S.2.2.2.2.1
      have s6 := S.2.2.2.2.2.1
      have hN : 0 ≤ gi h (gr h 14 j) 4 ∧ gi h (gr h 14 j) 4 ≤ 4 := R.2.1.2.1
      rw [s179 (by omega) p 0 H2 s1 (by omega), bk_v, Int.add_zero, l2 172 _ (by omega) (by omega), s2, b273_46]
      by_cases j3 : gi h (gr h 14 j) 1 = 3
      · rw [if_pos j3, s179 (by omega) p 5 H2 s1 (by omega), bk_v, l2 172 _ (by omega) (by omega), s5, b273_58]
        obtain ⟨H3, z1, z2, ⟨z3, z4, z5, z6, z7⟩, -⟩ := s189v (d := d - 1) (by omega) (gi h (gr h 14 j) 4) H2
        have f3 := frM_trans fm z2
        have eR : rRl H1 p = rRl h p := rRl_cg (fun i => lo _ _ (by omega) (by omega)) (fun i => lo _ _ (by omega) (by omega))
        have G0 := GWc I.1.1 (RIN_c R) V
        have G1 : GW (rRl H1 p) (rW H1) (gi h (gr h 14 j) 4) := by rw [eR]; exact GW_sim s6 G0
        have F1 : RF H1 p (gi h (gr h 14 j) 4) := by
          have := SR_RF S
          refine ⟨this.1, fun k k0 k1 => ?_⟩
          have w := this.2 k k0 k1
          unfold lq at w ⊢
          rw [lo _ _ (by omega) (by omega)]; exact w
        have It : Itr (rRl H1 p) (rW H1) (gi h (gr h 14 j) 4) H3 (bnd (cR h (gr h 14 j)) (rW H1) (gi h (gr h 14 j) 4).toNat 0 v0) := by
          refine ⟨z3, Or.inl ⟨z4, z5, z6, by rw [z7]; exact v0_J _, ?_⟩⟩
          rw [z7, eR, bnd_sim s6 (GW_wd G0) _ 0 v0 (by omega) (by omega)]
        have X := s190e (d := d - 1) (by omega) G1 F1 (frM_f f3) It
        rw [z1, bk_n, b273_61]
        cases hl : bnd (cR h (gr h 14 j)) (rW H1) (gi h (gr h 14 j) 4).toNat 0 v0 with
        | nil =>
          obtain ⟨H4, y1, y2⟩ := X.1 hl
          rw [y1, bk_v, b273_67, if_pos rfl, b273_75]
          refine on H4 (frM_trans f3 (frM_r y2)) (fun i i0 i1 ip q => ?_)
          rw [uniq i i0 i1 ip] at q
          exact q.2 hl
        | cons u l =>
          obtain ⟨H4, y1, y2, -⟩ := X.2 u l hl
          rw [y1, bk_v, b273_67, if_neg (by decide), b273_75, b273_76, ck_p (by omega) (by omega)]
          have f4 := frM_trans f3 (frM_r y2)
          have st : dL (d - 1) 273 18 [lR 1 11 165, lI g1, lI g2, lI 0, lI (p + 1)] [] H4 = rI 0 H4 := by
            rw [b273_18]
            by_cases w : p + 1 < 10
            · rw [if_pos w, if_pos rfl, b273_82, z1_p (Or.inl rfl)]
            · rw [if_neg w, b273_82, z1_p (Or.inl rfl)]
          exact ⟨0, H4, st, f4, Or.inl rfl, ⟨fun w => by omega, fun w => absurd ⟨j, ⟨j0, j1⟩, j3, by rw [hl]; simp⟩ w⟩⟩
      · rw [if_neg j3]
        exact on H2 fm (fun i i0 i1 ip q => by rw [uniq i i0 i1 ip] at q; exact j3 q.1)
  rw [f273 (by omega), b273_0, x1, bk_v, b273_14]
  rcases q1 with rfl | rfl
  · refine ⟨0, H1, ?_, f2, E1, Or.inl rfl, ⟨fun w => by omega, fun w => by have := (q2.mp w).1; omega⟩, n4 _ _ (by omega) (by omega) (by omega), tz, fun i hi => n4 _ _ (by omega) (by omega) (by omega)⟩
    rw [b273_18, if_pos (by omega), if_pos rfl, b273_82, z1_p (Or.inl rfl)]
  · have V : VW (cK h) (gi h 4) (rW H1) := by
      rcases x3 with ⟨_, g⟩ | ⟨w, _⟩
      · exact g.1
      · omega
    obtain ⟨b', H', y1, y2, y3, y4⟩ := loop 10 0 H1 (by omega) (by omega) V (frM_refl H1) (fun j j0 j1 jp => by
      have := (B.2.2.1 j j0 j1).2.2.2.2.2.1.1
      omega)
    refine ⟨b', H', y1, frX_trans f2 (frX_M y2), eqW_trans E1 (aW_same (fun a i q => y2.1 a i (by omega) (by omega) (by omega) (by omega))), y3, ?_, ?_, ?_, fun i hi => ?_⟩
    · rw [y4]
      exact ⟨fun w => q2.mpr ⟨rfl, w⟩, fun w => (q2.mp w).2⟩
    · rw [y2.1 _ _ (by omega) (by omega) (by omega) (by omega), n4 _ _ (by omega) (by omega) (by omega)]
    · rw [y2.2.2, tz]
    · rw [y2.1 _ _ (by omega) (by omega) (by omega) (by omega), n4 _ _ (by omega) (by omega) (by omega)]
end BRK
