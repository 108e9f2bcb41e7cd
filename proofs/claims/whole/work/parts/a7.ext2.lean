/-! A RELATION MORE: rules stay as they are -/
section EX2
variable {cl kd cl' kd' : Int → Int} {n n' : Int}
theorem LSH_ext {ρ : mR} {k : Int} (hn : n ≤ n') (e : ∀ r, 0 ≤ r → r < n → cl' r = cl r) (L : LSH cl n ρ k) : LSH cl' n' ρ k := by
  rcases L with ⟨q1, q2, q3, q4⟩ | q | q
  · exact Or.inl ⟨q1, by omega, by rw [e _ q2.1 q2.2]; exact q3, q4⟩
  · exact Or.inr (Or.inl q)
  · exact Or.inr (Or.inr q)
theorem LSH_rel {ρ : mR} {k : Int} (L : LSH cl n ρ k) (q : ρ.1 k = 0 ∨ ρ.1 k = 1) : 0 ≤ ρ.2.1 k ∧ ρ.2.1 k < n := by
  rcases L with w | w | w
  · exact w.2.1
  · omega
  · omega
theorem grw_ext {oc : Int → Int → Prop} {ρ : mR} {hdr k : Int} (L : LSH cl n ρ k) (e : ∀ r, 0 ≤ r → r < n → kd' r = kd r) : grw kd' oc ρ hdr k ↔ grw kd oc ρ hdr k := by
  unfold grw
  constructor
  · rintro ⟨a, b, c⟩
    have r := LSH_rel L (Or.inl a)
    exact ⟨a, by rw [← e _ r.1 r.2]; exact b, c⟩
  · rintro ⟨a, b, c⟩
    have r := LSH_rel L (Or.inl a)
    exact ⟨a, by rw [e _ r.1 r.2]; exact b, c⟩
theorem crs_ext {oc : Int → Int → Prop} {ρ : mR} {hdr N : Int} (hL : ∀ k, 0 ≤ k → k < N → LSH cl n ρ k) (e : ∀ r, 0 ≤ r → r < n → kd' r = kd r) : ∀ k : Nat, (k : Int) ≤ N → crs kd' oc ρ hdr k = crs kd oc ρ hdr k
  | 0, _ => rfl
  | k + 1, hk => by
    have ih := crs_ext (oc := oc) (hdr := hdr) hL e k (by omega)
    have L := hL (k : Int) (by omega) (by omega)
    have ge := grw_ext (oc := oc) (hdr := hdr) L e
    have a := fun (x : Int → Int) => crs_atom (kd := x) (oc := oc) (ρ := ρ) (hdr := hdr) (k := (k : Int)) (by omega)
    have b := fun (x : Int → Int) => crs_grw (kd := x) (oc := oc) (ρ := ρ) (hdr := hdr) (k := (k : Int)) (by omega)
    have c := fun (x : Int → Int) => crs_rck (kd := x) (oc := oc) (ρ := ρ) (hdr := hdr) (k := (k : Int)) (by omega)
    rw [show ((k : Int) + 1).toNat = k + 1 by omega, show ((k : Int)).toNat = k by omega] at a b c
    by_cases g : grw kd oc ρ hdr k
    · have r := LSH_rel L (Or.inl g.1)
      rw [b kd' (ge.mpr g), b kd g, ih, e _ r.1 r.2]
    · by_cases s3 : ρ.1 k = 3
      · rw [c kd' s3, c kd s3, ih]
      · rw [a kd' (fun w => g (ge.mp w)) s3, a kd g s3, ih]
theorem gud_ext {oc : Int → Int → Prop} {ρ : mR} {hdr N : Int} (hL : ∀ k, 0 ≤ k → k < N → LSH cl n ρ k) (e : ∀ r, 0 ≤ r → r < n → kd' r = kd r) {k : Int} (k0 : 0 ≤ k) (k1 : k < N) (g : gud kd oc ρ hdr k) : gud kd' oc ρ hdr k := by
  have ge := grw_ext (oc := oc) (hdr := hdr) (hL k k0 k1) e
  have ec := crs_ext (oc := oc) (hdr := hdr) hL e k.toNat (by omega)
  unfold gud
  rw [ec]
  exact ⟨fun w => g.1 (ge.mp w), fun q w => g.2.1 q (fun z => w (ge.mpr z)), g.2.2.1, g.2.2.2⟩
theorem G1_ext {u : mU} (hn : n ≤ n') (e : ∀ r, 0 ≤ r → r < n → cl' r = cl r) (g : G1 cl n u) : G1 cl' n' u := by
  obtain ⟨a1, a2, ⟨a3, a4, a5, a6⟩, a7, a8⟩ := g
  have ec := e _ a2.1 a2.2
  refine ⟨a1, by omega, ⟨a3, ?_, fun k k0 k1 => LSH_ext hn e (a5 k k0 k1), a6⟩, by rw [ec]; exact a7, by rw [ec]; exact a8⟩
  unfold HDS
  rw [ec]; exact a4
theorem GOOD_ext {RL : mU → Prop} (hn : n ≤ n') (e : ∀ r, 0 ≤ r → r < n → cl' r = cl r ∧ kd' r = kd r) (g : GOOD cl kd n RL) : GOOD cl' kd' n' RL := by
  intro u hu
  obtain ⟨g1, g2, g3⟩ := g u hu
  have hL := g1.2.2.1.2.2.1
  have ec := e _ g1.2.1.1 g1.2.1.2
  have ek : ∀ r, 0 ≤ r → r < n → kd' r = kd r := fun r r0 r1 => (e r r0 r1).2
  refine ⟨G1_ext hn (fun r r0 r1 => (e r r0 r1).1) g1, g2, fun q => ⟨fun k k0 k1 => gud_ext hL ek k0 k1 ((g3 q).1 k k0 k1), ?_⟩⟩
  have hN := g1.2.2.1.1.2.1
  unfold hdg
  rw [crs_ext hL ek u.2.2.2.2.toNat (by omega), ec.1, ec.2]
  exact (g3 q).2
theorem lyS_ext {RL : mU → Prop} {oc : Int → Int → Prop} {f : Int → Int} (g : ∀ u, RL u → G1 cl n u) (e : ∀ r, 0 ≤ r → r < n → kd' r = kd r) : lyS kd' oc RL f ↔ lyS kd oc RL f := by
  have key : ∀ u, RL u → ∀ k, 0 ≤ k → k < u.2.2.2.2 → (u.2.2.2.1.1 k = 0 ∨ u.2.2.2.1.1 k = 1) → wgk kd' oc u k = wgk kd oc u k := by
    intro u hu k k0 k1 q
    have r := LSH_rel ((g u hu).2.2.1.2.2.1 k k0 k1) q
    have : nea kd' oc u k ↔ nea kd oc u k := by unfold nea; rw [e _ r.1 r.2]
    unfold wgk
    by_cases z : nea kd oc u k
    · rw [if_pos z, if_pos (this.mpr z)]
    · rw [if_neg z, if_neg (fun w => z (this.mp w))]
  constructor
  · rintro ⟨a, b⟩
    exact ⟨a, fun u hu k k0 k1 q => by rw [← key u hu k k0 k1 q]; exact b u hu k k0 k1 q⟩
  · rintro ⟨a, b⟩
    exact ⟨a, fun u hu k k0 k1 q => by rw [key u hu k k0 k1 q]; exact b u hu k k0 k1 q⟩
theorem lyL_ext {RL : mU → Prop} {oc : Int → Int → Prop} {f : Int → Int} (g : ∀ u, RL u → G1 cl n u) (e : ∀ r, 0 ≤ r → r < n → kd' r = kd r) (l : lyL kd oc RL f) : lyL kd' oc RL f := ⟨(lyS_ext g e).mpr l.1, fun f' h => l.2 f' ((lyS_ext g e).mp h)⟩
end EX2
section EX3
variable {h H : dm_H}
/-- a heap with a relation more -/
def rlM (n : Int) (h H : dm_H) : Prop := (∀ a i, ¬ ((a = 3 ∨ a = 4 ∨ a = 5 ∨ a = 166 ∨ a = 167) ∧ i = n) → ¬ (a = 2 ∧ i = 0) → ¬ (a = 165 ∧ (i = 0 ∨ i = 1)) → gi H a i = gi h a i) ∧ (∀ a i, gr H a i = gr h a i) ∧ gi H 2 0 = n + 1 ∧ gi H 165 1 = n + 1
theorem rlM_c (K : RK h) {n : Int} (en : gi h 2 0 = n) (m : rlM n h H) : ∀ r, 0 ≤ r → r < n → (cK H r = cK h r ∧ gi H 4 r = gi h 4 r) ∧ gi H 3 r = gi h 3 r ∧ gi H 166 r = gi h 166 r := by
  intro r r0 r1
  have e3 : gi H 3 r = gi h 3 r := m.1 _ _ (by omega) (by omega) (by omega)
  exact ⟨⟨by unfold cK; rw [e3], m.1 _ _ (by omega) (by omega) (by omega)⟩, e3, m.1 _ _ (by omega) (by omega) (by omega)⟩
theorem DSH_ext (K : RK h) {A : Nat} {n : Int} (r : ru A) (en : gi h 2 0 = n) (m : rlM n h H) (D : DSH A h) : DSH A H := by
  have rr := ru_r r
  have g : ∀ a i, A ≤ a → a ≤ A + 7 → gi H a i = gi h a i := fun a i p q => m.1 a i (by omega) (by omega) (by omega)
  have c := (uR_cg (A := A) (h := h) (h' := H) (fun a i p q _ => g a i p (by omega))).2
  have ex := rlM_c K en m
  obtain ⟨d1, d2, d3, d4, d5, d6, d7, d8, d9, d10, d11⟩ := D
  have et : ∀ k i, tm H A k i = tm h A k i := fun k i => g (A + 5) _ (by omega) (by omega)
  have gA : ∀ i, gi H A i = gi h A i := fun i => g A i (by omega) (by omega)
  unfold DSH
  simp only [gA]
  rw [c]
  refine ⟨d1, d2, d3, fun q => ?_, fun i i0 i1 => by rw [g _ _ (by omega) (by omega)]; exact d5 i i0 i1, fun i i0 i1 => by rw [g _ _ (by omega) (by omega)]; exact d6 i i0 i1, fun k k0 k1 => ?_, fun k k0 k1 q i i0 i1 => ?_, d9, d10, fun k k0 k1 q => ?_⟩
  · obtain ⟨q1, q2⟩ := d4 q
    rw [m.2.2.1]
    rw [en] at q1
    exact ⟨by omega, by rw [q2, (ex _ q1.1 q1.2).2.1]⟩
  · rw [m.2.2.1]
    have L := d7 k k0 k1
    rw [en] at L
    exact LSH_ext (by omega) (fun r r0 r1 => (ex r r0 r1).1.1) L
  · rw [g _ _ (by omega) (by omega)] at q
    rw [et]; exact d8 k k0 k1 q i i0 i1
  · rw [g _ _ (by omega) (by omega)] at q
    exact d11 k k0 k1 q
theorem SR_ext (K : RK h) {A : Nat} {n p : Int} (r : ru A) (en : gi h 2 0 = n) (m : rlM n h H) (D : DSH A h) (S : SR h A p) : SR H A p := by
  have rr := ru_r r
  have g : ∀ a i, A ≤ a → a ≤ A + 7 → gi H a i = gi h a i := fun a i p q => m.1 a i (by omega) (by omega) (by omega)
  have g7 : ∀ i, gi H 172 i = gi h 172 i := fun i => m.1 _ _ (by omega) (by omega) (by omega)
  have c := (uR_cg (A := A) (h := h) (h' := H) (fun a i p q _ => g a i p (by omega))).2
  have ex := rlM_c K en m
  have gA : ∀ i, gi H A i = gi h A i := fun i => g A i (by omega) (by omega)
  have gA1 : ∀ i, gi H (A + 1) i = gi h (A + 1) i := fun i => g _ i (by omega) (by omega)
  obtain ⟨s1, s2, s3, s4, s5, s6, s7⟩ := S
  have el : ∀ k w, lq H p k w = lq h p k w := fun k w => g7 _
  unfold SR
  simp only [g7, gA, gA1, el]
  rw [c]
  refine ⟨s1, s2, s3, s4, s5, fun k k0 k1 => ?_, s7⟩
  obtain ⟨q1, q2, q3, q4⟩ := s6 k k0 k1
  have L := D.2.2.2.2.2.2.1 k k0 k1
  rw [en] at L
  refine ⟨?_, ?_, ?_, fun i i0 i1 => ?_⟩
  · rw [← q1]
    show rsrt H p k = rsrt h p k
    unfold rsrt
    rw [el, el]
  · rw [← q2]
    show rsbj H p k = rsbj h p k
    unfold rsbj
    rw [el, el, el]
  · rw [← q3]
    show rwid H p k = rwid h p k
    have q1 : rsrt h p k = (cR h A).1 k := q1
    have q2 : rsbj h p k = (cR h A).2.1 k := q2
    unfold rwid
    rw [el, el]
    by_cases z : lq h p k 0 = 0
    · rw [if_pos z, if_pos z]
      have a : (cR h A).1 k = 0 ∨ (cR h A).1 k = 1 := by
        rw [← q1]
        unfold rsrt
        rw [if_pos z]
        split
        · exact Or.inl rfl
        · exact Or.inr rfl
      have rl := LSH_rel L a
      have e1 : lq h p k 1 = (cR h A).2.1 k := by
        rw [← q2]
        unfold rsbj
        rw [if_pos z]
      rw [e1]
      exact (ex _ rl.1 rl.2).2.2
    · rw [if_neg z, if_neg z]
  · rw [← q4 i i0 i1]
    show (if lq H p k 0 = 2 ∧ i = 2 then lq H p k 1 else lq H p k (3 + i)) = if lq h p k 0 = 2 ∧ i = 2 then lq h p k 1 else lq h p k (3 + i)
    rw [el, el, el]
end EX3
