/-! READING CALLS OVER THE JOINER: a rule of the book (also one that is NEVER), rows of now -/
section JRD
variable {h : dm_H} {π : Int → Int} {A P : Nat}
theorem flat_len {α β : Type} (l : List α) (f : α → List β) (c : Int) (hc : ∀ x ∈ l, ((f x).length : Int) ≤ c) : ((l.flatMap f).length : Int) ≤ l.length * c := by
  induction l with
  | nil => simp
  | cons a l ih =>
    rw [List.flatMap_cons, List.length_append, List.length_cons]
    have h1 := hc a List.mem_cons_self
    have h2 := ih (fun x hx => hc x (List.mem_cons_of_mem _ hx))
    have e : ((l.length + 1 : Nat) : Int) * c = (l.length : Int) * c + c := by
      rw [Int.natCast_add, Int.add_mul]; simp
    rw [e]
    omega
theorem one_len (t : Int → Int) (w : Int) (c : Int → Int) (v : mA) (p : Int) : (one t w c v p).length ≤ 1 := by
  unfold one
  split
  · exact Nat.zero_le _
  · cases bA t (c p) w.toNat 0 v <;> simp
theorem opt_len {ρ : mR} {ω : mW} {k : Int} {v : mA} (hz : ρ.1 k = 0 → 0 ≤ ω.1 (ρ.2.1 k) ∧ ω.1 (ρ.2.1 k) ≤ 32) : ((opt ρ ω k v).length : Int) ≤ if ρ.1 k = 0 then 32 else 1 := by
  unfold opt
  by_cases z : ρ.1 k = 0
  · rw [if_pos z, if_pos z]
    have := hz z
    have := flat_len (List.range (ω.1 (ρ.2.1 k)).toNat) (fun p : Nat => one (ρ.2.2.2 k) (ρ.2.2.1 k) (ω.2 (ρ.2.1 k)) v (p : Int)) 1 (fun x _ => by have := one_len (ρ.2.2.2 k) (ρ.2.2.1 k) (ω.2 (ρ.2.1 k)) v (x : Int); omega)
    rw [List.length_range] at this
    unfold opA
    omega
  · rw [if_neg z, if_neg z]
    repeat' split
    all_goals simp
theorem bnd_len {ρ : mR} {ω : mW} {N : Int} (hz : ∀ k, 0 ≤ k → k < N → ρ.1 k = 0 → 0 ≤ ω.1 (ρ.2.1 k) ∧ ω.1 (ρ.2.1 k) ≤ 32) : ∀ (n : Nat) (k : Int) (v : mA), 0 ≤ k → k + n ≤ N → ((bnd ρ ω n k v).length : Int) ≤ abf ρ n k
  | 0, _, _, _, _ => by show ((1 : Nat) : Int) ≤ 1; omega
  | n + 1, k, v, k0, kN => by
    have h1 := flat_len (opt ρ ω k v) (fun w => bnd ρ ω n (k + 1) w) (abf ρ n (k + 1)) (fun w _ => bnd_len hz n (k + 1) w (by omega) (by omega))
    have h2 := opt_len (ρ := ρ) (ω := ω) (k := k) (v := v) (fun z => hz k k0 (by omega) z)
    have h3 := abf_pos ρ n (k + 1)
    show (((opt ρ ω k v).flatMap (fun w => bnd ρ ω n (k + 1) w)).length : Int) ≤ (if ρ.1 k = 0 then 32 else 1) * abf ρ n (k + 1)
    exact Int.le_trans h1 (Int.mul_le_mul_of_nonneg_right h2 (by omega))
/-- what a rule of the book is, for the joiner -/
theorem GWc (K : RK h) (R : RIc A h) {ω : mW} (V : VW (cK h) (gi h 4) ω) : GW (cR h A) ω (gi h A 4) := by
  obtain ⟨r1, ⟨d1, d2, d3, d4, d5, d6, d7, d8, d9, d10, d11⟩, r3, r4⟩ := R
  have D := DC_of K
  have h6 := K.1
  refine ⟨d2, fun k k0 k1 => ?_⟩
  have s := r3.2.1 k k0 k1
  rcases d7 k k0 k1 with ⟨b1, b2, b3, b4, b5, b6⟩ | ⟨b1, b2, b3, b4, b5⟩ | ⟨b1, b2, b3, b4, b5⟩
  · obtain ⟨v1, v2, v3⟩ := V _ b2.1 (by omega)
    have hd := (D ((cR h A).2.1 k) b2.1 (by omega)).1
    have hdst : dst (ω.2 ((cR h A).2.1 k)) (ω.1 ((cR h A).2.1 k)) ((cR h A).2.2.1 k) := by
      intro e p e0 e1 e2
      obtain ⟨i, i0, i1, i2⟩ := v3 e p e0 e1 e2
      refine ⟨i, i0, ?_, i2⟩
      rw [b3]
      unfold kwd at i1
      split at i1 <;> omega
    rcases b1 with b1 | b1
    · exact Or.inl ⟨b1, by omega, by omega, b5, v1, fun x x0 x1 => (v2 x x0 x1).1, hdst⟩
    · exact Or.inr (Or.inl ⟨b1, by omega, by omega, b5, v1, fun x x0 x1 => (v2 x x0 x1).1, fun i i0 i1 z => (s (by omega)).1 _ z ⟨i, i0, i1, rfl⟩⟩)
  · exact Or.inr (Or.inr ⟨Or.inl b1, fun i hi => ⟨b4 i (by omega) (by omega), fun z => (s (by omega)).1 _ z ⟨i, by omega, by omega, rfl⟩⟩⟩)
  · exact Or.inr (Or.inr ⟨Or.inr ⟨b1, b5⟩, fun i hi => ⟨b4 i (by omega) (by omega), fun z => (s (by omega)).1 _ z ⟨i, by omega, by omega, rfl⟩⟩⟩)
theorem SWc (K : RK h) (R : RIc A h) (hp : rw_ P) : SW A P (gi h A 4) 0 h := by
  obtain ⟨r1, ⟨d1, d2, d3, d4, d5, d6, d7, d8, d9, d10, d11⟩, r3, r4⟩ := R
  have h6 := K.1
  refine ⟨r1, hp, d2, by omega, fun k k0 k1 => ?_⟩
  have s := r3.2.1 k k0 k1
  rcases d7 k k0 k1 with ⟨b1, b2, b3, b4, b5, b6⟩ | ⟨b1, b2, b3, b4, b5⟩ | ⟨b1, b2, b3, b4, b5⟩
  · have b2 : 0 ≤ gi h (A + 3) k ∧ gi h (A + 3) k < gi h 2 0 := b2
    have b4 : 1 ≤ gi h (A + 4) k ∧ gi h (A + 4) k ≤ 3 := b4
    exact Or.inl ⟨b1, by omega, by omega⟩
  · exact Or.inr (Or.inl b1)
  · refine Or.inr (Or.inr ⟨b1, ?_, fun i hi => ⟨b4 i (by omega) (by omega), fun z => (s (by omega)).1 _ z ⟨i, by omega, by omega, rfl⟩⟩⟩)
    have b5 : 100 ≤ tm h A k 2 ∧ tm h A k 2 ≤ 107 := b5
    have := slot_v b5
    omega
theorem AWc (K : RK h) (R : RIc A h) (V : VW (cK h) (gi h 4) (cW h P)) : AW h A P (gi h A 4) := by
  obtain ⟨r1, ⟨d1, d2, d3, d4, d5, d6, d7, d8, d9, d10, d11⟩, r3, r4⟩ := R
  have D := DC_of K
  have h6 := K.1
  intro k k0 k1 z
  refine ⟨fun q i i0 i1 => ?_, ?_⟩
  · have w := LSH_w (d7 k k0 k1)
    have w : 1 ≤ gi h (A + 4) k ∧ gi h (A + 4) k ≤ 3 := w
    exact d8 k k0 k1 q i i0 (by omega)
  · have z' : (cR h A).1 k = 0 := z
    rcases d7 k k0 k1 with ⟨b1, b2, b3, b4, b5, b6⟩ | ⟨b1, _⟩ | ⟨b1, _⟩
    · obtain ⟨v1, v2, v3⟩ := V _ b2.1 (by omega)
      have hd := (D ((cR h A).2.1 k) b2.1 (by omega)).1
      intro e p e0 e1 e2
      obtain ⟨i, i0, i1, i2⟩ := v3 e p e0 e1 e2
      refine ⟨i, i0, ?_, i2⟩
      have b3 : gi h (A + 4) k = cK h ((cR h A).2.1 k) := b3
      rw [b3]
      unfold kwd at i1
      split at i1 <;> omega
    · omega
    · omega
theorem abfc (R : RIc A h) : abf (cR h A) (gi h A 4).toNat 0 ≤ 999999 := by
  obtain ⟨r1, ⟨d1, d2, d3, d4, d5, d6, d7, d8, d9, d10, d11⟩, r3, r4⟩ := R
  refine abf_le d2 (fun q => ?_)
  by_cases z : ∃ k, 0 ≤ k ∧ k < 4 ∧ (cR h A).1 k ≠ 0
  · exact z
  · have := atc_all (ρ := cR h A) 4 (fun k k0 k1 => Or.inl (by
      by_cases y : (cR h A).1 k = 0
      · exact y
      · exact absurd ⟨k, k0, k1, y⟩ z))
    have d91 := d9.1
    have d92 := d9.2
    rw [q, show (4 : Int).toNat = 4 from rfl, this] at d91
    clear z
    omega
/-- only the joiner is another one -/
def frJ (h h' : dm_H) : Prop := (∀ a i, ¬ (137 ≤ a ∧ a ≤ 139) → gi h' a i = gi h a i) ∧ (∀ a i, a ≠ 137 → gr h' a i = gr h a i) ∧ h'.2.2 = h.2.2
theorem frJ_trans {h h1 h2 : dm_H} (a : frJ h h1) (b : frJ h1 h2) : frJ h h2 := ⟨fun c i p => by rw [b.1 c i p, a.1 c i p], fun c i p => by rw [b.2.1 c i p, a.2.1 c i p], by rw [b.2.2, a.2.2]⟩
theorem frJ_b {V : Nat} : frJ h (bgn h A P V) := ⟨fun c i p => bgn_gi (by omega) (by omega), fun c i p => bgn_gn p, rfl⟩
theorem jn_fr (hr : ru A) (hp : rw_ P) {h1 : dm_H} (f : frJ h h1) : cR h1 A = cR h A ∧ gi h1 A 4 = gi h A 4 ∧ eqW (cW h P) (cW h1 P) ∧ cK h1 = cK h ∧ gi h1 4 = gi h 4 := by
  have r := ru_r hr
  have qP : P = 95 ∨ P = 112 := hp
  refine ⟨(uR_cg (fun a i p q _ => f.1 a i (by omega))).2, f.1 _ _ (by omega), cW_far hp (fun a i p q => f.1 a i (by omega)), ?_, funext (fun i => f.1 _ _ (by omega))⟩
  unfold cK
  simp only [show ∀ i, gi h1 3 i = gi h 3 i from fun i => f.1 _ _ (by omega)]
theorem jn_step {d : Nat} (hd : 8 ≤ d) (K : RK h) (R : RIc A h) (hp : rw_ P) (V : VW (cK h) (gi h 4) (cW h P)) (S : still h P) {h1 : dm_H} {M : Int} (f : frJ h h1) (g : gr h1 137 6 = A ∧ gr h1 137 7 = P ∧ gr h1 137 8 = 0) (j2 : gi h1 137 2 = 0) (j3 : gi h1 137 3 = 0) (j4 : gi h1 137 4 = M) (hM : 1 ≤ M) (j5 : gi h1 137 5 = 0) (j9 : gi h1 137 9 = 0) (j10 : gi h1 137 10 = -1) {v : mA} (hva : va h1 138 = v) (hv : nv v ∧ vr v) :
    ∃ h', dF d 22 [dR 1 5 137, dI 0] h1 = rV h' ∧ frJ h h' ∧ cnt M 0 (bnd (cR h A) (cW h P) (gi h A 4).toNat 0 v).length (gi h' 137 2) (gi h' 137 5) ∧ gi h' 137 3 = dpth (cR h1 A) (cW h1 P) (gi h A 4).toNat 0 v := by
  have r := ru_r R.1
  have qP : P = 95 ∨ P = 112 := hp
  obtain ⟨e1, e2, e3, e4, e5⟩ := jn_fr R.1 hp f
  have K1 : RK h1 := by
    unfold RK
    simp only [f.1 2 0 (by omega), show ∀ i, gi h1 3 i = gi h 3 i from fun i => f.1 _ _ (by omega), show ∀ i, gi h1 4 i = gi h 4 i from fun i => f.1 _ _ (by omega), show ∀ i, gi h1 5 i = gi h 5 i from fun i => f.1 _ _ (by omega)]
    exact K
  have R1 : RIc A h1 := RIc_cg R.1 (fun a i p q _ => f.1 a i (by omega)) (f.1 _ _ (by omega)) (fun i => f.1 _ _ (by omega)) R
  have V1 : VW (cK h1) (gi h1 4) (cW h1 P) := by rw [e4, e5]; exact eqW_VW e3 V
  have S1 : still h1 P := still_to (fun a i p q => f.1 a i (by omega)) (fun r r0 r1 => f.1 _ _ (by omega)) S
  have J : Js A P 0 (gi h A 4) 0 (-1) h1 h1 := ⟨g.1, g.2.1, g.2.2, e2, fun _ => rfl, fun _ => rfl, fun _ => rfl, fun _ => rfl, fun _ => rfl, j9, j10, fun r r0 r1 => (V1 r r0 r1).1, fun r p r0 r1 p0 p1 => ((V1 r r0 r1).2.1 p p0 p1).1⟩
  have W1 := SWc K1 R1 hp
  have A1 := AWc K1 R1 V1
  rw [e2] at W1 A1
  obtain ⟨h', x1, x2, x3, x4, x5⟩ := nul_step (h0 := h1) W1 S1 A1 J j4 j2 j5 j3 hM hva hv (d := d) hd
  refine ⟨h', x1, frJ_trans f ⟨fun a i p => x2.1.1 a i (by omega) (by omega) (by omega), fun a i _ => x2.1.2 a i, x2.2⟩, ?_, x5⟩
  have G := GWc K R V
  have eb : bnd (cR h1 A) (cW h1 P) (gi h A 4).toNat 0 v = bnd (cR h A) (cW h P) (gi h A 4).toNat 0 v := by
    rw [e1]
    exact bnd_eqW e3 (fun k k0 k1 q => by
      rcases G.2 k k0 k1 with z | z | z
      · exact z.2.1
      · exact z.2.1
      · rcases z.1 with w | w <;> omega) _ 0 v (by omega) (by have := G.1; omega)
  rw [← eb]; exact x4
end JRD
