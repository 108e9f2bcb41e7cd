/-! A JOINER BEGINS -/
def bgn (h : dm_H) (A P V : Nat) : dm_H := si (si (si (si (si (si (fill (sr (sr (sr h 137 6 A) 137 7 P) 137 8 V) 138 8 (-1)) 137 2 0) 137 3 0) 137 4 1000000) 137 5 0) 137 9 0) 137 10 (-1)
theorem s20 {d : Nat} (hd : 2 ≤ d) (h : dm_H) (A P V : Nat) : dF d 20 [dR 1 5 137, dR 1 8 A, dR 1 7 P, dR 7 0 V] h = rV (bgn h A P V) := by
  rw [f20 (by omega), b20_0, s21 (by omega) 8 138 (-1) _ (by omega), bk_n, b20_23]
  rfl
theorem bgn_gi {h : dm_H} {A P V a : Nat} {i : Int} (h1 : a ≠ 137) (h2 : a ≠ 138) : gi (bgn h A P V) a i = gi h a i := by
  unfold bgn
  rw [gi_sin h1, gi_sin h1, gi_sin h1, gi_sin h1, gi_sin h1, gi_sin h1, gi_fill, if_neg (fun z => h2 z.1)]
  rfl
theorem bgn_j (h : dm_H) (A P V : Nat) : gi (bgn h A P V) 137 2 = 0 ∧ gi (bgn h A P V) 137 3 = 0 ∧ gi (bgn h A P V) 137 4 = 1000000 ∧ gi (bgn h A P V) 137 5 = 0 ∧ gi (bgn h A P V) 137 9 = 0 ∧ gi (bgn h A P V) 137 10 = -1 := by
  unfold bgn
  refine ⟨?_, ?_, ?_, ?_, ?_, ?_⟩
  · rw [gi_sij (by decide), gi_sij (by decide), gi_sij (by decide), gi_sij (by decide), gi_sij (by decide), gi_sis]
  · rw [gi_sij (by decide), gi_sij (by decide), gi_sij (by decide), gi_sij (by decide), gi_sis]
  · rw [gi_sij (by decide), gi_sij (by decide), gi_sij (by decide), gi_sis]
  · rw [gi_sij (by decide), gi_sij (by decide), gi_sis]
  · rw [gi_sij (by decide), gi_sis]
  · rw [gi_sis]
theorem bgn_va (h : dm_H) (A P V : Nat) : va (bgn h A P V) 138 = v0 := by
  funext s
  unfold va v0
  by_cases q : 0 ≤ s ∧ s < 8
  · rw [if_pos q]
    unfold bgn
    rw [gi_sin (by decide), gi_sin (by decide), gi_sin (by decide), gi_sin (by decide), gi_sin (by decide), gi_sin (by decide), gi_fill, if_pos ⟨rfl, q.1, by omega⟩]
  · rw [if_neg q]
theorem bgn_gr (h : dm_H) (A P V : Nat) : gr (bgn h A P V) 137 6 = A ∧ gr (bgn h A P V) 137 7 = P ∧ gr (bgn h A P V) 137 8 = V := by
  refine ⟨rfl, rfl, rfl⟩
theorem bgn_gn {h : dm_H} {A P V a : Nat} {i : Int} (h1 : a ≠ 137) : gr (bgn h A P V) a i = gr h a i := by
  show (if a = 137 ∧ i = 8 then V else if a = 137 ∧ i = 7 then P else if a = 137 ∧ i = 6 then A else gr h a i) = _
  rw [if_neg (fun z => h1 z.1), if_neg (fun z => h1 z.1), if_neg (fun z => h1 z.1)]
theorem bgn_3 (h : dm_H) (A P V : Nat) : (bgn h A P V).2.2 = h.2.2 := rfl
/-- groups begin -/
def grb (h : dm_H) (A : Nat) : dm_H := si (si (sr h 140 1 A) 140 2 0) 140 3 0
theorem s62 {d : Nat} (hd : 1 ≤ d) (h : dm_H) (A : Nat) : dF d 62 [dR 1 4 140, dR 1 8 A] h = rV (grb h A) := by
  rw [f62 hd, b62_0]
  rfl
theorem s65 {d : Nat} (hd : 1 ≤ d) (h : dm_H) (r na : Int) : dF d 65 [dR 1 5 137, dI r, dI na] h = rV (si (si h 137 9 r) 137 10 na) := by
  rw [f65 hd, b65_0]
theorem grb_gi {h : dm_H} {A a : Nat} {i : Int} (h1 : ¬ (a = 140 ∧ (i = 2 ∨ i = 3))) : gi (grb h A) a i = gi h a i := by
  unfold grb
  rw [gi_si, if_neg (fun z => h1 ⟨z.1, Or.inr z.2⟩), gi_si, if_neg (fun z => h1 ⟨z.1, Or.inl z.2⟩)]
  rfl
theorem grb_gr {h : dm_H} {A a : Nat} {i : Int} : gr (grb h A) a i = if a = 140 ∧ i = 1 then A else gr h a i := rfl
/-- what a run touches -/
def frR (P : Nat) (h h' : dm_H) : Prop := (∀ a i, ¬ (P + 1 ≤ a ∧ a ≤ P + 16) → ¬ (a = P ∧ i = 5) → ¬ (137 ≤ a ∧ a ≤ 143) → gi h' a i = gi h a i) ∧ (∀ a i, a ≠ 137 → ¬ (a = 140 ∧ i = 1) → ¬ (a = 143 ∧ i = 6) → gr h' a i = gr h a i) ∧ h'.2.2 = h.2.2
theorem frR_refl (P : Nat) (h : dm_H) : frR P h h := ⟨fun _ _ _ _ _ => rfl, fun _ _ _ _ _ => rfl, rfl⟩
theorem frR_trans {P : Nat} {h h1 h2 : dm_H} (a : frR P h h1) (b : frR P h1 h2) : frR P h h2 := ⟨fun c i p1 p2 p3 => by rw [b.1 c i p1 p2 p3, a.1 c i p1 p2 p3], fun c i p1 p2 p3 => by rw [b.2.1 c i p1 p2 p3, a.2.1 c i p1 p2 p3], by rw [b.2.2, a.2.2]⟩
theorem frR_D {P : Nat} {h h' : dm_H} (a : frD P h h') : frR P h h' := ⟨fun c i p1 p2 p3 => a.1 c i p1 p2 (by omega) (by omega) (by omega) (by omega), fun c i _ _ _ => a.2.1 c i, a.2.2⟩
theorem frR_C {P : Nat} (hp : rw_ P) {h h' : dm_H} (a : frC h h') (b : frH h h') : frR P h h' := by
  unfold rw_ at hp
  refine ⟨fun c i p1 p2 p3 => ?_, fun c i _ _ _ => a.2.1 c i, a.2.2⟩
  rcases (show c < 140 ∨ 140 ≤ c by omega) with q | q
  · exact a.1 c i q (by omega) (by omega) (by omega)
  · exact b c i q (by omega) (by omega) (by omega)
theorem frR_b {P : Nat} {h : dm_H} {A P' V : Nat} : frR P h (bgn h A P' V) := ⟨fun c i p1 p2 p3 => bgn_gi (by omega) (by omega), fun c i p1 _ _ => bgn_gn p1, rfl⟩
theorem frR_g {P : Nat} {h : dm_H} {A : Nat} : frR P h (grb h A) := ⟨fun c i p1 p2 p3 => grb_gi (by omega), fun c i _ p2 _ => by rw [grb_gr, if_neg p2], rfl⟩
