/-! THE CALL rules -/
section RLS
variable {h : dm_H} {π : Int → Int}
/-- how many of the first places are taken -/
def rcF (f : Int → Int) : Nat → Int
  | 0 => 0
  | n + 1 => rcF f n + (if f (n : Int) = 0 then 0 else 1)
theorem rcF_r (f : Int → Int) : ∀ n : Nat, 0 ≤ rcF f n ∧ rcF f n ≤ n
  | 0 => ⟨Int.le_refl _, Int.le_refl _⟩
  | n + 1 => by
    have := rcF_r f n
    show 0 ≤ rcF f n + (if f (n : Int) = 0 then 0 else 1) ∧ rcF f n + (if f (n : Int) = 0 then 0 else 1) ≤ ((n + 1 : Nat) : Int)
    split <;> omega
theorem rcF_z {f : Int → Int} : ∀ n : Nat, (∀ p : Int, 0 ≤ p → p < n → f p = 0) → rcF f n = 0
  | 0, _ => rfl
  | n + 1, e => by
    show rcF f n + (if f (n : Int) = 0 then 0 else 1) = 0
    rw [rcF_z n (fun p p0 p1 => e p p0 (by omega)), if_pos (e n (by omega) (by omega))]
    rfl
theorem rcF_cg {f g : Int → Int} : ∀ n : Nat, (∀ p : Int, 0 ≤ p → p < n → (f p = 0 ↔ g p = 0)) → rcF f n = rcF g n
  | 0, _ => rfl
  | n + 1, e => by
    show rcF f n + (if f (n : Int) = 0 then 0 else 1) = rcF g n + (if g (n : Int) = 0 then 0 else 1)
    rw [rcF_cg n (fun p p0 p1 => e p p0 (by omega))]
    have := e n (by omega) (by omega)
    by_cases z : f (n : Int) = 0
    · rw [if_pos z, if_pos (this.mp z)]
    · rw [if_neg z, if_neg (fun w => z (this.mpr w))]
theorem rcF_u {f : Int → Int} {q : Int} (hq : f q ≠ 0) (q0 : 0 ≤ q) : ∀ n : Nat, q < n → rcF f n = rcF (fun p => if p = q then 0 else f p) n + 1
  | 0, h => by omega
  | n + 1, h => by
    show rcF f n + (if f (n : Int) = 0 then 0 else 1) = rcF (fun p => if p = q then 0 else f p) n + (if (if (n : Int) = q then 0 else f (n : Int)) = 0 then 0 else 1) + 1
    by_cases z : (n : Int) = q
    · have e : rcF f n = rcF (fun p => if p = q then 0 else f p) n := rcF_cg n (fun p p0 p1 => by rw [if_neg (by omega)])
      rw [if_pos z, if_pos rfl, e, if_neg (by rw [z]; exact hq)]
      omega
    · rw [if_neg z, rcF_u hq q0 n (by omega)]
      omega
theorem rcF_n : ∀ (n : Nat) (f : Int → Int) (π : Int → Int), (∀ j : Int, 0 ≤ j → j < n → 0 ≤ π j ∧ π j < 10 ∧ f (π j) ≠ 0) → (∀ i j : Int, 0 ≤ i → i < j → j < n → π i ≠ π j) → (∀ p : Int, 0 ≤ p → p < 10 → f p ≠ 0 → ∃ j : Int, 0 ≤ j ∧ j < n ∧ π j = p) → rcF f 10 = n
  | 0, f, π, _, _, h3 => rcF_z 10 (fun p p0 p1 => by
    by_cases z : f p = 0
    · exact z
    · obtain ⟨j, j0, j1, _⟩ := h3 p p0 p1 z
      omega)
  | n + 1, f, π, h1, h2, h3 => by
    obtain ⟨a1, a2, a3⟩ := h1 n (by omega) (by omega)
    rw [rcF_u a3 a1 10 a2, rcF_n n (fun p => if p = π n then 0 else f p) π (fun j j0 j1 => ?_) (fun i j i0 ij j1 => h2 i j i0 ij (by omega)) (fun p p0 p1 q => ?_)]
    · omega
    · obtain ⟨b1, b2, b3⟩ := h1 j j0 (by omega)
      refine ⟨b1, b2, ?_⟩
      show (if π j = π n then 0 else f (π j)) ≠ 0
      rw [if_neg (h2 j n j0 j1 (by omega))]; exact b3
    · have q : (if p = π n then 0 else f p) ≠ 0 := q
      by_cases z : p = π n
      · rw [if_pos z] at q; exact absurd rfl q
      · rw [if_neg z] at q
        obtain ⟨j, j0, j1, j2⟩ := h3 p p0 p1 q
        refine ⟨j, j0, ?_, j2⟩
        by_cases w : j = n
        · exact absurd (by rw [← j2, w]) z
        · omega
theorem s229 {d : Nat} (hd : 1 ≤ d) {H : dm_H} : dF d 229 [dR 1 11 165] H = rI (rcF (gi H 174) 10) H := by
  have loop : ∀ (m : Nat) (p : Int), 0 ≤ p → p + m = 10 → dL (d - 1) 229 4 [lR 1 11 165, lI (rcF (gi H 174) p.toNat), lI p] [] H = rI (rcF (gi H 174) 10) H := by
    intro m
    induction m with
    | zero =>
      intro p p0 pm
      rw [b229_4, if_neg (by omega), show p = 10 by omega]
      rfl
    | succ m ih =>
      intro p p0 pm
      have r := rcF_r (gi H 174) p.toNat
      have e : rcF (gi H 174) (p + 1).toNat = rcF (gi H 174) p.toNat + (if gi H 174 p = 0 then 0 else 1) := by
        rw [show (p + 1).toNat = p.toNat + 1 by omega]
        show rcF (gi H 174) p.toNat + (if gi H 174 (p.toNat : Int) = 0 then 0 else 1) = _
        rw [show (p.toNat : Int) = p by omega]
      rw [b229_4, if_pos (by omega), ix_p p0 (by omega)]
      by_cases z : gi H 174 p = 0
      · rw [if_pos z] at e
        rw [if_pos z, b229_25, ck_p (by omega) (by omega), ck_p (by omega) (by omega), ← e]
        exact ih (p + 1) (by omega) (by omega)
      · rw [if_neg z] at e
        rw [if_neg z, b229_25, ck_p (by omega) (by omega), ck_p (by omega) (by omega), ← e]
        exact ih (p + 1) (by omega) (by omega)
  rw [f229 (by omega), b229_0]
  exact loop 10 0 (by omega) (by omega)
/-- as many places are taken as there are rules -/
theorem rules_n (B : BKS π h) (J0 : gi h 174 10 = 0) {H : dm_H} (e : ∀ p, gi H 174 p = gi h 174 p) : rcF (gi H 174) 10 = gi h 13 1 := by
  have hn := B.1
  have ef : gi H 174 = gi h 174 := funext e
  rw [ef]
  have := rcF_n (gi h 13 1).toNat (gi h 174) π (fun j j0 j1 => by
    have R := B.2.2.1 j j0 (by omega)
    have p := R.2.2.2.2.2.1.1
    refine ⟨p.1, ?_, R.2.2.2.2.1⟩
    by_cases z : π j = 10
    · have := R.2.2.2.2.1
      rw [z] at this
      exact absurd J0 this
    · omega) (fun i j i0 ij j1 => B.2.2.2.1 i j i0 ij (by omega)) (fun p p0 p1 q => by
    obtain ⟨j, j0, j1, j2⟩ := B.2.2.2.2.1 p p0 (by omega) q
    exact ⟨j, j0, by omega, j2⟩)
  rw [this]
  omega
theorem op_rules {d : Nat} (hd : 2 ≤ d) (I : IN0 π h) : ∃ v h2, dF d 14 [dR 1 10 1] h = rI v h ∧ dF d 240 [dR 1 11 165] h = rI v h2 ∧ gi h2 165 0 = 0 ∧ IN0 π h2 ∧ frZ h h2 ∧ rm h h2 := by
  have s := same_all (h' := si h 165 0 0) I (fun a i p _ => gi_u a i p) (fun _ _ => rfl)
  refine ⟨gi h 13 1, _, by rw [f14 (by omega), b14_0], ?_, thr0, s.1, s.2, rm_1 0⟩
  rw [f240 (by omega), b240_0, s229 (by omega), bk_v, b240_9, rules_n I.2.2.1 I.2.2.2.1 (fun p => gi_u _ _ (by omega))]
end RLS
