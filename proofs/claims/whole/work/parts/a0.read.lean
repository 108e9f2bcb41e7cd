/-! CALLS THAT READ -/
section RD
variable {h : dm_H} {π : Int → Int}
theorem same_all {h' : dm_H} (I : IN0 π h) (g : ∀ a i, ¬ (a = 165 ∧ i = 0) → ¬ (175 ≤ a ∧ a ≤ 176) → gi h' a i = gi h a i) (er : ∀ a i, gr h' a i = gr h a i) : IN0 π h' ∧ frZ h h' := by
  have hP : rw_ (gr h 1 8) := I.2.2.2.2.2.2.2.2.2.1.1
  have f : fr0 h h' := fr0_of (fun a i c => g a i (fun w => by rw [w.1, w.2] at c; unfold crd at c; unfold rw_ at hP; omega) (fun w => by unfold crd at c; unfold rw_ at hP; omega)) er
  have hl := CHL_cg f (fun i => g _ _ (by omega) (by omega)) (fun i => g _ _ (by omega) (by omega)) (g _ _ (by omega) (by omega)) I
  have hA : ∀ j, 0 ≤ j → j < gi h 13 1 → ru (gr h 14 j) := fun j j0 j1 => (I.2.2.1.2.2.1 j j0 j1).1
  refine ⟨IN0_cg f (rW_same (fun i => g _ _ (by omega) (by omega)) (fun i => g _ _ (by omega) (by omega))) hl.1 hl.2 I, ⟨er _ _, RLc_cg2 (g _ _ (by omega) (by omega)) (fun j _ _ => er _ _) (fun j j0 j1 a i p q _ => g a i (by have := ru_r (hA j j0 j1); omega) (by have := ru_r (hA j j0 j1); omega)), fun a i q => g a i (fun w => by unfold rw_ at hP; omega) (fun w => by unfold rw_ at hP; omega), fun i _ => g _ _ (by omega) (by omega), fun i hi => g _ _ (by omega) (by omega)⟩⟩
theorem rm_0 (v x : Int) : rm h (si (sl h 0 v) 165 0 x) := ⟨rfl, Nat.le_succ _, Nat.le_add_right _ _, ct_e (gi_sin (by decide)) (gi_sin (by decide))⟩
theorem rm_1 (x : Int) : rm h (si h 165 0 x) := ⟨rfl, Nat.le_succ _, Nat.le_add_right _ _, ct_e (gi_sin (by decide)) (gi_sin (by decide))⟩
theorem gi_t {v x : Int} : ∀ a i, ¬ (a = 165 ∧ i = 0) → gi (si (sl h 0 v) 165 0 x) a i = gi h a i := fun a i q => by rw [gi_si, if_neg q]; rfl
theorem gi_u {x : Int} : ∀ a i, ¬ (a = 165 ∧ i = 0) → gi (si h 165 0 x) a i = gi h a i := fun a i q => by rw [gi_si, if_neg q]
/-- now, facts, came, went: both at once -/
theorem op_now {d : Nat} (hd : 1 ≤ d) (I : IN0 π h) : ∃ v h2, dF d 12 [dR 1 10 1] h = rI v h ∧ dF d 217 [dR 1 11 165] h = rI v h2 ∧ gi h2 165 0 = 0 ∧ IN0 π h2 ∧ frZ h h2 ∧ rm h h2 := by
  have F := I.2.2.2.2.2.2.2.2.1
  have s := same_all (h' := si h 165 0 0) I (fun a i p _ => gi_u a i p) (fun _ _ => rfl)
  refine ⟨gi h 1 12, _, by rw [f12 (by omega), b12_0], by rw [f217 (by omega), b217_0, gi_u _ _ (by omega), F.2.2.2.2.2.1], thr0, s.1, s.2, rm_1 0⟩
theorem op_facts {d : Nat} (hd : 1 ≤ d) (I : IN0 π h) : ∃ v h2, dF d 13 [dR 1 10 1] h = rI v h ∧ dF d 218 [dR 1 11 165] h = rI v h2 ∧ gi h2 165 0 = 0 ∧ IN0 π h2 ∧ frZ h h2 ∧ rm h h2 := by
  have F := I.2.2.2.2.2.2.2.2.1
  have s := same_all (h' := si h 165 0 0) I (fun a i p _ => gi_u a i p) (fun _ _ => rfl)
  refine ⟨gi h 8 0, _, by rw [f13 (by omega), b13_0], by rw [f218 (by omega), b218_0, gi_u _ _ (by omega), F.2.2.1], thr0, s.1, s.2, rm_1 0⟩
theorem rows_z (I : IN0 π h) : ∀ r, 0 ≤ r → r < 6 → (0 ≤ gi h 178 r ∧ gi h 178 r ≤ 32) ∧ gi h 178 r = rsz h (gr h 1 8) r ∧ ∀ x, 0 ≤ x → x < gi h 178 r → gi h 177 (40 * r + x) = rws h (gr h 1 8) r x := by
  obtain ⟨IR, ID, B, J0, NM, G, HH, L, F, W⟩ := I
  intro r r0 r1
  obtain ⟨e1, e2⟩ := W.2.2.1 r r0 r1
  have e1 : gi h 178 r = rsz h (gr h 1 8) r := e1
  have z : 0 ≤ rsz h (gr h 1 8) r ∧ rsz h (gr h 1 8) r ≤ 32 := (W.2.2.2.2.2.2.1 r r0 r1).1
  exact ⟨by omega, e1, fun x x0 x1 => e2 x x0 (by have e : (cW h (gr h 1 8)).1 r = rsz h (gr h 1 8) r := rfl; omega)⟩
theorem op_came {d : Nat} (hd : 3 ≤ d) (I : IN0 π h) : ∃ v h2, dF d 15 [dR 1 10 1] h = rI v h ∧ dF d 256 [dR 1 11 165] h = rI v h2 ∧ gi h2 165 0 = 0 ∧ IN0 π h2 ∧ frZ h h2 ∧ rm h h2 := by
  have s := same_all (h' := si h 165 0 0) I (fun a i p _ => gi_u a i p) (fun _ _ => rfl)
  have z := rows_z I
  obtain ⟨IR, ID, B, J0, NM, G, HH, L, F, W⟩ := I
  have m := s257 (d := d - 1) (h := si h 165 0 0) (a1 := 177) (a2 := 178) (a3 := 181) (a4 := 182) (ω := rW h) (ω' := oW h) (by omega) (fun r _ _ => ⟨(gi_u (h := h) (x := 0) 178 r (by omega)).symm, (gi_u (h := h) (x := 0) 182 r (by omega)).symm⟩) (fun r x => (gi_u (h := h) (x := 0) 177 (40 * r + x) (by omega)).symm) (fun r x => (gi_u (h := h) (x := 0) 181 (40 * r + x) (by omega)).symm) (fun r r0 r1 => (z r r0 r1).1) W.2.2.2.2.1
  have e : ms (rW h) (oW h) = gi h 1 13 := by
    rw [W.2.2.2.2.2.1.1]
    exact ms_eq W.2.2.1 (fun r _ _ c => Iff.rfl) (fun r r0 r1 => (W.2.2.2.2.2.2.1 r r0 r1).1.1)
  refine ⟨gi h 1 13, _, by rw [f15 (by omega), b15_0], ?_, thr0, s.1, s.2, rm_1 0⟩
  rw [f256 (by omega), b256_0, m, bk_v, b256_25, e]
theorem op_went {d : Nat} (hd : 3 ≤ d) (I : IN0 π h) : ∃ v h2, dF d 16 [dR 1 10 1] h = rI v h ∧ dF d 258 [dR 1 11 165] h = rI v h2 ∧ gi h2 165 0 = 0 ∧ IN0 π h2 ∧ frZ h h2 ∧ rm h h2 := by
  have s := same_all (h' := si h 165 0 0) I (fun a i p _ => gi_u a i p) (fun _ _ => rfl)
  have z := rows_z I
  obtain ⟨IR, ID, B, J0, NM, G, HH, L, F, W⟩ := I
  have m := s257 (d := d - 1) (h := si h 165 0 0) (a1 := 181) (a2 := 182) (a3 := 177) (a4 := 178) (ω := oW h) (ω' := rW h) (by omega) (fun r _ _ => ⟨(gi_u (h := h) (x := 0) 182 r (by omega)).symm, (gi_u (h := h) (x := 0) 178 r (by omega)).symm⟩) (fun r x => (gi_u (h := h) (x := 0) 181 (40 * r + x) (by omega)).symm) (fun r x => (gi_u (h := h) (x := 0) 177 (40 * r + x) (by omega)).symm) W.2.2.2.2.1 (fun r r0 r1 => (z r r0 r1).1)
  have e : ms (oW h) (rW h) = gi h 1 14 := by
    rw [W.2.2.2.2.2.1.2]
    exact ms_eq (eqW_refl _) (inW_eq W.2.2.1) (fun r r0 r1 => (W.2.2.2.2.1 r r0 r1).1)
  refine ⟨gi h 1 14, _, by rw [f16 (by omega), b16_0], ?_, thr0, s.1, s.2, rm_1 0⟩
  rw [f258 (by omega), b258_0, m, bk_v, b258_25, e]
end RD
