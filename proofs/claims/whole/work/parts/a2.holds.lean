/-! CALLS THAT READ: a row that is told; holds -/
section HLD
variable {h : dm_H} {π : Int → Int}
theorem fz_same {P Q : Int → Prop} [DecidablePred P] [DecidablePred Q] : ∀ (k : Nat) (i : Int), (∀ j, i ≤ j → j < i + k → (P j ↔ Q j)) → fz P k i = fz Q k i
  | 0, _, _ => rfl
  | k + 1, i, e => by
    show (if P i then i else fz P k (i + 1)) = if Q i then i else fz Q k (i + 1)
    have ih := fz_same (P := P) (Q := Q) k (i + 1) (fun j a b => e j (by omega) (by omega))
    have e0 := e i (by omega) (by omega)
    by_cases z : P i
    · rw [if_pos z, if_pos (e0.mp z)]
    · rw [if_neg z, if_neg (fun w => z (e0.mpr w)), ih]
theorem s246 {d : Nat} (hd : 1 ≤ d) {H : dm_H} {r c : Int} (hr : 0 ≤ r ∧ r < 6) (hz : 0 ≤ gi H 178 r ∧ gi H 178 r ≤ 32) : dF d 246 [dR 1 11 165, dI r, dI c] H = rI (fz (fun x => gi H 177 (40 * r + x) = c) (gi H 178 r).toNat 0) H := by
  have loop : ∀ (m : Nat) (x : Int), 0 ≤ x → x + m = gi H 178 r → dL (d - 1) 246 2 [lR 1 11 165, lI r, lI c, lI x] [] H = rI (fz (fun x => gi H 177 (40 * r + x) = c) m x) H := by
    intro m
    induction m with
    | zero =>
      intro x x0 xm
      rw [b246_2, ix_p hr.1 hr.2, if_neg (by omega)]
      rfl
    | succ m ih =>
      intro x x0 xm
      rw [b246_2, ix_p hr.1 hr.2, if_pos (by omega), ck_p (by omega) (by omega), ck_p (by omega) (by omega), ix_p (by omega) (by omega)]
      show _ = rI (if gi H 177 (40 * r + x) = c then x else fz (fun x => gi H 177 (40 * r + x) = c) m (x + 1)) H
      by_cases z : gi H 177 (40 * r + x) = c
      · rw [if_pos z, if_pos z]
      · rw [if_neg z, if_neg z, ck_p (by omega) (by omega)]
        exact ih (x + 1) (by omega) (by omega)
  rw [f246 (by omega), b246_0]
  exact loop (gi H 178 r).toNat 0 (by omega) (by omega)
/-- where a row of both stands -/
theorem plc_eq (I : IN0 π h) {H : dm_H} (e1 : ∀ i, gi H 177 i = gi h 177 i) (e2 : ∀ i, gi H 178 i = gi h 178 i) {r c : Int} (hr : 0 ≤ r ∧ r < 6) : fz (fun x => gi H 177 (40 * r + x) = c) (gi H 178 r).toNat 0 = plc h (gr h 1 8) r c := by
  obtain ⟨z1, z2, z3⟩ := rows_z I r hr.1 hr.2
  unfold plc
  rw [e2, ← z2]
  exact fz_same _ _ (fun j j0 j1 => by rw [e1, z3 j j0 (by omega)])
/-- a row that is told, in the reference -/
theorem s245 {d : Nat} (hd : 4 ≤ d) (I : IN0 π h) {H : dm_H} (e : ∀ a i, ¬ (a = 165 ∧ i = 0) → gi H a i = gi h a i) (r a b c : Int) :
    (¬ (0 ≤ r ∧ r < gi h 2 0) → dF d 245 [dR 1 11 165, dI r, dI a, dI b, dI c] H = rI (-1) (si H 165 0 1)) ∧ ((0 ≤ r ∧ r < gi h 2 0) → ¬ wit (gi h 3 r) 0 99 a b c → dF d 245 [dR 1 11 165, dI r, dI a, dI b, dI c] H = rI (-1) (si H 165 0 2)) ∧ ((0 ≤ r ∧ r < gi h 2 0) → wit (gi h 3 r) 0 99 a b c → dF d 245 [dR 1 11 165, dI r, dI a, dI b, dI c] H = rI (plc h (gr h 1 8) r (a * 10000 + b * 100 + c)) (si H 165 0 0)) := by
  have n6 := I.1.1.1
  have nr := I.1.2.1
  have e1 : gi H 165 1 = gi h 2 0 := by rw [e _ _ (by omega)]; exact nr
  have e3 : gi H 166 r = gi h 3 r := by rw [e _ _ (by omega)]; exact (I.1.2.2.1 r).1
  have st : dF d 245 [dR 1 11 165, dI r, dI a, dI b, dI c] H = if 0 ≤ r ∧ r < gi h 2 0 then (if wit (gi h 3 r) 0 99 a b c then dL (d - 1) 245 30 [lR 1 11 165, lI r, lI a, lI b, lI c] [dI 0, dR 1 11 165] H else dL (d - 1) 245 30 [lR 1 11 165, lI r, lI a, lI b, lI c] [dI 2, dR 1 11 165] H) else dL (d - 1) 245 30 [lR 1 11 165, lI r, lI a, lI b, lI c] [dI 1, dR 1 11 165] H := by
    rw [f245 (by omega), b245_0, s170 (by omega) r H (by rw [e1]; exact n6), e1, bk_v, b245_6]
    by_cases y : 0 ≤ r ∧ r < gi h 2 0
    · have hc := (cK_c I.1.1 y.1 y.2).2.1
      rw [bi_1 y, if_neg (by decide), if_pos y, s171 (by omega) r a b c H (by omega) (by rw [e3]; exact hc), e3, bk_v, b245_22]
      by_cases w : wit (gi h 3 r) 0 99 a b c
      · rw [bi_1 w, if_neg (by decide), if_pos w]
      · rw [bi_0 w, if_pos rfl, if_neg w]
    · rw [bi_0 y, if_pos rfl, if_neg y]
  refine ⟨fun y => ?_, fun y w => ?_, fun y w => ?_⟩
  · rw [st, if_neg y, b245_30, thr0, if_pos (by decide), b245_56]
  · rw [st, if_pos y, if_neg w, b245_30, thr0, if_pos (by decide), b245_56]
  · have hb := wit_99 w (by omega) (by omega)
    have z := rows_z I r y.1 (by omega)
    rw [st, if_pos y, if_pos w, b245_30, thr0, if_neg (by decide), s172 (by omega) _ hb.1 hb.2.1 hb.2.2, bk_v, b245_53, s246 (by omega) (by omega) (by rw [gi_sin (by omega), e _ _ (by omega)]; exact z.1), bk_v, b245_56]
    refine congrArg (fun x => rI x _) ?_
    rw [plc_eq I (fun i => by rw [gi_sin (by omega), e _ _ (by omega)]) (fun i => by rw [gi_sin (by omega), e _ _ (by omega)]) (by omega)]
    congr 1
    omega
theorem op_holds {d : Nat} (hd : 6 ≤ d) (I : IN0 π h) (r a b c : Int) : ∃ k h1 v h2, dF d 134 [dR 1 10 1, dI r, dI a, dI b, dI c, dR 4 1 196] h = rI k h1 ∧ dF d 244 [dR 1 11 165, dI r, dI a, dI b, dI c] h1 = rI v h2 ∧ (v = 0 ∨ v = 1) ∧ gi h2 165 0 = k ∧ (k = 0 → gl h2 0 = v) ∧ IN0 π h2 ∧ frZ h h2 ∧ rm h h2 := by
  have n6 := I.1.1.1
  obtain ⟨a1, a2, a3⟩ := thr_all I 1
  obtain ⟨b1, b2, b3⟩ := thr_all I 2
  obtain ⟨r1, r2, r3⟩ := s245 (d := d - 1) (H := sg h 6) (by omega) I (fun _ _ _ => rfl) r a b c
  have wr : ∀ (x : dm_O), dF (d - 1) 135 [dR 1 10 1, dI r, dI a, dI b, dI c] h = x → (∀ v h', (v = 0 ∨ v = 1) → x = rI v h' → dF d 134 [dR 1 10 1, dI r, dI a, dI b, dI c, dR 4 1 196] h = rI 0 (sl h' 0 v)) ∧ (∀ h', x = rX 0 h' → dF d 134 [dR 1 10 1, dI r, dI a, dI b, dI c, dR 4 1 196] h = rI 1 h') ∧ ∀ h', x = rX 1 h' → dF d 134 [dR 1 10 1, dI r, dI a, dI b, dI c, dR 4 1 196] h = rI 2 h' := by
    intro x e
    rw [f134 (by omega), b134_0, e]
    refine ⟨fun v h' v01 ex => ?_, fun h' ex => ?_, fun h' ex => ?_⟩
    · rw [ex, bk_v, b134_12]
      rcases v01 with rfl | rfl
      · rw [if_pos rfl, b134_20, ix_p (by omega) (by omega)]
      · rw [if_neg (by decide), b134_20, ix_p (by omega) (by omega)]
    · rw [ex, bk_c (g := 24) (j := 6) (n := 2) (L' := [lR 1 10 1, lI r, lI a, lI b, lI c, lR 4 1 196, none]) rfl (fun f => rfl)]
      exact b134_26 _ _ _ _ _ _ _ _ _
    · rw [ex, bk_c (g := 28) (j := 6) (n := 2) (L' := [lR 1 10 1, lI r, lI a, lI b, lI c, lR 4 1 196, none]) rfl (fun f => rfl)]
      exact b134_30 _ _ _ _ _ _ _ _ _
  obtain ⟨w1, w2, w3⟩ := wr _ rfl
  rcases s72 (h := h) (d := d - 1 - 1) (by omega) r a b c n6 with ⟨y, e⟩ | ⟨y, y2, e⟩ | ⟨y, y2, e⟩
  · have c0 : dF (d - 1) 135 [dR 1 10 1, dI r, dI a, dI b, dI c] h = rX 0 (sg h 6) := by rw [f135 (by omega), b135_0, e, bk_x rfl]
    refine ⟨1, _, 0, _, w2 _ c0, ?_, Or.inl rfl, thr0, fun q => by omega, a1, a2, a3⟩
    rw [f244 (by omega), b244_0, r1 y, bk_v, b244_9, if_pos rfl, b244_18, z1_p (Or.inl rfl)]
  · have c0 : dF (d - 1) 135 [dR 1 10 1, dI r, dI a, dI b, dI c] h = rX 1 (sg h 6) := by rw [f135 (by omega), b135_0, e, bk_x rfl]
    refine ⟨2, _, 0, _, w3 _ c0, ?_, Or.inl rfl, thr0, fun q => by omega, b1, b2, b3⟩
    rw [f244 (by omega), b244_0, r2 y y2, bk_v, b244_9, if_pos rfl, b244_18, z1_p (Or.inl rfl)]
  · obtain ⟨z1, z2, z3⟩ := rows_z I r y.1 (by omega)
    have c0 : dF (d - 1) 135 [dR 1 10 1, dI r, dI a, dI b, dI c] h = rI (if plc h (gr h 1 8) r (a * 10000 + b * 100 + c) = -1 then 0 else 1) h := by
      rw [f135 (by omega), b135_0, e, bk_v, b135_9, s28 (by omega) (by omega) (by omega), bk_v, b135_21]
      split
      · rw [b135_30, z1_p (Or.inl rfl)]
      · rw [b135_30, z1_p (Or.inr rfl)]
    have hv : (if plc h (gr h 1 8) r (a * 10000 + b * 100 + c) = -1 then (0 : Int) else 1) = 0 ∨ (if plc h (gr h 1 8) r (a * 10000 + b * 100 + c) = -1 then (0 : Int) else 1) = 1 := by
      split
      · exact Or.inl rfl
      · exact Or.inr rfl
    generalize eV : (if plc h (gr h 1 8) r (a * 10000 + b * 100 + c) = -1 then (0 : Int) else 1) = V at c0 hv
    have s := same_all (h' := si (sl h 0 V) 165 0 0) I (fun a i p _ => gi_t a i p) (fun _ _ => rfl)
    obtain ⟨-, -, q3⟩ := s245 (d := d - 1) (H := sl h 0 V) (by omega) I (fun _ _ _ => rfl) r a b c
    refine ⟨0, _, V, _, w1 V _ hv c0, ?_, hv, thr0, fun _ => by rw [gl_si, gl_sl, if_pos rfl], s.1, s.2, rm_0 _ 0⟩
    rw [f244 (by omega), b244_0, q3 y y2, bk_v, b244_9, ← eV]
    split
    · rw [b244_18, z1_p (Or.inl rfl)]
    · rw [b244_18, z1_p (Or.inr rfl)]
end HLD
