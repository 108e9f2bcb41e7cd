/-! THE CALL add: the reference's side; and what stays when it is refused -/
section ADR
variable {h H : dm_H} {π : Int → Int}
theorem s230u {d : Nat} (hd : 1 ≤ d) (e : dF (d - 1) 231 [dR 1 11 165, dI 10] H = rI 1 H) : dF d 230 [dR 1 11 165] H = rI (-2) H := by
  rw [f230 hd, b230_0, e, bk_v, b230_6, if_neg (by decide)]
theorem s230g {d : Nat} (hd : 7 ≤ d) {cl kd : Int → Int} {RL : mU → Prop} {U : Int → mU} {n : Int} (e : dF (d - 1) 231 [dR 1 11 165, dI 10] H = rI 0 H) (B : HBr cl kd RL U H) (g1 : ∀ u, RL u → G1 cl n u) (hX : ∀ p, 0 ≤ p → p ≤ 10 → gi H 174 p ≠ 0 → RX H p (gi H 172 (38 * p + 5))) (hk : ∀ r, gi H 167 r = kd r) (hkd : ∀ r, 0 ≤ r → r < 6 → 0 ≤ kd r ∧ kd r ≤ 2) :
    ∃ h1, ((∀ a i, a ≠ 175 → gi h1 a i = gi H a i) ∧ (∀ a i, gr h1 a i = gr H a i) ∧ h1.2.2 = H.2.2) ∧ ((dF d 230 [dR 1 11 165] H = rI (-3) h1 ∧ ∃ u, RL u ∧ LYL (ocL RL) u) ∨ (dF d 230 [dR 1 11 165] H = rI (-4) h1 ∧ (∀ u, RL u → ¬ LYL (ocL RL) u) ∧ ∃ u, RL u ∧ u.1 = 0 ∧ ¬ NSH kd (ocL RL) u (cl u.2.1)) ∨ ((∀ u, RL u → ¬ LYL (ocL RL) u) ∧ (∀ u, RL u → u.1 = 0 → NSH kd (ocL RL) u (cl u.2.1)) ∧ ∀ b h2, dF (d - 1) 177 [dR 1 11 165] h1 = rI b h2 → dF d 230 [dR 1 11 165] H = rI (if b = 0 then -5 else 0) h2)) := by
  have hS : ∀ u, RL u → HSu u := fun u hu => (g1 u hu).2.2.1.1
  obtain ⟨h1, x1, x2, x3, x4, x5, x6⟩ := s178 (d := d - 1) (h := H) (by omega) B hS
  have oc1 : ocH h1 175 = ocL RL := ocH_L x6
  have B1 : HBr cl kd RL U h1 := HBr_cg (fun i => x2 _ _ (by omega)) (fun i => x2 _ _ (by omega)) (fun i => x2 _ _ (by omega)) (fun i => x2 _ _ (by omega)) B
  obtain ⟨b1, y1, y2, y3⟩ := s233 (d := d - 1) (h := h1) (by omega) B1 hS (fun p p0 p1 q => by
    rw [x2 _ _ (by omega)] at q
    rw [x2 _ _ (by omega)]
    intro k k0 k1
    have X := hX p p0 p1 q k k0 k1
    unfold lq at X ⊢
    rw [x2 _ _ (by omega), x2 _ _ (by omega), x2 _ _ (by omega)]; exact X) x5
  obtain ⟨b2, z1, z2, z3⟩ := s234 (d := d - 1) (h := h1) (by omega) B1 (fun u hu => (g1 u hu).2.2.1) (fun r => by rw [x2 _ _ (by omega)]; exact hk r) hkd x5
  rw [oc1] at y3 z3
  refine ⟨h1, ⟨x2, x3, x4⟩, ?_⟩
  rw [f230 (by omega), b230_0, e, bk_v, b230_6, if_pos rfl, x1, bk_n, b230_16, y1, bk_v, b230_20]
  rcases y2 with rfl | rfl
  · have no : ∀ u, RL u → ¬ LYL (ocL RL) u := fun u hu q => by have := y3.mpr ⟨u, hu, q⟩; omega
    rw [if_pos rfl, z1, bk_v, b230_30]
    rcases z2 with rfl | rfl
    · refine Or.inr (Or.inr ⟨no, fun u hu q => ?_, fun b h2 eb => ?_⟩)
      · by_cases w : NSH kd (ocL RL) u (cl u.2.1)
        · exact w
        · have := z3.mpr ⟨u, hu, q, w⟩; omega
      · rw [if_pos rfl, eb, bk_v, b230_40]
        by_cases w : b = 0
        · rw [if_pos w, b230_49, if_pos w]
        · rw [if_neg w, b230_49, if_neg w]
    · rw [if_neg (by decide)]
      exact Or.inr (Or.inl ⟨rfl, no, z3.mp rfl⟩)
  · rw [if_neg (by decide)]
    exact Or.inl ⟨rfl, y3.mp rfl⟩
/-- the draft's cells copied to place p, the first k of them -/
def cpD (H : dm_H) (p k : Int) : dm_H := (fun a i => if a = 172 ∧ 38 * p ≤ i ∧ i < 38 * p + k then H.1 172 (380 + (i - 38 * p)) else H.1 a i, H.2)
theorem gi_cpD (H : dm_H) (p k : Int) (a : Nat) (i : Int) : gi (cpD H p k) a i = if a = 172 ∧ 38 * p ≤ i ∧ i < 38 * p + k then gi H 172 (380 + (i - 38 * p)) else gi H a i := rfl
theorem p228c {d : Nat} {p : Int} (hp : 0 ≤ p ∧ p < 10) (w1 : Option dm_V) : ∀ (m : Nat) (k : Int), 0 ≤ k → k + m = 38 → dL d 228 103 [lR 1 11 165, w1, lI p, lI k] [] (cpD H p k) = dL d 228 103 [lR 1 11 165, w1, lI p, lI 38] [] (cpD H p 38) := by
  intro m
  induction m with
  | zero =>
    intro k k0 km
    rw [show k = 38 by omega]
  | succ m ih =>
    intro k k0 km
    have e : si (cpD H p k) 172 (38 * p + k) (gi (cpD H p k) 172 (380 + k)) = cpD H p (k + 1) := by
      refine mH_ext (fun a i => ?_) rfl
      rw [gi_si, gi_cpD, gi_cpD, gi_cpD]
      by_cases z : a = 172 ∧ i = 38 * p + k
      · rw [if_pos z, if_neg (by omega), if_pos (by omega), z.2, show 380 + (38 * p + k - 38 * p) = 380 + k by omega]
      · rw [if_neg z]
        by_cases y : a = 172 ∧ 38 * p ≤ i ∧ i < 38 * p + k
        · rw [if_pos y, if_pos (by omega)]
        · rw [if_neg y, if_neg (by omega)]
    rw [b228_103, if_pos (by omega), ck_p (by omega) (by omega), ck_p (by omega) (by omega), ck_p (by omega) (by omega), ix_p (by omega) (by omega), ix_p (by omega) (by omega), ck_p (by omega) (by omega), e]
    exact ih (k + 1) (by omega) (by omega)
theorem cpD_0 (H : dm_H) (p : Int) : cpD H p 0 = H := mH_ext (fun a i => by rw [gi_cpD, if_neg (by omega)]) rfl
theorem p228f {d : Nat} (w1 w3 : Option dm_V) : ∀ (m : Nat) (x : Int), 0 ≤ x → x + m = 10 → (∃ y, x ≤ y ∧ y < 10 ∧ gi H 174 y = 0) → ∃ p, (0 ≤ p ∧ p < 10) ∧ gi H 174 p = 0 ∧ dL d 228 86 [lR 1 11 165, w1, lI x, w3] [] H = dL d 228 103 [lR 1 11 165, w1, lI p, lI 0] [] H := by
  intro m
  induction m with
  | zero =>
    intro x x0 xm ⟨y, y0, y1, _⟩
    omega
  | succ m ih =>
    intro x x0 xm ⟨y, y0, y1, y2⟩
    by_cases z : gi H 174 x = 0
    · refine ⟨x, by omega, z, ?_⟩
      rw [b228_86, ix_p x0 (by omega), if_pos z]
    · have hyx : x ≠ y := fun e => z (by rw [e]; exact y2)
      obtain ⟨p, p1, p2, p3⟩ := ih (x + 1) (by omega) (by omega) ⟨y, by omega, y1, y2⟩
      refine ⟨p, p1, p2, ?_⟩
      rw [b228_86, ix_p x0 (by omega), if_neg z, ck_p (by omega) (by omega)]
      exact p3
theorem rcF_ex (f : Int → Int) : ∀ n : Nat, rcF f n < n → ∃ y : Int, 0 ≤ y ∧ y < n ∧ f y = 0
  | 0, q => absurd q (Int.lt_irrefl 0)
  | n + 1, q => by
    have q : rcF f n + (if f (n : Int) = 0 then 0 else 1) < ((n + 1 : Nat) : Int) := q
    by_cases z : f (n : Int) = 0
    · exact ⟨n, by omega, by omega, z⟩
    · rw [if_neg z] at q
      obtain ⟨y, y0, y1, y2⟩ := rcF_ex f n (by omega)
      exact ⟨y, y0, by omega, y2⟩
/-- what add may touch when it is refused -/
def wdA (h : dm_H) (a : Nat) (i : Int) : Prop := a = 6 ∨ a = 7 ∨ (a = 2 ∧ i = 6) ∨ (a = 1 ∧ i = 11) ∨ (15 ≤ a ∧ a ≤ 94 ∧ a % 8 = 6) ∨ a = 136 ∨ (a = gr h 1 10 ∧ (i = 0 ∨ i = 7)) ∨ (gr h 1 9 ≤ a ∧ a ≤ gr h 1 9 + 16) ∨ (137 ≤ a ∧ a ≤ 143) ∨ (175 ≤ a ∧ a ≤ 180) ∨ (183 ≤ a ∧ a ≤ 190) ∨ (a = 165 ∧ (i = 0 ∨ i = 10 ∨ i = 11 ∨ i = 16 ∨ (27 ≤ i ∧ i ≤ 34)))
theorem add_fail (I : IN0 π h) (n9 : gi h 13 1 < 10) (g : ∀ a i, ¬ wdA h a i → gi H a i = gi h a i) (e11 : gi H 1 11 = 0) (e16 : gi H 165 16 = 0) (e10 : gi H 165 10 = -1 ∧ gi H 165 11 = -1) (gr_ : ∀ a i, ¬ (a = 14 ∧ i = gi h 13 1) → ¬ (a = 1 ∧ i = 10) → ¬ (a = 137 ∨ a = 140 ∨ a = 143) → gr H a i = gr h a i)
    (sw : (gr H 14 (gi h 13 1) = gr h 14 (gi h 13 1) ∧ gr H 1 10 = gr h 1 10) ∨ (gr H 14 (gi h 13 1) = gr h 1 10 ∧ gr H 1 10 = gr h 14 (gi h 13 1))) (er : eqW (rW h) (rW H)) (H' : CH H) (L' : CL H) : IN0 π H ∧ frZ2 h H := by
  have I' := I
  obtain ⟨IR, ID, B, J0, NM, G, HH, L, F, W⟩ := I
  have hn := B.1
  have rD := ID.2.2.1
  have rD' := ru_r rD
  have wP := W.1.1
  have wQ := W.1.2.1
  have wPQ := W.1.2.2
  have qP : gr h 1 8 = 95 ∨ gr h 1 8 = 112 := wP
  have qQ : gr h 1 9 = 95 ∨ gr h 1 9 = 112 := wQ
  have lo : ∀ a i, a ≤ 13 → ¬ ((a = 1 ∧ i = 11) ∨ a = 6 ∨ a = 7 ∨ (a = 2 ∧ i = 6)) → gi H a i = gi h a i := fun a i p q => g a i (by unfold wdA; omega)
  have hi : ∀ a i, 166 ≤ a → a ≤ 174 → gi H a i = gi h a i := fun a i p q => g a i (by unfold wdA; omega)
  have e165 : ∀ i, (i = 1 ∨ i = 4 ∨ i = 5 ∨ i = 15 ∨ 44 ≤ i) → gi H 165 i = gi h 165 i := fun i q => g _ _ (by unfold wdA; omega)
  have hA : ∀ j, 0 ≤ j → j < gi h 13 1 → ru (gr h 14 j) := fun j j0 j1 => (B.2.2.1 j j0 j1).1
  have hne : ∀ j, 0 ≤ j → j < 10 → gr h 14 j ≠ gr h 1 10 := B.2.1.2.2
  have e14 : ∀ j, 0 ≤ j → j < gi h 13 1 → gr H 14 j = gr h 14 j := fun j j0 j1 => gr_ _ _ (by omega) (by omega) (by omega)
  have eA : ∀ j, 0 ≤ j → j < gi h 13 1 → ∀ a i, gr h 14 j ≤ a → a ≤ gr h 14 j + 6 → gi H a i = gi h a i := fun j j0 j1 a i p q => by
    have r := ru_r (hA j j0 j1)
    have ne := hne j j0 (by omega)
    exact g a i (by unfold wdA; omega)
  have e13 : gi H 13 1 = gi h 13 1 := lo _ _ (by omega) (by omega)
  have eR : RLc H = RLc h := RLc_cg2 e13 (fun j j0 j1 => e14 j j0 j1) (fun j j0 j1 a i p q _ => eA j j0 j1 a i p (by omega))
  have e3 : ∀ i, gi H 3 i = gi h 3 i := fun i => lo _ _ (by omega) (by omega)
  have ec : cK H = cK h := by unfold cK; simp only [e3]
  have e4 : gi H 4 = gi h 4 := funext (fun i => lo _ _ (by omega) (by omega))
  have e2 : gi H 2 0 = gi h 2 0 := lo _ _ (by omega) (by omega)
  have eP : ∀ a i, gr h 1 8 + 1 ≤ a → a ≤ gr h 1 8 + 8 → gi H a i = gi h a i := fun a i p q => g a i (by unfold wdA; omega)
  have eW : eqW (cW h (gr h 1 8)) (cW H (gr h 1 8)) := cW_far wP eP
  have er8 : gr H 1 8 = gr h 1 8 ∧ gr H 1 9 = gr h 1 9 := ⟨gr_ _ _ (by omega) (by omega) (by omega), gr_ _ _ (by omega) (by omega) (by omega)⟩
  have F' : IFc H := IFc_cg (fun a i q => by rcases q with q | q | q <;> first | exact lo _ _ (by omega) (by omega) | exact hi _ _ (by omega) (by omega)) e2 (lo _ _ (by omega) (by omega)) (fun i q => by
    rcases q with q | q | q | q
    · exact e165 _ (by omega)
    · exact e165 _ (by omega)
    · rw [q, e10.1]; exact F.2.2.2.2.2.2.2.1.symm
    · rw [q, e10.2]; exact F.2.2.2.2.2.2.2.2.symm) F
  have eo : oW H = oW h := by
    have a1 : (fun r => gi H 182 r) = fun r => gi h 182 r := funext (fun r => g _ _ (by unfold wdA; omega))
    have a2 : (fun r x => gi H 181 (40 * r + x)) = fun (r x : Int) => gi h 181 (40 * r + x) := by
      funext r x
      exact g _ _ (by unfold wdA; omega)
    unfold oW
    rw [a1, a2]
  have e7 : ∀ r, 0 ≤ r → r < 6 → gi H 7 r = gi h 7 r := by
    have a := L'.1
    rw [e4, eR] at a
    exact lyL_eq a L.1
  have hU := RU_of IR.1.1.2 G L.1.1
  have eft : ftC H (gi H 1 12) (-1) (-1) = ftC h (gi h 1 12) (-1) (-1) := by
    have l9 : fL 9 H = fL 9 h := fL_o (fun q i q0 q1 => lo q i (by omega) (by omega))
    rw [ftC_S, ftC_S, l9, lo 8 0 (by omega) (by omega), lo 1 12 (by omega) (by omega)]
  have W' : IRw H := by
    obtain ⟨w1, w2, w3, w4, w5, w6, w7⟩ := W
    unfold IRw
    rw [er8.1, er8.2, eo, e2, ec, e4, eR, eft, lo 1 13 (by omega) (by omega), lo 1 14 (by omega) (by omega)]
    refine ⟨w1, eqW_SRT eW w2, eqW_trans (eqW_trans (eqW_symm eW) w3) er, fun r r0 r1 => ?_, w5, ⟨?_, ?_⟩, gds_ly e7 (fun u hu => (hU u hu).2.1) (eqW_gds (DC_of IR.1) hU eW w7)⟩
    · have e : rsz H (gr h 1 8) r = rsz h (gr h 1 8) r := (eW r (by have := IR.1.1; omega) r1).1
      rw [e]; exact w4 r r0 r1
    · rw [w6.1]
      exact (ms_eq eW (fun r r0 r1 c => Iff.rfl) (fun r r0 r1 => (w7.1 r r0 r1).1.1)).symm
    · rw [w6.2]
      exact (ms_eq (eqW_refl _) (inW_eq eW) (fun r r0 r1 => (w5 r r0 r1).1)).symm
  have l9 : fL 9 H = fL 9 h := fL_o (fun q i q0 q1 => lo q i (by omega) (by omega))
  have B' := B
  refine ⟨⟨IRel_cg e2 (fun a i q => by rcases q with q | q | q | q | q <;> first | exact lo _ _ (by omega) (by omega) | exact hi _ _ (by omega) (by omega)) (e165 _ (by omega)) IR, ?_, ?_, by rw [hi _ _ (by omega) (by omega)]; exact J0, ?_, by rw [ec, e4, e2, eR]; exact G, H', L', F', W'⟩, ⟨er8.1, eR, fun a i q => ?_, ⟨lo _ _ (by omega) (by omega), fun p _ _ => by rw [l9]⟩, fun i q => lo _ _ (by omega) (by omega), fun i q => e165 _ (by omega)⟩⟩
  · refine ⟨by rw [e16, e11], Or.inl e11, ?_, fun q => by rw [e11] at q; omega⟩
    rcases sw with ⟨_, s2⟩ | ⟨_, s2⟩
    · rw [s2]; exact rD
    · rw [s2]; exact B.2.1.1 _ hn.1 n9
  · obtain ⟨b1, ⟨b2, b3, b4⟩, b5, b6, b7, b8⟩ := B
    unfold BKS
    simp only [e13]
    refine ⟨b1, ⟨fun j j0 j1 => ?_, fun i j i0 ij j1 => ?_, fun j j0 j1 => ?_⟩, fun j j0 j1 => ?_, b6, fun p p0 p1 q => ?_, fun p p0 p1 => ?_⟩
    · by_cases z : j = gi h 13 1
      · rw [z]
        rcases sw with ⟨s1, _⟩ | ⟨s1, _⟩
        · rw [s1]; exact b2 _ hn.1 n9
        · rw [s1]; exact rD
      · rw [gr_ 14 j (fun w => z w.2) (by omega) (by omega)]; exact b2 j j0 j1
    · rcases sw with ⟨s1, _⟩ | ⟨s1, _⟩
      · have e : ∀ j, gr H 14 j = gr h 14 j := fun j => by
          by_cases z : j = gi h 13 1
          · rw [z]; exact s1
          · exact gr_ 14 j (fun w => z w.2) (by omega) (by omega)
        rw [e, e]; exact b3 i j i0 ij j1
      · by_cases zi : i = gi h 13 1
        · rw [zi, s1, gr_ 14 j (by omega) (by omega) (by omega)]
          exact fun e => hne j (by omega) j1 e.symm
        · rw [gr_ 14 i (by omega) (by omega) (by omega)]
          by_cases zj : j = gi h 13 1
          · rw [zj, s1]; exact hne i i0 (by omega)
          · rw [gr_ 14 j (by omega) (by omega) (by omega)]; exact b3 i j i0 ij j1
    · rcases sw with ⟨s1, s2⟩ | ⟨s1, s2⟩
      · rw [s2]
        by_cases z : j = gi h 13 1
        · rw [z, s1]; exact hne _ hn.1 n9
        · rw [gr_ 14 j (fun w => z w.2) (by omega) (by omega)]; exact hne j j0 j1
      · rw [s2]
        by_cases z : j = gi h 13 1
        · rw [z, s1]; exact fun e => hne _ hn.1 n9 e.symm
        · rw [gr_ 14 j (fun w => z w.2) (by omega) (by omega)]
          exact addr_ne B' ⟨j0, j1⟩ ⟨hn.1, n9⟩ z
    · rw [e14 j j0 j1]
      exact RIN_cg (hA j j0 j1) (eA j j0 j1) e2 (fun a i q => by rcases q with q | q | q | q <;> first | exact lo _ _ (by omega) (by omega) | exact hi _ _ (by omega) (by omega)) (b5 j j0 j1)
    · rw [hi _ _ (by omega) (by omega)] at q; exact b7 p p0 p1 q
    · rw [hi _ _ (by omega) (by omega)]; exact b8 p p0 p1
  · obtain ⟨m1, m2, m3⟩ := NM
    unfold INm
    rw [e13, e165 15 (by omega), lo 13 3 (by omega) (by omega)]
    refine ⟨m1, m2, fun j j0 j1 => ?_⟩
    rw [e14 j j0 j1]
    have a1 : gi H (gr h 14 j) 0 = gi h (gr h 14 j) 0 := eA j j0 j1 _ _ (by omega) (by omega)
    rw [a1, hi _ _ (by omega) (by omega)]
    obtain ⟨q1, q2, q3⟩ := m3 j j0 j1
    refine ⟨q1, q2, fun i i0 i1 => ?_⟩
    rw [e14 i i0 (by omega), eA i i0 (by omega) _ _ (by omega) (by omega)]; exact q3 i i0 i1
  · rcases q with q | q | q
    · exact g a i (by unfold wdA; omega)
    · exact lo _ _ (by omega) (by omega)
    · by_cases z : a = 165
      · omega
      · exact g a i (by unfold wdA; omega)
end ADR
