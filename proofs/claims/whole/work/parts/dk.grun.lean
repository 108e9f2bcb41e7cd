/-! GOALS: the class's search -/
section GRN
variable {h H : dm_H} {π : Int → Int}
/-- what the search for goals touches -/
def fgr (h h' : dm_H) : Prop := (∀ a i, ¬ (137 ≤ a ∧ a ≤ 139) → ¬ (a = 161 ∧ i = 4) → a ≠ 162 → a ≠ 163 → gi h' a i = gi h a i) ∧ (∀ a i, a ≠ 137 → ¬ (a = 161 ∧ i = 3) → gr h' a i = gr h a i) ∧ h'.2.2 = h.2.2
theorem fgr_refl (h : dm_H) : fgr h h := ⟨fun _ _ _ _ _ _ => rfl, fun _ _ _ _ => rfl, rfl⟩
theorem fgr_trans {h h1 h2 : dm_H} (a : fgr h h1) (b : fgr h1 h2) : fgr h h2 := ⟨fun c i p q r s => by rw [b.1 c i p q r s, a.1 c i p q r s], fun c i p q => by rw [b.2.1 c i p q, a.2.1 c i p q], by rw [b.2.2, a.2.2]⟩
theorem fgr_J {h h' : dm_H} (f : frJ h h') : fgr h h' := ⟨fun a i p _ _ _ => f.1 a i p, fun a i p _ => f.2.1 a i p, f.2.2⟩
theorem fgr_V {h h' : dm_H} (f : frVg h h') : fgr h h' := ⟨fun a i p q r s => f.1 a i (by omega) (by omega) (by omega) q r s, fun a i _ _ => f.2.1 a i, f.2.2⟩
theorem fgr_o {h h' : dm_H} (f : frGo h h') : fgr h h' := ⟨fun a i _ q r s => f.1 a i q r s, fun a i _ _ => f.2.1 a i, f.2.2⟩
theorem low_all (I : IN0 π h) (lo : ∀ a i, a < 95 ∨ (95 ≤ a ∧ a ≤ 136) ∨ (166 ≤ a ∧ a ≤ 184) ∨ (a = 165 ∧ i ≠ 0) → gi H a i = gi h a i) (lr : ∀ a i, a < 137 → gr H a i = gr h a i) : IN0 π H ∧ RLc H = RLc h := by
  have hW := I.2.2.2.2.2.2.2.2.2.1
  have hP : gr h 1 8 = 95 ∨ gr h 1 8 = 112 := hW.1
  have fr : fr0 h H := ⟨fun a i c => lo a i (by unfold crd at c; omega), ⟨lr _ _ (by omega), lr _ _ (by omega), lr _ _ (by omega)⟩, fun j => lr _ _ (by omega)⟩
  have hl := CHL_cg fr (fun i => lo _ _ (by omega)) (fun i => lo _ _ (by omega)) (lo _ _ (by omega)) I
  have hA : ∀ j, 0 ≤ j → j < gi h 13 1 → ru (gr h 14 j) := fun j j0 j1 => (I.2.2.1.2.2.1 j j0 j1).1
  exact ⟨IN0_cg fr (rW_same (fun i => lo _ _ (by omega)) (fun i => lo _ _ (by omega))) hl.1 hl.2 I, RLc_cg2 (lo _ _ (by omega)) (fun j _ _ => lr _ _ (by omega)) (fun j j0 j1 a i p q _ => by
    have := ru_r (hA j j0 j1)
    exact lo a i (by omega))⟩
theorem low_at (I : IN0 π h) (lo : ∀ a i, a < 95 ∨ (95 ≤ a ∧ a ≤ 136) ∨ (166 ≤ a ∧ a ≤ 184) ∨ (a = 165 ∧ i ≠ 0) → gi H a i = gi h a i) (lr : ∀ a i, a < 137 → gr H a i = gr h a i) {j : Int} (j0 : 0 ≤ j) (j1 : j < gi h 13 1) : RIc (gr h 14 j) H ∧ cR H (gr h 14 j) = cR h (gr h 14 j) ∧ eqW (cW h (gr h 1 8)) (cW H (gr h 1 8)) ∧ RK H ∧ VW (cK H) (gi H 4) (cW H (gr h 1 8)) ∧ (still h (gr h 1 8) → still H (gr h 1 8)) := by
  have hW := I.2.2.2.2.2.2.2.2.2.1
  have hP : gr h 1 8 = 95 ∨ gr h 1 8 = 112 := hW.1
  obtain ⟨IH, -⟩ := low_all I lo lr
  have hru := ru_r (I.2.2.1.2.2.1 j j0 j1).1
  have l14 : gr H 14 j = gr h 14 j := lr _ _ (by omega)
  have l8 : gr H 1 8 = gr h 1 8 := lr _ _ (by omega)
  have RH : RIc (gr h 14 j) H := by
    have := (IH.2.2.1).2.2.1 j j0 (by rw [lo 13 1 (by omega)]; exact j1)
    rw [l14] at this
    exact RIN_c this
  have V : VW (cK H) (gi H 4) (cW H (gr H 1 8)) := IH.2.2.2.2.2.2.2.2.2.2.2.2.2.2.2.1
  rw [l8] at V
  exact ⟨RH, (uR_cg (fun a i p q _ => lo a i (by omega))).2, cW_far (P := gr h 1 8) hW.1 (h := h) (h' := H) (fun a i p q => lo a i (by omega)), IH.1.1, V, fun S => still_to (fun a i p q => lo a i (by omega)) (fun r _ _ => lo _ _ (by omega)) S⟩
theorem fgr_lo (f : fgr h H) : (∀ a i, a < 95 ∨ (95 ≤ a ∧ a ≤ 136) ∨ (166 ≤ a ∧ a ≤ 184) ∨ (a = 165 ∧ i ≠ 0) → gi H a i = gi h a i) ∧ ∀ a i, a < 137 → gr H a i = gr h a i := ⟨fun a i q => f.1 a i (by omega) (by omega) (by omega) (by omega), fun a i q => f.2.1 a i (by omega) (by omega)⟩
/-- columns of the head that a goal puts in -/
def mcl (h : dm_H) (A : Nat) : Int := if gi h A 1 = 0 ∧ gi h 4 (gi h A 2) = 0 then gi h A 3 else gi h A 3 - 1
def okG (g : Int) : Prop := ∃ r a b c, (0 ≤ r ∧ r < 6) ∧ (-1 ≤ a ∧ a ≤ 99) ∧ (-1 ≤ b ∧ b ≤ 99) ∧ (-1 ≤ c ∧ c ≤ 99) ∧ g = gcode r a b c
theorem okG_r {g : Int} (o : okG g) : (0 ≤ g ∧ g < 12582912) ∧ ∀ i, gcl g i = -1 ∨ (0 ≤ gcl g i ∧ gcl g i ≤ 99) := by
  obtain ⟨r, a, b, c, hr, ha, hb, hc, rfl⟩ := o
  obtain ⟨x1, x2, x3⟩ := gcode_r hr ha hb hc
  refine ⟨x1, fun i => ?_⟩
  rw [x3]
  unfold f3
  split
  · omega
  split <;> omega
theorem Tg_ok {ρ : mR} {ω : mW} {kd : Int → Int} {N : Int} (G : GW ρ ω N) : ∀ (n : Nat) (k : Int) (v : mA) (g : Int), 0 ≤ k → k + n ≤ N → Jg ρ k v → Tg ρ ω kd n k v g → okG g
  | 0, _, _, _, _, _, _, q => q.elim
  | n + 1, k, v, g, k0, kn, J, q => by
    rcases q with ⟨q1, q2⟩ | ⟨w, w1, w2⟩
    · have hs : (0 ≤ ρ.2.1 k ∧ ρ.2.1 k < 6) ∧ ∀ i, 0 ≤ i → i < ρ.2.2.1 k → -1 ≤ ρ.2.2.2 k i ∧ ρ.2.2.2 k i ≤ 107 := by
        rcases G.2 k k0 (by omega) with z | z | z
        · exact ⟨z.2.1, fun i i0 i1 => z.2.2.2.1 i i0 (by have := z.2.2.1; omega)⟩
        · exact ⟨z.2.1, fun i i0 i1 => z.2.2.2.1 i i0 (by have := z.2.2.1; omega)⟩
        · rcases z.1 with y | y <;> omega
      exact ⟨_, _, _, _, hs.1, akv_r J.2.1 hs.2 (by omega), akv_r J.2.1 hs.2 (by omega), akv_r J.2.1 hs.2 (by omega), q2⟩
    · exact Tg_ok G n (k + 1) w g (by omega) (by omega) (opt_J G ⟨k0, by omega⟩ J w1).1 w2
/-- a goal asks another one, by rule j -/
def nxj (h : dm_H) (j g g' : Int) : Prop := gi h (gr h 14 j) 1 ≠ 3 ∧ gi h (gr h 14 j) 2 = grl g ∧ ∃ w, pG (gi h (gr h 14 j + 1)) (gcl g) (mcl h (gr h 14 j)).toNat 0 v0 = some w ∧ Tg (cR h (gr h 14 j)) (cW h (gr h 1 8)) (gi h 4) (gi h (gr h 14 j) 4).toNat 0 w g'
def nxt (h : dm_H) (g g' : Int) : Prop := ∃ j, (0 ≤ j ∧ j < gi h 13 1) ∧ nxj h j g g'
/-- goals that a goal leads to -/
def rcG (h : dm_H) (g0 g : Int) : Prop := ∀ S : Int → Prop, S g0 → (∀ a b, S a → nxt h a b → S b) → S g
theorem rcG_0 (g0 : Int) : rcG h g0 g0 := fun _ a _ => a
theorem rcG_s {g0 a b : Int} (r : rcG h g0 a) (n : nxt h a b) : rcG h g0 b := fun S x y => y a b (r S x y) n
theorem mcl_r (I : IN0 π h) {j : Int} (j0 : 0 ≤ j) (j1 : j < gi h 13 1) (h3 : gi h (gr h 14 j) 1 ≠ 3) : (0 ≤ mcl h (gr h 14 j) ∧ mcl h (gr h 14 j) ≤ gi h (gr h 14 j) 3) ∧ (1 ≤ gi h (gr h 14 j) 3 ∧ gi h (gr h 14 j) 3 ≤ 3) := by
  have R := (I.2.2.1.2.2.1 j j0 j1).2.1
  have q4 := R.2.2.2.1 h3
  have hk := cK_c I.1.1 q4.1.1 q4.1.2
  have hk3 : 1 ≤ gi h (gr h 14 j) 3 ∧ gi h (gr h 14 j) 3 ≤ 3 := by rw [q4.2]; exact hk.2
  unfold mcl
  split <;> omega
theorem nxj_ok (I : IN0 π h) {j g g' : Int} (j0 : 0 ≤ j) (j1 : j < gi h 13 1) (o : okG g) (n : nxj h j g g') : okG g' := by
  obtain ⟨n1, n2, w, n3, n4⟩ := n
  have V : VW (cK h) (gi h 4) (cW h (gr h 1 8)) := I.2.2.2.2.2.2.2.2.2.2.2.2.2.2.2.1
  have G := GWc I.1.1 (RIN_c (I.2.2.1.2.2.1 j j0 j1)) V
  have hJ := pG_J (fun i _ _ => (okG_r o).2 i) (v0_J (cR h (gr h 14 j))).1 (v0_J (cR h (gr h 14 j))).2.1 n3
  exact Tg_ok G _ 0 w g' (by omega) (by have := G.1; omega) ⟨hJ.1, hJ.2.1, fun s _ ⟨j, j1, j2, _⟩ => by omega⟩ n4
/-- a goal is put into the head -/
theorem s145 {d : Nat} (hd : 3 ≤ d) {A : Nat} (hA : gr H 161 3 = A) (hA2 : gr H 137 6 = A) (hru : ru A) {g : Int} (o : okG g) (h2 : 0 ≤ gi H A 2 ∧ gi H A 2 < 6) (h3 : 1 ≤ gi H A 3 ∧ gi H A 3 ≤ 3) :
    (∀ w, pG (gi H (A + 1)) (gcl g) (mcl H A).toNat 0 (va H 138) = some w → dF d 145 [dR 1 3 161, dI g] H = rI 1 (sv H 138 w)) ∧ (pG (gi H (A + 1)) (gcl g) (mcl H A).toNat 0 (va H 138) = none → ∃ u, dF d 145 [dR 1 3 161, dI g] H = rI 0 (sv H 138 u)) := by
  have hr := ru_r hru
  obtain ⟨og, oc⟩ := okG_r o
  have m03 : 0 ≤ mcl H A ∧ mcl H A ≤ 3 := by unfold mcl; split <;> omega
  have dec : ∀ i, 0 ≤ i → i < 3 → dm_and (dm_shr g (14 - 7 * i)) 127 - 1 = gcl g i := by
    intro i i0 i1
    have key : ∀ (j : Nat) (D : Int), j < 31 → ((2 ^ j : Nat) : Int) = D → 0 < D → dm_and (dm_shr g (j : Int)) 127 = g / D % 128 := by
      intro j D hj e p
      have a1 := shr_g (g := g) (by omega) hj
      rw [e] at a1
      have a0 : 0 ≤ g / D ∧ g / D ≤ g := ⟨Int.ediv_nonneg og.1 (by omega), Int.ediv_le_self _ og.1⟩
      have a2 := and_m (y := g / D) (by omega) (n := 7) (by omega)
      have e7 : (((2 ^ 7 : Nat) : Int)) = 128 := by decide
      rw [e7] at a2
      rw [a1, show (127 : Int) = 128 - 1 by decide, a2]
    unfold gcl
    rcases (show i = 0 ∨ i = 1 ∨ i = 2 by omega) with rfl | rfl | rfl
    · rw [if_pos rfl, show (14 : Int) - 7 * 0 = ((14 : Nat) : Int) by decide, key 14 16384 (by omega) (by decide) (by decide)]
    · rw [if_neg (by decide), if_pos rfl, show (14 : Int) - 7 * 1 = ((7 : Nat) : Int) by decide, key 7 128 (by omega) (by decide) (by decide)]
    · rw [if_neg (by decide), if_neg (by decide), show (14 : Int) - 7 * 2 = ((0 : Nat) : Int) by decide, key 0 1 (by omega) (by decide) (by decide), Int.ediv_one]
  have loop : ∀ (m : Nat) (i : Int) (u : mA) (w2 w5 : Option dm_V), 0 ≤ i → i + m = mcl H A → nv u →
      (∀ w, pG (gi H (A + 1)) (gcl g) m i u = some w → dL (d - 1) 145 61 [lR 1 3 161, lI g, w2, lI (mcl H A), lI i, w5] [] (sv H 138 u) = rI 1 (sv H 138 w)) ∧ (pG (gi H (A + 1)) (gcl g) m i u = none → ∃ u', dL (d - 1) 145 61 [lR 1 3 161, lI g, w2, lI (mcl H A), lI i, w5] [] (sv H 138 u) = rI 0 (sv H 138 u')) := by
    intro m
    induction m with
    | zero =>
      intro i u w2 w5 i0 im hu
      have e : dL (d - 1) 145 61 [lR 1 3 161, lI g, w2, lI (mcl H A), lI i, w5] [] (sv H 138 u) = rI 1 (sv H 138 u) := by rw [b145_61, if_neg (by omega)]
      exact ⟨fun w hw => by cases (show some u = some w from hw); exact e, fun hw => nomatch (show (some u : Option mA) = none from hw)⟩
    | succ m ih =>
      intro i u w2 w5 i0 im hu
      have on : ∀ (w : mA) (y5 : Option dm_V), nv w → (∀ w', pG (gi H (A + 1)) (gcl g) m (i + 1) w = some w' → dL (d - 1) 145 114 [lR 1 3 161, lI g, w2, lI (mcl H A), lI i, y5] [] (sv H 138 w) = rI 1 (sv H 138 w')) ∧ (pG (gi H (A + 1)) (gcl g) m (i + 1) w = none → ∃ u', dL (d - 1) 145 114 [lR 1 3 161, lI g, w2, lI (mcl H A), lI i, y5] [] (sv H 138 w) = rI 0 (sv H 138 u')) := by
        intro w y5 hw
        rw [b145_114, ck_p (by omega) (by omega)]
        exact ih (i + 1) w w2 y5 (by omega) (by omega) hw
      have d0 := dec i i0 (by omega)
      have oci := oc i
      rw [b145_61, if_pos (by omega), ck_p (by omega) (by omega), ck_p (by omega) (by omega), d0, ck_p (by omega) (by omega)]
      show (∀ w, (if gcl g i = -1 then pG (gi H (A + 1)) (gcl g) m (i + 1) u else match pI u (gi H (A + 1) i) (gcl g i) with
        | none => none
        | some v' => pG (gi H (A + 1)) (gcl g) m (i + 1) v') = some w → _) ∧ ((if gcl g i = -1 then pG (gi H (A + 1)) (gcl g) m (i + 1) u else match pI u (gi H (A + 1) i) (gcl g i) with
        | none => none
        | some v' => pG (gi H (A + 1)) (gcl g) m (i + 1) v') = none → _)
      by_cases z : gcl g i = -1
      · rw [if_pos z, if_pos z]
        exact on u _ hu
      · rw [if_neg z, if_neg z, ix_p i0 (by omega)]
        have e6 : gr (sv H 138 u) 161 3 = A := hA
        rw [e6, gi_svn (by omega), s52 (by omega), va_sv hu]
        cases hp : pI u (gi H (A + 1) i) (gcl g i) with
        | none =>
          refine ⟨fun w hw => (nomatch hw), fun _ => ⟨u, ?_⟩⟩
          show dm_back _ _ _ _ _ (rI 0 (sv H 138 u)) = _
          rw [bk_v, b145_109, if_pos rfl]
        | some w =>
          have e : ∀ (y5 : Option dm_V), dm_back (dL (d - 1) 145) dm_t145 106 [lR 1 3 161, lI g, w2, lI (mcl H A), lI i, y5] [] (rI 1 (sv (sv H 138 u) 138 w)) = dL (d - 1) 145 114 [lR 1 3 161, lI g, w2, lI (mcl H A), lI i, y5] [] (sv H 138 w) := fun y5 => by rw [bk_v, b145_109, if_neg (by decide), sv_sv]
          show (∀ w', pG (gi H (A + 1)) (gcl g) m (i + 1) w = some w' → dm_back _ _ _ _ _ (rI 1 (sv (sv H 138 u) 138 w)) = _) ∧ (pG (gi H (A + 1)) (gcl g) m (i + 1) w = none → ∃ u', dm_back _ _ _ _ _ (rI 1 (sv (sv H 138 u) 138 w)) = _)
          rw [e]
          exact on w _ (pI_nv hu hp).1
  have st : ∃ w2, dF d 145 [dR 1 3 161, dI g] H = dL (d - 1) 145 61 [lR 1 3 161, lI g, w2, lI (mcl H A), lI 0, none] [] H := by
    have e28 : ¬ (gi H A 1 = 0 ∧ gi H 4 (gi H A 2) = 0) → dL (d - 1) 145 28 [lR 1 3 161, lI g, none, none, none, none] [] H = dL (d - 1) 145 61 [lR 1 3 161, lI g, lI 1, lI (mcl H A), lI 0, none] [] H := by
      intro q
      rw [b145_28, b145_33, if_neg (by decide), hA, ck_p (by omega) (by omega), b145_57]
      unfold mcl
      rw [if_neg q]
    rw [f145 (by omega), b145_0, hA]
    by_cases z : gi H A 1 = 0
    · rw [if_pos z, ix_p h2.1 (by omega)]
      by_cases y : gi H 4 (gi H A 2) = 0
      · refine ⟨lI 0, ?_⟩
        rw [if_pos y, b145_33, if_pos rfl, hA, b145_57]
        unfold mcl
        rw [if_pos ⟨z, y⟩]
      · exact ⟨lI 1, by rw [if_neg y, e28 (fun q => y q.2)]⟩
    · exact ⟨lI 1, by rw [if_neg z, e28 (fun q => z q.1)]⟩
  obtain ⟨w2, e⟩ := st
  have := loop (mcl H A).toNat 0 (va H 138) w2 none (by omega) (by omega) (nv_va H 138)
  rw [sv_va] at this
  rw [e]
  exact this
end GRN
