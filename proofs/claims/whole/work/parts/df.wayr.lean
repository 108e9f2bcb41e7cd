/-! HOW MANY WAYS A RULE HAS TO A ROW; in the reference -/
section WYR
variable {cl kd ly : Int → Int} {oc : Int → Int → Prop} {u : mU} {p : Int}
/-- sums over the first ones -/
def sumI (f : Int → Int) : Nat → Int
  | 0 => 0
  | n + 1 => sumI f n + f n
theorem sumI_cg {f g : Int → Int} : ∀ n : Nat, (∀ x : Int, 0 ≤ x → x < n → f x = g x) → sumI f n = sumI g n
  | 0, _ => rfl
  | n + 1, e => by
    show sumI f n + f n = sumI g n + g n
    rw [sumI_cg n (fun x x0 x1 => e x x0 (by omega)), e n (by omega) (by omega)]
theorem sumI_0 {f : Int → Int} : ∀ n : Nat, (∀ x : Int, 0 ≤ x → x < n → f x = 0) → sumI f n = 0
  | 0, _ => rfl
  | n + 1, e => by
    show sumI f n + f n = 0
    rw [sumI_0 n (fun x x0 x1 => e x x0 (by omega)), e n (by omega) (by omega)]
    rfl
theorem sumI_1 {f : Int → Int} {a : Int} : ∀ n : Nat, 0 ≤ a → a < n → (∀ x : Int, 0 ≤ x → x < n → x ≠ a → f x = 0) → sumI f n = f a
  | 0, a0, a1, _ => by omega
  | n + 1, a0, a1, e => by
    show sumI f n + f n = f a
    by_cases z : a = n
    · rw [sumI_0 n (fun x x0 x1 => e x x0 (by omega) (by omega)), z, Int.zero_add]
    · rw [sumI_1 n a0 (by omega) (fun x x0 x1 q => e x x0 (by omega) q), e n (by omega) (by omega) (fun w => z w.symm), Int.add_zero]
theorem sumI_add {f g : Int → Int} : ∀ n : Nat, sumI (fun x => f x + g x) n = sumI f n + sumI g n
  | 0 => rfl
  | n + 1 => by
    show sumI (fun x => f x + g x) n + (f n + g n) = (sumI f n + f n) + (sumI g n + g n)
    rw [sumI_add n]
    omega
theorem sumI_swap {F : Int → Int → Int} {m : Nat} : ∀ n : Nat, sumI (fun x => sumI (fun y => F x y) m) n = sumI (fun y => sumI (fun x => F x y) n) m
  | 0 => by
    show 0 = sumI (fun _ => (0 : Int)) m
    rw [sumI_0 m (fun _ _ _ => rfl)]
  | n + 1 => by
    show sumI (fun x => sumI (fun y => F x y) m) n + sumI (fun y => F n y) m = _
    rw [sumI_swap n, ← sumI_add]
    rfl
theorem sumI_s {f : Int → Int} {x : Int} (x0 : 0 ≤ x) : sumI f (x + 1).toNat = sumI f x.toNat + f x := by
  rw [show (x + 1).toNat = x.toNat + 1 by omega]
  show sumI f x.toNat + f (x.toNat : Int) = _
  rw [show (x.toNat : Int) = x by omega]
theorem sumI_r {f : Int → Int} {M : Int} (hM : 0 ≤ M) : ∀ n : Nat, (∀ x : Int, 0 ≤ x → x < n → 0 ≤ f x ∧ f x ≤ M) → 0 ≤ sumI f n ∧ sumI f n ≤ n * M
  | 0, _ => by show (0 : Int) ≤ 0 ∧ (0 : Int) ≤ ((0 : Nat) : Int) * M; simp
  | n + 1, e => by
    have ih := sumI_r hM n (fun x x0 x1 => e x x0 (by omega))
    have h := e n (by omega) (by omega)
    show 0 ≤ sumI f n + f n ∧ sumI f n + f n ≤ ((n + 1 : Nat) : Int) * M
    rw [show ((n + 1 : Nat) : Int) * M = n * M + M by rw [Int.natCast_add, Int.add_mul]; simp]
    omega
/-- rules in another order -/
theorem sumI_pi {f : Int → Int} {π : Int → Int} {n : Int} {m : Nat} (hn : 0 ≤ n) (h1 : ∀ j, 0 ≤ j → j < n → 0 ≤ π j ∧ π j < m) (h2 : ∀ i j, 0 ≤ i → i < j → j < n → π i ≠ π j) : sumI (fun p => sumI (fun j => if π j = p then f j else 0) n.toNat) m = sumI f n.toNat := by
  rw [sumI_swap]
  refine sumI_cg _ (fun j j0 j1 => ?_)
  have := h1 j j0 (by omega)
  rw [sumI_1 (f := fun p => if π j = p then f j else 0) (a := π j) m this.1 this.2 (fun x _ _ q => if_neg (fun w => q w.symm)), if_pos rfl]
theorem cntI_one {P : Int → Prop} : ∀ n : Nat, (∀ x y : Int, 0 ≤ x → x < y → y < n → P x → ¬ P y) → cntI P n = @ite _ (∃ x : Int, 0 ≤ x ∧ x < n ∧ P x) (Classical.propDecidable _) 1 0
  | 0, _ => by
    rw [@if_neg _ (Classical.propDecidable _) (fun ⟨x, x0, x1, _⟩ => by omega)]
    rfl
  | n + 1, e => by
    show cntI P n + @ite _ (P n) (Classical.propDecidable _) 1 0 = _
    rw [cntI_one n (fun x y x0 xy y1 => e x y x0 xy (by omega))]
    by_cases z : ∃ x : Int, 0 ≤ x ∧ x < n ∧ P x
    · obtain ⟨x, x0, x1, x2⟩ := z
      rw [@if_pos _ (Classical.propDecidable _) ⟨x, x0, x1, x2⟩, @if_neg _ (Classical.propDecidable _) (e x n x0 (by omega) (by omega) x2), @if_pos _ (Classical.propDecidable _) ⟨x, x0, by omega, x2⟩]
      rfl
    · rw [@if_neg _ (Classical.propDecidable _) z]
      by_cases w : P n
      · rw [@if_pos _ (Classical.propDecidable _) w, @if_pos _ (Classical.propDecidable _) ⟨n, by omega, by omega, w⟩]
        rfl
      · rw [@if_neg _ (Classical.propDecidable _) w, @if_neg _ (Classical.propDecidable _) (fun ⟨x, x0, x1, x2⟩ => by
          by_cases y : x = n
          · rw [y] at x2; exact w x2
          · exact z ⟨x, x0, by omega, x2⟩)]
        rfl
/-- what the reference counts of a rule that FOLLOWS -/
theorem s259f {d : Nat} (hd : 8 ≤ d) {H0 : dm_H} {ω : mW} (D : DC cl kd) (R : RU cl kd ly oc u) (V : VW cl kd ω) (k0 : u.1 = 0) {c : Int} (hc : vcd (cl u.2.1) c) (r : Int) (w2 w3 w4 w8 w9 : Option dm_V) : ∀ (l : List mA) (H : dm_H) (x : Int), UR cl kd u p H → rW H = ω → frM H0 H → (∀ v, v ∈ l → v ∈ bnds u ω) → Itr (rRl H p) (rW H) u.2.2.2.2 H l → 0 ≤ x → x + l.length ≤ 2000000000 → ∃ H', dL (d - 1) 259 117 [lR 1 11 165, lI r, w2, w3, w4, lI c, lI x, lI p, w8, w9] [] H = dL (d - 1) 259 208 [lR 1 11 165, lI r, w2, w3, w4, lI c, lI (x + ((l.filter (fun v => decide (hdc cl u v = c))).length : Int)), lI p, w8, w9] [] H' ∧ frM H0 H' := by
  have D1 := (D u.2.1 R.2.1.1 R.2.1.2).1
  intro l
  induction l with
  | nil =>
    intro H x U eW f hl It x0 xl
    rw [← eW] at V
    obtain ⟨H', a1, a2⟩ := (s190u (d := d - 1) (by omega) D U R V It).1 rfl
    refine ⟨H', ?_, frM_trans f (frM_r a2)⟩
    rw [b259_117, a1, bk_v, b259_123, if_pos rfl]
    simp
  | cons v l ih =>
    intro H x U eW f hl It x0 xl
    rw [List.length_cons] at xl
    push_cast at xl
    have V' := V
    rw [← eW] at V'
    obtain ⟨H', a1, a2, a3, a4⟩ := (s190u (d := d - 1) (by omega) D U R V' It).2 v l rfl
    have f2 := frM_r a2
    have U2 := UR_fr f2 U
    have eW2 : rW H' = ω := by rw [← eW]; exact eqf_W (frM_f f2)
    have hv := hl v List.mem_cons_self
    have hJv : Jg u.2.2.2.1 u.2.2.2.2 v := bnds_J (RU_GW D R V) hv
    have hlast := hd_r R hJv (j := cl u.2.1 - 1) (by omega) (by omega)
    have ehd : gkv cl u v + tv v (u.2.2.1 (cl u.2.1 - 1)) * dm_unit (cl u.2.1 - 1) = hdc cl u v := (hcd_last D1).symm
    rw [b259_117, a1, bk_v, b259_123, if_neg (by decide), s205k (by omega) D U2 R a3 hJv, bk_v, b259_137, s207k (by omega) D U2 R a3 hJv hlast, bk_v, ehd, b259_140]
    by_cases z : hdc cl u v = c
    · obtain ⟨H2, b1, b2⟩ := ih H' (x + 1) U2 eW2 (frM_trans f f2) (fun w hw => hl w (List.mem_cons_of_mem _ hw)) a4 (by omega) (by omega)
      refine ⟨H2, ?_, b2⟩
      rw [if_pos z, b259_150, ck_p (by omega) (by omega), b1, List.filter_cons_of_pos (by simpa using z), List.length_cons]
      push_cast
      rw [show x + 1 + ((l.filter (fun v => decide (hdc cl u v = c))).length : Int) = x + (((l.filter (fun v => decide (hdc cl u v = c))).length : Int) + 1) by omega]
    · obtain ⟨H2, b1, b2⟩ := ih H' x U2 eW2 (frM_trans f f2) (fun w hw => hl w (List.mem_cons_of_mem _ hw)) a4 (by omega) (by omega)
      refine ⟨H2, ?_, b2⟩
      rw [if_neg z, b259_150, Int.add_zero, ck_p (by omega) (by omega), b1, List.filter_cons_of_neg (by simpa using z)]
/-- groups of rows that follow are not too many -/
theorem grp_32 {H : dm_H} {ω : mW} {l : List mA} (D : DC cl kd) (R : RU cl kd ly oc u) (V : VW cl kd ω) (hu : u.1 ≠ 0) (G : GRr cl u l H) (hl : ∀ w, w ∈ l → w ∈ bnds u ω) (hcl : ∀ c, mkd cl u ω c → cov cl kd ω u.2.1 c) : gi H 165 34 ≤ 32 := by
  have D1 := (D u.2.1 R.2.1.1 R.2.1.2).1
  obtain ⟨g1, g2, g3, g4⟩ := G
  rcases Int.lt_or_le 32 (gi H 165 34) with w | w
  case inr => exact w
  exfalso
  have e33 : gi H 165 34 = 33 := by omega
  have hJ : ∀ v, v ∈ bnds u ω → Jg u.2.2.2.1 u.2.2.2.2 v := fun v hv => bnds_J (RU_GW D R V) hv
  have hkv : ∀ v, v ∈ bnds u ω → vcd (cl u.2.1 - 1) (gkv cl u v) := fun v hv => (hcd_cv (t := u.2.2.1) (v := v) (n := cl u.2.1 - 1) (by omega) (fun i i0 i1 => hd_r R (hJ v hv) i0 (by omega))).2
  have hT : ∀ key, 0 ≤ m99 (gsm (gkv cl u) (gam cl u) key (bnds u ω)) ∧ m99 (gsm (gkv cl u) (gam cl u) key (bnds u ω)) ≤ 99 := fun key => m99_r (gsm_nn (fun v hv => (gam_r (cl := cl) (u := u) (v := v) D1.1 (fun i i0 i1 => hd_r R (hJ v hv) i0 i1)).1))
  refine many2 (cl := cl) (kd := kd) (ω' := ω) (r := u.2.1) R.2.1 V (fun x => grow cl u ω (gi H 188 x)) (fun x y x0 xy y1 => ?_) (fun x x0 x1 => ?_)
  · obtain ⟨⟨v, v1, v2⟩, -⟩ := g3 x x0 (by omega)
    obtain ⟨⟨v', v1', v2'⟩, -⟩ := g3 y (by omega) (by omega)
    have k1 := hkv v (hl v v1)
    have k2 := hkv v' (hl v' v1')
    rw [v2] at k1
    rw [v2'] at k2
    have hne := g2 x y x0 xy (by omega)
    have ⟨i, i0, i1, i2⟩ : ∃ i, 0 ≤ i ∧ i < cl u.2.1 - 1 ∧ cv i (gi H 188 x) ≠ cv i (gi H 188 y) := Classical.byContradiction (fun q => hne (vcd_ext k1 k2 (fun i i0 i1 _ => Classical.byContradiction (fun z => q ⟨i, i0, i1, z⟩))))
    refine ⟨i, i0, ?_, ?_⟩
    · unfold kwd
      split <;> omega
    · show cv i (grow cl u ω (gi H 188 x)) ≠ cv i (grow cl u ω (gi H 188 y))
      rw [grow_cv (c := grow cl u ω (gi H 188 x)) D1 k1 (hT (gi H 188 x)) rfl i i0 i1, grow_cv (c := grow cl u ω (gi H 188 y)) D1 k2 (hT (gi H 188 y)) rfl i i0 i1]
      exact i2
  · obtain ⟨⟨v, v1, v2⟩, -⟩ := g3 x x0 (by omega)
    refine hcl _ (Or.inr ⟨hu, v, hl v v1, ?_⟩)
    rw [v2]
/-- what the reference counts of a rule with groups -/
theorem s259g {d : Nat} (hd : 10 ≤ d) {H : dm_H} (D : DC cl kd) (U : UR cl kd u p H) (R : RU cl kd ly oc u) (V : VW cl kd (rW H)) (k0 : u.1 = 1 ∨ u.1 = 2) (hcl : ∀ c, mkd cl u (rW H) c → cov cl kd (rW H) u.2.1 c) {c x : Int} (hx : 0 ≤ x ∧ x ≤ 2000000000) (r : Int) (w2 w3 w4 w9 : Option dm_V) : ∃ H' y8 y9, dL (d - 1) 259 156 [lR 1 11 165, lI r, w2, w3, w4, lI c, lI x, lI p, lI 1, w9] [] H = dL (d - 1) 259 208 [lR 1 11 165, lI r, w2, w3, w4, lI c, lI (x + wyv cl u (rW H) c), lI p, y8, y9] [] H' ∧ frM H H' := by
  have D1 := (D u.2.1 R.2.1.1 R.2.1.2).1
  have hJ : ∀ v, v ∈ bnds u (rW H) → Jg u.2.2.2.1 u.2.2.2.2 v := fun v hv => bnds_J (RU_GW D R V) hv
  obtain ⟨H1, l, t1, t2, t3, t4, t5, t6⟩ := s208 (d := d - 1) (by omega) D U R k0 V
  have z32 := grp_32 D R V (by omega) t4 t5 hcl
  have el := t6 z32
  subst el
  obtain ⟨g1, g2, g3, g4⟩ := t4
  have U1 := UR_fr t2 U
  have hga : ∀ key, 0 ≤ gsm (gkv cl u) (gam cl u) key (bnds u (rW H)) := fun key => gsm_nn (fun v hv => (gam_r (cl := cl) (u := u) (v := v) D1.1 (fun i i0 i1 => hd_r R (hJ v hv) i0 i1)).1)
  have hkv : ∀ v, v ∈ bnds u (rW H) → vcd (cl u.2.1 - 1) (gkv cl u v) := fun v hv => (hcd_cv (t := u.2.2.1) (v := v) (n := cl u.2.1 - 1) (by omega) (fun i i0 i1 => hd_r R (hJ v hv) i0 (by omega))).2
  -- the row of group y
  have row : ∀ y, 0 ≤ y → y < gi H1 165 34 → dF (d - 1) 210 [dR 1 11 165, dI p, dI y] H1 = rI (grow cl u (rW H) (gi H1 188 y)) H1 := by
    intro y y0 y1
    obtain ⟨⟨v, v1, v2⟩, e⟩ := g3 y y0 y1
    have hk := hkv v v1
    rw [v2] at hk
    rw [s210 (by omega) D U1 R (g := y) (by omega) (by rw [e]; exact (m9_r (hga _)).1) hk.1, e, m99_m9]
    rfl
  have uniq : ∀ a b : Int, 0 ≤ a → a < b → b < ((gi H1 165 34).toNat : Int) → grow cl u (rW H) (gi H1 188 a) = c → ¬ grow cl u (rW H) (gi H1 188 b) = c := by
    intro a b a0 ab b1 ea eb
    obtain ⟨⟨v, v1, v2⟩, -⟩ := g3 a a0 (by omega)
    obtain ⟨⟨v', v1', v2'⟩, -⟩ := g3 b (by omega) (by omega)
    have k1 := hkv v v1
    have k2 := hkv v' v1'
    rw [v2] at k1
    rw [v2'] at k2
    refine g2 a b a0 ab (by omega) (vcd_ext k1 k2 (fun i i0 i1 _ => ?_))
    rw [← grow_cv (c := grow cl u (rW H) (gi H1 188 a)) D1 k1 (m99_r (hga (gi H1 188 a))) rfl i i0 i1, ← grow_cv (c := grow cl u (rW H) (gi H1 188 b)) D1 k2 (m99_r (hga (gi H1 188 b))) rfl i i0 i1]
    show cv i (grow cl u (rW H) (gi H1 188 a)) = cv i (grow cl u (rW H) (gi H1 188 b))
    rw [ea, eb]
  have loop : ∀ (m : Nat) (y : Int), 0 ≤ y → y + m = gi H1 165 34 → ∃ y8, dL (d - 1) 259 170 [lR 1 11 165, lI r, w2, w3, w4, lI c, lI (x + cntI (fun y => grow cl u (rW H) (gi H1 188 y) = c) y.toNat), lI p, lI 1, lI y] [] H1 = dL (d - 1) 259 208 [lR 1 11 165, lI r, w2, w3, w4, lI c, lI (x + cntI (fun y => grow cl u (rW H) (gi H1 188 y) = c) (gi H1 165 34).toNat), lI p, lI 1, y8] [] H1 := by
    intro m
    induction m with
    | zero =>
      intro y y0 ym
      refine ⟨lI y, ?_⟩
      rw [b259_170, if_neg (by omega), show y = gi H1 165 34 by omega]
    | succ m ih =>
      intro y y0 ym
      have cr := cntI_r (fun y => grow cl u (rW H) (gi H1 188 y) = c) y.toNat
      obtain ⟨y8, e⟩ := ih (y + 1) (by omega) (by omega)
      refine ⟨y8, ?_⟩
      rw [b259_170, if_pos (by omega), row y y0 (by omega), bk_v, b259_189]
      by_cases z : grow cl u (rW H) (gi H1 188 y) = c
      · rw [if_pos z, b259_199, ck_p (by omega) (by omega), ck_p (by omega) (by omega), show x + cntI (fun y => grow cl u (rW H) (gi H1 188 y) = c) y.toNat + 1 = x + (cntI (fun y => grow cl u (rW H) (gi H1 188 y) = c) y.toNat + 1) by omega, ← cntI_y (P := fun y => grow cl u (rW H) (gi H1 188 y) = c) y0 z]
        exact e
      · rw [if_neg z, b259_199, Int.add_zero, ck_p (by omega) (by omega), ck_p (by omega) (by omega), ← cntI_n (P := fun y => grow cl u (rW H) (gi H1 188 y) = c) y0 z]
        exact e
  obtain ⟨y8, e⟩ := loop (gi H1 165 34).toNat 0 (by omega) (by omega)
  have ewy : wyv cl u (rW H) c = cntI (fun y => grow cl u (rW H) (gi H1 188 y) = c) (gi H1 165 34).toNat := by
    rw [cntI_one _ uniq]
    unfold wyv
    rw [if_neg (by omega)]
    by_cases q : mkd cl u (rW H) c
    · rw [@if_pos _ (Classical.propDecidable _) q, @if_pos _ (Classical.propDecidable _)]
      rcases q with ⟨q, -⟩ | ⟨-, v, v1, v2⟩
      · omega
      · obtain ⟨y, y0, y1, y2⟩ := g4 v v1
        exact ⟨y, y0, by omega, by rw [y2]; exact v2.symm⟩
    · rw [@if_neg _ (Classical.propDecidable _) q, @if_neg _ (Classical.propDecidable _)]
      rintro ⟨y, y0, y1, y2⟩
      obtain ⟨⟨v, v1, v2⟩, -⟩ := g3 y y0 (by omega)
      exact q (Or.inr ⟨by omega, v, v1, by rw [v2]; exact y2.symm⟩)
  refine ⟨H1, lI 1, y8, ?_, t2⟩
  rw [b259_156, if_neg (by decide), t1, bk_n, b259_167, ewy]
  have e0 : x + cntI (fun y => grow cl u (rW H) (gi H1 188 y) = c) (0 : Int).toNat = x := by show x + 0 = x; omega
  rw [e0] at e
  exact e
end WYR
