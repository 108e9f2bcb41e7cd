/-! COSTS: a rule is gone through, from its first binding to its last offer -/
section CLL
variable {h H : dm_H} {π : Int → Int}
/-- rows that follow are not too many for groups -/
theorem tmg_no {cl kd ly : Int → Int} {oc : Int → Int → Prop} {u : mU} {ω : mW} {B : List mA} (D : DC cl kd) (R : RU cl kd ly oc u) (V : VW cl kd ω) (hu : u.1 ≠ 0) (hB : ∀ w, w ∈ B → w ∈ bnds u ω) (hcl : ∀ c, mkd cl u ω c → cov cl kd ω u.2.1 c) : ¬ tmg cl u B := by
  rintro ⟨f, f1, f2⟩
  have D1 := (D u.2.1 R.2.1.1 R.2.1.2).1
  have hJ : ∀ v, v ∈ bnds u ω → Jg u.2.2.2.1 u.2.2.2.2 v := fun v hv => bnds_J (RU_GW D R V) hv
  have hkv : ∀ v, v ∈ bnds u ω → vcd (cl u.2.1 - 1) (gkv cl u v) := fun v hv => (hcd_cv (t := u.2.2.1) (v := v) (n := cl u.2.1 - 1) (by omega) (fun i i0 i1 => hd_r R (hJ v hv) i0 (by omega))).2
  have hT : ∀ key, 0 ≤ m99 (gsm (gkv cl u) (gam cl u) key (bnds u ω)) ∧ m99 (gsm (gkv cl u) (gam cl u) key (bnds u ω)) ≤ 99 := fun key => m99_r (gsm_nn (fun v hv => (gam_r (cl := cl) (u := u) (v := v) D1.1 (fun i i0 i1 => hd_r R (hJ v hv) i0 i1)).1))
  refine many2 (cl := cl) (kd := kd) (ω' := ω) (r := u.2.1) R.2.1 V (fun x => grow cl u ω (f x)) (fun x y x0 xy y1 => ?_) (fun x x0 x1 => ?_)
  · obtain ⟨v, v1, v2⟩ := f1 x x0 (by omega)
    obtain ⟨v', v1', v2'⟩ := f1 y (by omega) (by omega)
    have k1 := hkv v (hB v v1)
    have k2 := hkv v' (hB v' v1')
    rw [v2] at k1
    rw [v2'] at k2
    have hne := f2 x y x0 xy (by omega)
    have ⟨i, i0, i1, i2⟩ : ∃ i, 0 ≤ i ∧ i < cl u.2.1 - 1 ∧ cv i (f x) ≠ cv i (f y) := Classical.byContradiction (fun q => hne (vcd_ext k1 k2 (fun i i0 i1 _ => Classical.byContradiction (fun z => q ⟨i, i0, i1, z⟩))))
    refine ⟨i, i0, ?_, ?_⟩
    · unfold kwd
      split <;> omega
    · show cv i (grow cl u ω (f x)) ≠ cv i (grow cl u ω (f y))
      rw [grow_cv (c := grow cl u ω (f x)) D1 k1 (hT (f x)) rfl i i0 i1, grow_cv (c := grow cl u ω (f y)) D1 k2 (hT (f y)) rfl i i0 i1]
      exact i2
  · obtain ⟨v, v1, v2⟩ := f1 x x0 x1
    refine hcl _ (Or.inr ⟨hu, v, hB v v1, ?_⟩)
    rw [v2]
/-- what going through a rule brings -/
def LKr (S0 S1 : (Int → Int → Int) → Prop) (cl : Int → Int) (u : mU) (ω : mW) (H H' : dm_H) : Prop := frO H H' ∧ (∀ i, gr H' 144 i = gr H 144 i) ∧ CC H' ∧ cmv ω.1 H H' ∧ (LBS S0 ω (hF H') ∧ LBS S1 ω (pF H')) ∧ ∀ v, v ∈ bnds u ω → ∀ x, plW ω u.2.1 (wrow cl u ω v) x → hF H' u.2.1 x ≤ ocv (wcost 0 cl u ω (hF H) v) ∧ pF H' u.2.1 x ≤ ocv (wcost 1 cl u ω (pF H) v)
/-- a stable cost, rule by rule -/
def SBr (pr : Int) (S : (Int → Int → Int) → Prop) (cl : Int → Int) (u : mU) (ω : mW) : Prop := ∀ s, S s → vcf ω s ∧ ∀ v, v ∈ bnds u ω → ∀ x, plW ω u.2.1 (wrow cl u ω v) x → s u.2.1 x ≤ ocv (wcost pr cl u ω s v)
theorem s154f {d : Nat} (hd : 10 ≤ d) (I : IN0 π h) (S : still h (gr h 1 8)) (f : frO h H) {j : Int} (j0 : 0 ≤ j) (j1 : j < gi h 13 1) (k0 : gi h (gr h 14 j) 1 = 0) (g6 : gr H 144 6 = gr h 14 j) (g5 : gr H 144 5 = gr h 1 8) (C : CC H) {S0 S1 : (Int → Int → Int) → Prop} (b0 : SBr 0 S0 (cK h) (uR h (gr h 14 j)) (cW h (gr h 1 8))) (b1 : SBr 1 S1 (cK h) (uR h (gr h 14 j)) (cW h (gr h 1 8))) (L : LBS S0 (cW h (gr h 1 8)) (hF H) ∧ LBS S1 (cW h (gr h 1 8)) (pF H)) :
    ∃ H', dF d 154 [dR 1 0 144] H = rV H' ∧ LKr S0 S1 (cK h) (uR h (gr h 14 j)) (cW h (gr h 1 8)) H H' := by
  have hP : rw_ (gr h 1 8) := I.2.2.2.2.2.2.2.2.2.1.1
  obtain ⟨A, eA⟩ : ∃ A, gr h 14 j = A := ⟨_, rfl⟩
  obtain ⟨P, eP⟩ : ∃ P, gr h 1 8 = P := ⟨_, rfl⟩
  obtain ⟨H1, eH1⟩ : ∃ H1, H1 = kbg H A P := ⟨_, rfl⟩
  have fb : frO H H1 := by rw [eH1]; exact frO_b
  have f1 := frO_t f fb
  have q6 : ∀ i, gr H1 144 i = gr H 144 i := fun i => by rw [eH1, kbg_gr, if_neg (by omega), bgn_gn (by omega)]
  have at1 := frO_at I f1 j0 j1 (by rw [q6]; exact g6) (by rw [q6]; exact g5)
  have at0 := frO_at I f j0 j1 g6 g5
  rw [eA] at at1 at0 k0 g6 b0 b1 ⊢
  rw [eP] at at1 at0 g5 b0 b1 L S hP ⊢
  obtain ⟨R, K, V, GG, RUh, St, WG1⟩ := at1
  have WG0 := at0.2.2.2.2.2.2
  have lo : ∀ a i, a < 137 → gi H1 a i = gi h a i := fun a i ha => f1.1 a i (Or.inl ha)
  have loH : ∀ a i, a < 137 → gi H1 a i = gi H a i := fun a i ha => fb.1 a i (Or.inl ha)
  have hru := ru_r R.1
  have eu : uR H1 A = uR h A := (uR_cg (fun a i p q _ => lo a i (by omega))).1
  have eR : cR H1 A = cR h A := (uR_cg (fun a i p q _ => lo a i (by omega))).2
  have eK : cK H1 = cK h := by unfold cK; simp only [show ∀ i, gi H1 3 i = gi h 3 i from fun i => lo _ _ (by omega)]
  have k1 : gi H1 A 1 = 0 := by rw [lo _ _ (by omega)]; exact k0
  have RU1 := RUh (by omega)
  have D := DC_of K
  have D1 := (D _ RU1.2.1.1 RU1.2.1.2).1
  have h3 : gi H1 A 3 = cK H1 (gi H1 A 2) := by
    obtain ⟨a1, a2⟩ := R.2.1.2.2.2.1 (by omega)
    have := (K.2 (gi H1 A 2) a1.1 (by have := K.1; omega)).2 a1.2
    unfold cK
    rw [if_neg (by omega)]; exact a2
  have D1 : 1 ≤ cK H1 (gi H1 A 2) ∧ cK H1 (gi H1 A 2) ≤ 3 := D1
  obtain ⟨j2, j3, j4, j5, j9, j10⟩ := bgn_j H A P 144
  obtain ⟨n6, n7, n8⟩ := bgn_gr H A P 144
  have q137 : ∀ i, gi H1 137 i = gi (bgn H A P 144) 137 i := fun i => by rw [eH1]; exact kbg_j (Or.inl rfl)
  have r137 : ∀ i, gr H1 137 i = gr (bgn H A P 144) 137 i := fun i => by rw [eH1, kbg_gr, if_neg (by omega)]
  have va1 : va H1 138 = v0 := by
    rw [← bgn_va H A P 144]
    funext s
    unfold va
    rw [eH1, kbg_j (Or.inr rfl)]
  have Jst : Js A P 144 (gi H1 A 4) 0 (-1) H1 H1 := ⟨by rw [r137]; exact n6, by rw [r137]; exact n7, by rw [r137]; exact n8, rfl, fun _ => rfl, fun _ => rfl, fun _ => rfl, fun _ => rfl, fun _ => rfl, by rw [q137]; exact j9, by rw [q137]; exact j10, fun r r0 r1 => (V r r0 r1).1, fun r p r0 r1 p0 p1 => ((V r r0 r1).2.1 p p0 p1).1⟩
  have sb : smc H H1 := by rw [eH1]; exact smc_b
  have C1 := smc_CC sb C
  -- over h's rows
  have hpl : ∀ r c x, 0 ≤ r → r < 6 → (plW (cW H1 P) r c x ↔ plW (cW h P) r c x) := fun r c x r0 r1 => plW_e hP lo ⟨r0, r1⟩
  have hz : ∀ r, 0 ≤ r → r < 6 → (cW H1 P).1 r = (cW h P).1 r := fun r r0 r1 => lo _ _ (by have : P = 95 ∨ P = 112 := hP; omega)
  have WGh : WG A P (gi H1 A 4) H1 := WG1
  have eW : eqW (cW h P) (cW H1 P) := cW_far hP (fun a i p q => lo a i (by have : P = 95 ∨ P = 112 := hP; omega))
  have hn1 : ∀ r x, 0 ≤ r → r < 6 → 0 ≤ x → x < rsz H1 P r → r < gi H1 2 0 := fun r x r0 r1 x0 x1 => by
    have := IN0_hn I r x r0 r1 x0
    rw [eP] at this
    rw [lo 2 0 (by omega)]
    rw [show rsz H1 P r = rsz h P r from hz r r0 r1] at x1
    exact this x1
  have hrel : ∀ k, 0 ≤ k → k < gi H1 A 4 → (cR H1 A).1 k = 0 ∨ (cR H1 A).1 k = 1 → 0 ≤ (cR H1 A).2.1 k ∧ (cR H1 A).2.1 k < 6 := fun k p q z => by
    rcases GG.2 k p q with w | w | w
    · exact w.2.1
    · exact w.2.1
    · rcases w.1 with y | y
      · omega
      · have := y.1; omega
  have hps : psr (cR H1 A) (gi H1 A 4).toNat := fun k p q z => hrel k p (by have := GG.1; omega) (Or.inl z)
  have eB : bnd (cR H1 A) (cW H1 P) (gi H1 A 4).toNat 0 v0 = bnds (uR h A) (cW h P) := by
    rw [← eu]
    exact bnd_eqW (N := gi H1 A 4) eW hrel _ 0 v0 (by omega) (by have := GG.1; omega)
  have eb : ∀ pr {f g : Int → Int → Int} v, (∀ r x, 0 ≤ r → r < 6 → f r x = g r x) → bcv pr (cR H1 A) (cW H1 P) f v (gi H1 A 4).toNat = bcv pr (uR h A).2.2.2.1 (cW h P) g v (uR h A).2.2.2.2.toNat := fun pr f g v e => by
    have W2 : WG A P (gi H1 A 4) H1 := WG1
    show _ = bcv pr (cR h A) (cW h P) g v (gi h A 4).toNat
    rw [← lo A 4 (by omega)]
    exact (bcv_e (h := H1) (h' := h) WG1 (fun a i ha => (lo a i ha).symm) (fun r x r0 r1 => (e r x r0 r1).symm) pr v).symm
  have ew : ∀ pr (f : Int → Int → Int) v, wcost pr (cK h) (uR h A) (cW h P) f v = bcv pr (uR h A).2.2.2.1 (cW h P) f v (uR h A).2.2.2.2.toNat := fun pr f v => if_pos k0
  have erow : ∀ v, wrow (cK h) (uR h A) (cW h P) v = hcd (gi H1 (A + 1)) v (gi H1 A 3).toNat 0 0 := fun v => by
    have : wrow (cK h) (uR h A) (cW h P) v = hdc (cK h) (uR h A) v := if_pos k0
    rw [this, ← eu, ← eK, h3]
    rfl
  have e2 : gi H1 A 2 = (uR h A).2.1 := lo _ _ (by omega)
  have SB : ∀ pr (S : (Int → Int → Int) → Prop), SBr pr S (cK h) (uR h A) (cW h P) → SBf pr S (cR H1 A) (cW H1 P) (gi H1 A 4) (gi H1 A 2) (fun v => hcd (gi H1 (A + 1)) v (gi H1 A 3).toNat 0 0) (bnd (cR H1 A) (cW H1 P) (gi H1 A 4).toNat 0 v0) := fun pr S b s hs => by
    obtain ⟨c1, c2⟩ := b s hs
    refine ⟨fun r x r0 r1 x0 x1 => c1 r x r0 r1 x0 (by rw [← hz r r0 r1]; exact x1), fun v hv x hx => ?_⟩
    rw [eB] at hv
    have := c2 v hv x (by rw [erow, ← e2]; exact (hpl _ _ _ RU1.2.1.1 RU1.2.1.2).mp hx)
    rw [ew] at this
    rw [eb pr v (fun r x _ _ => rfl), e2]
    exact this
  have hlb : ∀ (S : (Int → Int → Int) → Prop) (f : Int → Int → Int), LBS S (cW H1 P) f ↔ LBS S (cW h P) f := fun S f => ⟨fun a s hs r x r0 r1 x0 x1 => a s hs r x r0 r1 x0 (by rw [hz r r0 r1]; exact x1), fun a s hs r x r0 r1 x0 x1 => a s hs r x r0 r1 x0 (by rw [← hz r r0 r1]; exact x1)⟩
  have S1' := CSt_s (h' := H1) (S0 := S0) (S1 := S1) (A := A) (P := P) (N := gi H1 A 4) (r := gi H1 A 2) (row := fun v => hcd (gi H1 (A + 1)) v (gi H1 A 3).toNat 0 0) (l := []) RU1.2.1 (h0 := H1) (h := H1) ⟨frVc_refl H1, C1, cmv_refl H1, ⟨(hlb _ _).mpr (fun s hs r x r0 r1 x0 x1 => by rw [(smc_F sb r1).1]; exact L.1 s hs r x r0 r1 x0 x1), (hlb _ _).mpr (fun s hs r x r0 r1 x0 x1 => by rw [(smc_F sb r1).2]; exact L.2 s hs r x r0 r1 x0 x1)⟩, fun w hw => by cases hw⟩ (frVc_refl H1) ⟨fun _ _ _ => rfl, rfl, rfl⟩
  have key := lsp_step (A := A) (P := P) (V := 144) (N := gi H1 A 4) (h0 := H1) (d0 := 3) (B := bnd (cR H1 A) (cW H1 P) (gi H1 A 4).toNat 0 v0)
    (St := fun l h => CSt S0 S1 A P (gi H1 A 4) (gi H1 A 2) (fun v => hcd (gi H1 (A + 1)) v (gi H1 A 3).toNat 0 0) H1 l h) (Bad := fun _ => False)
    (by omega) (SWc K R hP) (fun k k0 k1 q i i0 i1 => by
      rcases GG.2 k k0 k1 with z | z | z
      · exact z.2.2.2.1 i i0 (by have := z.2.2.1; have e : (cR H1 A).2.2.1 k = gi H1 (A + 4) k := rfl; omega)
      · exact z.2.2.2.1 i i0 (by have := z.2.2.1; have e : (cR H1 A).2.2.1 k = gi H1 (A + 4) k := rfl; omega)
      · rcases z.1 with w | w
        · have w : gi H1 (A + 2) k = 2 := w
          omega
        · have w : gi H1 (A + 2) k = 3 := w.1
          omega) (fun k p0 p1 q y y0 y1 => by
      have := hrel k p0 p1 (Or.inl q)
      exact St S _ y this.1 this.2 y0 y1) (AWc K R V) (by rw [q137]; exact j9) (by rw [q137]; exact j10) (by rw [q137]; exact j4) (abfc R)
    (fun l h q => frVc_C q.1) (fun l h h' s q => CSt_s RU1.2.1 s (frVc_q q) (smc_q q)) (fun h h' q _ => q) (fun h q => q.elim)
    (fun d k v l h hd k0 kN s hva Jv hl hB => by
      have hrch : rch d 144 k h = dF d 23 [dR 1 0 144, dI k] h := by
        unfold rch
        rw [if_neg (by omega), if_pos rfl]
      refine ⟨1, h, ?_, Or.inr rfl, hva, fun _ => rfl, rfl, rfl, fun _ => s, fun z => by omega⟩
      have e6 : gr h 144 6 = A := by rw [s.1.2.1, q6]; exact g6
      have e4 : gi h A 4 = gi H1 A 4 := s.1.1 _ _ (by omega) (by omega) (by omega) (by omega) (by omega) (by omega)
      rw [hrch, f23 (by omega), b23_0, e6, e4, if_pos kN])
    (fun d v l h hd s hva Jv hl hB PL => by
      have hrch : rch d 144 (gi H1 A 4) h = dF d 23 [dR 1 0 144, dI (gi H1 A 4)] h := by
        unfold rch
        rw [if_neg (by omega), if_pos rfl]
      obtain ⟨h2, y1, y2, y3, y4⟩ := cvf_N (d := d) (B := bnd (cR H1 A) (cW H1 P) (gi H1 A 4).toNat 0 v0) (by omega) WG1 ⟨rfl, RU1.2.1⟩ k1 (by omega) (fun i i0 i1 => hd_r RU1 (w := v) Jv i0 (by rw [h3] at i1; exact i1)) hps hn1 (fun r r0 r1 x y x0 xy y1 e => by
        obtain ⟨i, _, _, i2⟩ := (V r r0 r1).2.2 x y x0 xy y1
        have e : (cW H1 P).2 r x = (cW H1 P).2 r y := e
        exact i2 (by rw [e])) (SB 0 S0 b0) (SB 1 S1 b1) C1 s hva hB PL
      refine ⟨0, h2, by rw [hrch, y1], Or.inl rfl, ?_, fun i => y3 139 i (by omega), y3 _ _ (by omega), Or.inl ⟨y4, y3 _ _ (by omega)⟩⟩
      rw [← hva]; funext s; unfold va; rw [y3 _ _ (by omega)])
    ⟨(v0_J (cR H1 A)).1, (v0_J (cR H1 A)).2.1, fun s _ ⟨j, j1, j2, _⟩ => by omega⟩ Jst va1 S1' (fun w hw => hw) (by rw [q137]; exact j5) (by rw [q137]; exact j2) (d := d - 1) (by omega)
  obtain ⟨H2, x1, -, x3⟩ := key
  obtain ⟨⟨s1, s2, s3, s4, s5⟩, -⟩ := x3.resolve_right (fun z => z.1)
  have f2 := frO_V s1
  refine ⟨H2, ?_, frO_t fb f2, fun i => by rw [s1.2.1, q6], s2, cmv_t (smc_cmv sb) (cmv_z hz s3), ⟨(hlb _ _).mp s4.1, (hlb _ _).mp s4.2⟩, fun v hv x hx => ?_⟩
  · have e140 : gi H2 140 2 = 0 := by
      rw [s1.1 _ _ (by omega) (by omega) (by omega) (by omega) (by omega) (by omega), eH1]
      exact kbg_140.1
    rw [s154b (by omega) g6 g5, ← eH1, x1, bk_n, b154_51, b154_53, e140, if_neg (by omega)]
  · have := s5 v (by rw [eB]; exact hv) x (by
      show plW (cW H1 P) (gi H1 A 2) (hcd (gi H1 (A + 1)) v (gi H1 A 3).toNat 0 0) x
      rw [← erow, e2]
      exact (hpl _ _ _ (by rw [← e2]; exact RU1.2.1.1) (by rw [← e2]; exact RU1.2.1.2)).mpr hx)
    rw [eb 0 (g := hF H) v (fun r x _ r1 => (smc_F sb r1).1), eb 1 (g := pF H) v (fun r x _ r1 => (smc_F sb r1).2), e2] at this
    rw [ew, ew]
    exact this
end CLL
