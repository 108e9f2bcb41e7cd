/-! COSTS: a rule with groups is gone through -/
section CLG
variable {h H : dm_H} {π : Int → Int}
theorem nD_cmv {sz : Int → Int} {h h' : dm_H} (e : gi h' 2 0 = gi h 2 0) (C : CC h) (m : cmv sz h h') : nD h ≤ nD h' := nD_le e (fun r x r0 r1 x0 x1 rg z => by
  have v := C.1 r x r0 r1 x0 x1 rg
  have l := (m.1 r x r0 r1 x0 x1).1
  unfold c2v at v
  unfold hF kc at l
  rw [if_neg z] at l
  intro q
  rw [if_pos q] at l
  omega)
theorem gcv_nd {ρ : mR} {ω : mW} {f : Int → Int → Int} {M : Int} (M0 : 0 ≤ M) {n : Nat} {gk : mA → Int} {key : Int} (hf : ∀ r x, 0 ≤ r → r < 6 → 0 ≤ x → x < ω.1 r → f r x = 1000000 ∨ (0 ≤ f r x ∧ f r x ≤ M)) (hp : psr ρ n) (l : List mA) : gcv 0 ρ ω f n gk key l = 1000000 ∨ (0 ≤ gcv 0 ρ ω f n gk key l ∧ gcv 0 ρ ω f n gk key l ≤ M) := by
  unfold gcv
  have : ∀ (l : List mA) (a : Int), (a = 1000000 ∨ (0 ≤ a ∧ a ≤ M)) → l.foldl (fun a v => if gk v = key then cmg 0 a (bcv 0 ρ ω f v n) else a) a = 1000000 ∨ (0 ≤ l.foldl (fun a v => if gk v = key then cmg 0 a (bcv 0 ρ ω f v n) else a) a ∧ l.foldl (fun a v => if gk v = key then cmg 0 a (bcv 0 ρ ω f v n) else a) a ≤ M) := by
    intro l
    induction l with
    | nil => exact fun a ha => ha
    | cons v l ih =>
      intro a ha
      rw [List.foldl_cons]
      refine ih _ ?_
      split
      · exact cmg_nd ha (bcv_nd M0 hf hp)
      · exact ha
  exact this l 0 (Or.inr ⟨Int.le_refl _, M0⟩)
theorem s154g {d : Nat} (hd : 10 ≤ d) (I : IN0 π h) (S : still h (gr h 1 8)) (f : frO h H) {j : Int} (j0 : 0 ≤ j) (j1 : j < gi h 13 1) (k0 : gi h (gr h 14 j) 1 = 1 ∨ gi h (gr h 14 j) 1 = 2) (g6 : gr H 144 6 = gr h 14 j) (g5 : gr H 144 5 = gr h 1 8) (C : CC H) {S0 S1 : (Int → Int → Int) → Prop} (b0 : SBr 0 S0 (cK h) (uR h (gr h 14 j)) (cW h (gr h 1 8))) (b1 : SBr 1 S1 (cK h) (uR h (gr h 14 j)) (cW h (gr h 1 8))) (L : LBS S0 (cW h (gr h 1 8)) (hF H) ∧ LBS S1 (cW h (gr h 1 8)) (pF H)) :
    ∃ H', dF d 154 [dR 1 0 144] H = rV H' ∧ LKr S0 S1 (cK h) (uR h (gr h 14 j)) (cW h (gr h 1 8)) H H' := by
  have hP : rw_ (gr h 1 8) := I.2.2.2.2.2.2.2.2.2.1.1
  obtain ⟨A, eA⟩ : ∃ A, gr h 14 j = A := ⟨_, rfl⟩
  obtain ⟨P, eP⟩ : ∃ P, gr h 1 8 = P := ⟨_, rfl⟩
  obtain ⟨H1, eH1⟩ : ∃ H1, H1 = kbg H A P := ⟨_, rfl⟩
  have fb : frO H H1 := by rw [eH1]; exact frO_b
  have f1 := frO_t f fb
  have q6 : ∀ i, gr H1 144 i = gr H 144 i := fun i => by rw [eH1, kbg_gr, if_neg (by omega), bgn_gn (by omega)]
  have at1 := frO_at I f1 j0 j1 (by rw [q6]; exact g6) (by rw [q6]; exact g5)
  have at0 := frO_at I f j0 j1 g6 g5
  rw [eA] at at1 at0 k0 g6 b0 b1 ⊢
  rw [eP] at at1 at0 g5 b0 b1 L S hP ⊢
  obtain ⟨R, K, V, GG, RUh, St, WG1⟩ := at1
  have WG0 := at0.2.2.2.2.2.2
  have lo : ∀ a i, a < 137 → gi H1 a i = gi h a i := fun a i ha => f1.1 a i (Or.inl ha)
  have loH : ∀ a i, a < 137 → gi H1 a i = gi H a i := fun a i ha => fb.1 a i (Or.inl ha)
  have hru := ru_r R.1
  have eu : uR H1 A = uR h A := (uR_cg (fun a i p q _ => lo a i (by omega))).1
  have eR : cR H1 A = cR h A := (uR_cg (fun a i p q _ => lo a i (by omega))).2
  have eK : cK H1 = cK h := by unfold cK; simp only [show ∀ i, gi H1 3 i = gi h 3 i from fun i => lo _ _ (by omega)]
  have k1 : gi H1 A 1 = 1 ∨ gi H1 A 1 = 2 := by rw [lo _ _ (by omega)]; exact k0
  have RU1 := RUh (by omega)
  have D := DC_of K
  have D1 := (D _ RU1.2.1.1 RU1.2.1.2).1
  have h3 : gi H1 A 3 = cK H1 (gi H1 A 2) := by
    obtain ⟨a1, a2⟩ := R.2.1.2.2.2.1 (by omega)
    have := (K.2 (gi H1 A 2) a1.1 (by have := K.1; omega)).2 a1.2
    unfold cK
    rw [if_neg (by omega)]; exact a2
  have D1 : 1 ≤ cK H1 (gi H1 A 2) ∧ cK H1 (gi H1 A 2) ≤ 3 := D1
  obtain ⟨j2, j3, j4, j5, j9, j10⟩ := bgn_j H A P 144
  obtain ⟨n6, n7, n8⟩ := bgn_gr H A P 144
  have q137 : ∀ i, gi H1 137 i = gi (bgn H A P 144) 137 i := fun i => by rw [eH1]; exact kbg_j (Or.inl rfl)
  have r137 : ∀ i, gr H1 137 i = gr (bgn H A P 144) 137 i := fun i => by rw [eH1, kbg_gr, if_neg (by omega)]
  have va1 : va H1 138 = v0 := by
    rw [← bgn_va H A P 144]
    funext s
    unfold va
    rw [eH1, kbg_j (Or.inr rfl)]
  have Jst : Js A P 144 (gi H1 A 4) 0 (-1) H1 H1 := ⟨by rw [r137]; exact n6, by rw [r137]; exact n7, by rw [r137]; exact n8, rfl, fun _ => rfl, fun _ => rfl, fun _ => rfl, fun _ => rfl, fun _ => rfl, by rw [q137]; exact j9, by rw [q137]; exact j10, fun r r0 r1 => (V r r0 r1).1, fun r p r0 r1 p0 p1 => ((V r r0 r1).2.1 p p0 p1).1⟩
  have sb : smc H H1 := by rw [eH1]; exact smc_b
  have C1 := smc_CC sb C
  -- over h's rows
  have hpl : ∀ r c x, 0 ≤ r → r < 6 → (plW (cW H1 P) r c x ↔ plW (cW h P) r c x) := fun r c x r0 r1 => plW_e hP lo ⟨r0, r1⟩
  have hz : ∀ r, 0 ≤ r → r < 6 → (cW H1 P).1 r = (cW h P).1 r := fun r r0 r1 => lo _ _ (by have : P = 95 ∨ P = 112 := hP; omega)
  have WGh : WG A P (gi H1 A 4) H1 := WG1
  have eW : eqW (cW h P) (cW H1 P) := cW_far hP (fun a i p q => lo a i (by have : P = 95 ∨ P = 112 := hP; omega))
  have hnh : ∀ r x, 0 ≤ r → r < 6 → 0 ≤ x → x < (cW h P).1 r → r < gi h 2 0 := fun r x r0 r1 x0 x1 => by
    have := IN0_hn I r x r0 r1 x0
    rw [eP] at this
    exact this x1
  have eH20 : gi H 2 0 = gi h 2 0 := f.1 2 0 (by omega)
  have hnH : ∀ r x, 0 ≤ r → r < 6 → 0 ≤ x → x < (cW h P).1 r → r < gi H 2 0 := fun r x r0 r1 x0 x1 => by rw [eH20]; exact hnh r x r0 r1 x0 x1
  have hrel : ∀ k, 0 ≤ k → k < gi H1 A 4 → (cR H1 A).1 k = 0 ∨ (cR H1 A).1 k = 1 → 0 ≤ (cR H1 A).2.1 k ∧ (cR H1 A).2.1 k < 6 := fun k p q z => by
    rcases GG.2 k p q with w | w | w
    · exact w.2.1
    · exact w.2.1
    · rcases w.1 with y | y
      · omega
      · have := y.1; omega
  have hps : psr (cR H1 A) (gi H1 A 4).toNat := fun k p q z => hrel k p (by have := GG.1; omega) (Or.inl z)
  have eB : bnd (cR H1 A) (cW H1 P) (gi H1 A 4).toNat 0 v0 = bnds (uR h A) (cW h P) := by
    rw [← eu]
    exact bnd_eqW (N := gi H1 A 4) eW hrel _ 0 v0 (by omega) (by have := GG.1; omega)
  have eb : ∀ pr {f g : Int → Int → Int} v, (∀ r x, 0 ≤ r → r < 6 → f r x = g r x) → bcv pr (cR H1 A) (cW H1 P) f v (gi H1 A 4).toNat = bcv pr (uR h A).2.2.2.1 (cW h P) g v (uR h A).2.2.2.2.toNat := fun pr f g v e => by
    have W2 : WG A P (gi H1 A 4) H1 := WG1
    show _ = bcv pr (cR h A) (cW h P) g v (gi h A 4).toNat
    rw [← lo A 4 (by omega)]
    exact (bcv_e (h := H1) (h' := h) WG1 (fun a i ha => (lo a i ha).symm) (fun r x r0 r1 => (e r x r0 r1).symm) pr v).symm
  have u0 : ¬ (uR h A).1 = 0 := by show ¬ gi h A 1 = 0; omega
  have ew : ∀ pr (f : Int → Int → Int) v, wcost pr (cK h) (uR h A) (cW h P) f v = gcv pr (uR h A).2.2.2.1 (cW h P) f (uR h A).2.2.2.2.toNat (gkv (cK h) (uR h A)) (gkv (cK h) (uR h A) v) (bnds (uR h A) (cW h P)) := fun pr f v => if_neg u0
  have erow : ∀ v, wrow (cK h) (uR h A) (cW h P) v = grow (cK h) (uR h A) (cW h P) (gkv (cK h) (uR h A) v) := fun v => if_neg u0
  have e2 : gi H1 A 2 = (uR h A).2.1 := lo _ _ (by omega)
  have hlb : ∀ (S : (Int → Int → Int) → Prop) (f : Int → Int → Int), LBS S (cW H1 P) f ↔ LBS S (cW h P) f := fun S f => ⟨fun a s hs r x r0 r1 x0 x1 => a s hs r x r0 r1 x0 (by rw [hz r r0 r1]; exact x1), fun a s hs r x r0 r1 x0 x1 => a s hs r x r0 r1 x0 (by rw [← hz r r0 r1]; exact x1)⟩
  have ek : (uR H1 A).1 = 1 ∨ (uR H1 A).1 = 2 := k1
  have hcl : ∀ c, mkd (cK h) (uR h A) (cW h P) c → cov (cK h) (gi h 4) (cW h P) (uR h A).2.1 c := by
    have g0 := I.2.2.2.2.2.2.2.2.2.2.2.2.2.2.2
    rw [eP] at g0
    have l12 := (lay12 I).1 _ (show 0 ≤ (uR h A).2.1 by rw [← eu]; exact RU1.2.1.1) (by rw [← eu]; exact RU1.2.1.2)
    exact (g0.2 _ l12.1 l12.2).1.2 (uR h A) ⟨j, j0, j1, by rw [eA]; omega, by rw [eA]⟩ trivial rfl
  have VH : VW (cK h) (gi h 4) (cW h P) := by
    have := I.2.2.2.2.2.2.2.2.2.2.2.2.2.2.2.1
    rw [eP] at this; exact this
  have RUh0 : RU (cK h) (gi h 4) (gi h 7) (ocL (RLc h)) (uR h A) := (lay12 I).2.2 _ ⟨j, j0, j1, by rw [eA]; omega, by rw [eA]⟩
  have Dh := DC_of I.1.1
  have hJ : ∀ v, v ∈ bnds (uR h A) (cW h P) → Jg (uR h A).2.2.2.1 (uR h A).2.2.2.2 v := fun v hv => bnds_J (RU_GW Dh RUh0 VH) hv
  have nt : ¬ tmg (cK H1) (uR H1 A) (bnd (cR H1 A) (cW H1 P) (gi H1 A 4).toNat 0 v0) := by
    rw [eu, eK, eB]
    exact tmg_no Dh RUh0 VH u0 (fun w hw => hw) hcl
  have ham : ∀ w, w ∈ bnd (cR H1 A) (cW H1 P) (gi H1 A 4).toNat 0 v0 → 0 ≤ gam (cK H1) (uR H1 A) w := fun w hw => by
    rw [eB] at hw
    rw [eu, eK]
    exact (gam_r (Dh _ RUh0.2.1.1 RUh0.2.1.2).1.1 (fun i i0 i1 => hd_r RUh0 (hJ w hw) i0 i1)).1
  have UU : GU (cK H1) (uR H1 A) A H1 := ⟨by rw [eH1, kbg_gr, if_pos ⟨rfl, rfl⟩], h3, fun i => rfl, rfl, k1, D1⟩
  have z140 : gi H1 140 2 = 0 ∧ ∀ x, 0 ≤ x → x < 32 → gi H1 159 x = 0 ∧ gi H1 160 x = 0 := by rw [eH1]; exact kbg_140
  have key := lsp_step (A := A) (P := P) (V := 144) (N := gi H1 A 4) (h0 := H1) (d0 := 3) (B := bnd (cR H1 A) (cW H1 P) (gi H1 A 4).toNat 0 v0)
    (St := fun l h => CGt A P (gi H1 A 4) H1 l h) (Bad := fun _ => False)
    (by omega) (SWc K R hP) (fun k k0 k1 q i i0 i1 => by
      rcases GG.2 k k0 k1 with z | z | z
      · exact z.2.2.2.1 i i0 (by have := z.2.2.1; have e : (cR H1 A).2.2.1 k = gi H1 (A + 4) k := rfl; omega)
      · exact z.2.2.2.1 i i0 (by have := z.2.2.1; have e : (cR H1 A).2.2.1 k = gi H1 (A + 4) k := rfl; omega)
      · rcases z.1 with w | w
        · have w : gi H1 (A + 2) k = 2 := w
          omega
        · have w : gi H1 (A + 2) k = 3 := w.1
          omega) (fun k p0 p1 q y y0 y1 => by
      have := hrel k p0 p1 (Or.inl q)
      exact St S _ y this.1 this.2 y0 y1) (AWc K R V) (by rw [q137]; exact j9) (by rw [q137]; exact j10) (by rw [q137]; exact j4) (abfc R)
    (fun l h q => frGc_C q.1) (fun l h h' s q => ⟨frGc_t s.1 (frGc_q q), GR_cg (fun a i z => q.1.1 a i (by omega) (by omega) (by omega)) s.2.1, fun x p z => by
      rw [q.1.1 140 2 (by omega) (by omega) (by omega), q.1.1 159 x (by omega) (by omega) (by omega), q.1.1 160 x (by omega) (by omega) (by omega), q.1.1 141 x (by omega) (by omega) (by omega)]
      exact s.2.2 x p z⟩) (fun h h' q _ => q) (fun h q => q.elim)
    (fun d k v l h hd k0 kN s hva Jv hl hB => by
      have hrch : rch d 144 k h = dF d 23 [dR 1 0 144, dI k] h := by
        unfold rch
        rw [if_neg (by omega), if_pos rfl]
      refine ⟨1, h, ?_, Or.inr rfl, hva, fun _ => rfl, rfl, rfl, fun _ => s, fun z => by omega⟩
      have e6 : gr h 144 6 = A := by rw [s.1.2.1, q6]; exact g6
      have e4 : gi h A 4 = gi H1 A 4 := s.1.1 _ _ (by omega) (by omega) (by omega) (by omega) (by omega) (by omega) (by omega) (by omega) (by omega)
      rw [hrch, f23 (by omega), b23_0, e6, e4, if_pos kN])
    (fun d v l h hd s hva Jv hl hB PL => by
      have hrch : rch d 144 (gi H1 A 4) h = dF d 23 [dR 1 0 144, dI (gi H1 A 4)] h := by
        unfold rch
        rw [if_neg (by omega), if_pos rfl]
      obtain ⟨h2, y1, y3, y4⟩ := cvg_N (d := d) (B := bnd (cR H1 A) (cW H1 P) (gi H1 A 4).toNat 0 v0) (by omega) WG1 UU (fun i i0 i1 => hd_r RU1 (w := v) Jv i0 i1) nt hl ham C1.1 s hva hB PL
      refine ⟨0, h2, by rw [hrch, y1], Or.inl rfl, ?_, fun i => y3 139 i (by omega), y3 _ _ (by omega), Or.inl ⟨y4, y3 _ _ (by omega)⟩⟩
      rw [← hva]; funext s; unfold va; rw [y3 _ _ (by omega)])
    ⟨(v0_J (cR H1 A)).1, (v0_J (cR H1 A)).2.1, fun s _ ⟨j, j1, j2, _⟩ => by omega⟩ Jst va1 ⟨frGc_refl H1, GR_0 z140.1, fun x x0 x1 => ⟨fun q => by have := z140.1; omega, fun _ => z140.2 x x0 x1⟩⟩ (fun w hw => hw) (by rw [q137]; exact j5) (by rw [q137]; exact j2) (d := d - 1) (by omega)
  obtain ⟨H2, x1, -, x3⟩ := key
  obtain ⟨⟨s1, s2, s3⟩, -⟩ := x3.resolve_right (fun z => z.1)
  rw [eu, eK, eB] at s2 s3
  have sm2 := smc_Gc s1
  have C2 := smc_CC sm2 C1
  have L2 : LBS S0 (cW h P) (hF H2) ∧ LBS S1 (cW h P) (pF H2) := ⟨fun s hs r x r0 r1 x0 x1 => by rw [(smc_F sm2 r1).1, (smc_F sb r1).1]; exact L.1 s hs r x r0 r1 x0 x1, fun s hs r x r0 r1 x0 x1 => by rw [(smc_F sm2 r1).2, (smc_F sb r1).2]; exact L.2 s hs r x r0 r1 x0 x1⟩
  have hpsh : psr (uR h A).2.2.2.1 (uR h A).2.2.2.2.toNat := by
    rw [← eu]; exact hps
  have hz32 : ∀ r, 0 ≤ r → r < 6 → (cW h P).1 r ≤ 32 := fun r r0 r1 => (VH r r0 r1).1.2
  -- what groups cost, over the costs at the start
  have eg : ∀ pr {f g : Int → Int → Int} key, (∀ r x, 0 ≤ r → r < 6 → f r x = g r x) → gcv pr (cR H1 A) (cW H1 P) f (gi H1 A 4).toNat (gkv (cK h) (uR h A)) key (bnds (uR h A) (cW h P)) = gcv pr (uR h A).2.2.2.1 (cW h P) g (uR h A).2.2.2.2.toNat (gkv (cK h) (uR h A)) key (bnds (uR h A) (cW h P)) := fun pr f g key e => by
    show _ = gcv pr (cR h A) (cW h P) g (gi h A 4).toNat _ _ _
    rw [← lo A 4 (by omega)]
    exact (gcv_e (h := H1) (h' := h) WG1 (fun a i ha => (lo a i ha).symm) (fun r x r0 r1 => (e r x r0 r1).symm) pr _).symm
  have s3' : ∀ x, 0 ≤ x → x < gi H2 140 2 → cod1 (gi H2 159 x) (gi H2 160 x) (gcv 0 (uR h A).2.2.2.1 (cW h P) (hF H) (uR h A).2.2.2.2.toNat (gkv (cK h) (uR h A)) (gi H2 141 x) (bnds (uR h A) (cW h P))) (gcv 1 (uR h A).2.2.2.1 (cW h P) (pF H) (uR h A).2.2.2.2.toNat (gkv (cK h) (uR h A)) (gi H2 141 x) (bnds (uR h A) (cW h P))) := fun x x0 x1 => by
    have := (s3 x x0 (by have := s2.1; omega)).1 x1
    rw [eg 0 _ (fun r x _ r1 => (smc_F sb r1).1), eg 1 _ (fun r x _ r1 => (smc_F sb r1).2)] at this
    exact this
  have vF := vcf_F (ω := cW h P) C hnH hz32
  have cs : dF d 154 [dR 1 0 144] H = dL (d - 1) 154 53 [lR 1 0 144, lI 0] [] H2 := by
    rw [s154b (by omega) g6 g5, ← eH1, x1, bk_n, b154_51]
  have lo2 : ∀ a i, a < 137 → gi H2 a i = gi h a i := fun a i ha => by rw [(frO_G s1).1 a i (Or.inl ha)]; exact lo a i ha
  have hkv : ∀ x, 0 ≤ x → x < gi H2 140 2 → vcd (cK h (uR h A).2.1 - 1) (gi H2 141 x) ∧ ∃ v, v ∈ bnds (uR h A) (cW h P) ∧ gkv (cK h) (uR h A) v = gi H2 141 x := fun x x0 x1 => by
    obtain ⟨⟨v, v1, v2⟩, -⟩ := s2.2.2.1 x x0 x1
    have Dc := (Dh _ RUh0.2.1.1 RUh0.2.1.2).1
    refine ⟨?_, v, v1, v2⟩
    rw [← v2]
    exact (hcd_cv (t := (uR h A).2.2.1) (v := v) (n := cK h (uR h A).2.1 - 1) (by omega) (fun i i0 i1 => hd_r RUh0 (hJ v v1) i0 (by omega))).2
  have Dc := (Dh _ RUh0.2.1.1 RUh0.2.1.2).1
  have loop : ∀ (m : Nat) (x : Int) (Hx : dm_H), 0 ≤ x → x + m = gi H2 140 2 → fr27 H2 Hx → CC Hx → cmv (cW h P).1 H2 Hx → (LBS S0 (cW h P) (hF Hx) ∧ LBS S1 (cW h P) (pF Hx)) → (∀ y, 0 ≤ y → y < x → ∀ z, plW (cW h P) (uR h A).2.1 (grow (cK h) (uR h A) (cW h P) (gi H2 141 y)) z → hF Hx (uR h A).2.1 z ≤ ocv (gcv 0 (uR h A).2.2.2.1 (cW h P) (hF H) (uR h A).2.2.2.2.toNat (gkv (cK h) (uR h A)) (gi H2 141 y) (bnds (uR h A) (cW h P))) ∧ pF Hx (uR h A).2.1 z ≤ ocv (gcv 1 (uR h A).2.2.2.1 (cW h P) (pF H) (uR h A).2.2.2.2.toNat (gkv (cK h) (uR h A)) (gi H2 141 y) (bnds (uR h A) (cW h P)))) → ∃ H', dL (d - 1) 154 53 [lR 1 0 144, lI x] [] Hx = rV H' ∧ fr27 H2 H' ∧ CC H' ∧ cmv (cW h P).1 H2 H' ∧ (LBS S0 (cW h P) (hF H') ∧ LBS S1 (cW h P) (pF H')) ∧ (∀ y, 0 ≤ y → y < gi H2 140 2 → ∀ z, plW (cW h P) (uR h A).2.1 (grow (cK h) (uR h A) (cW h P) (gi H2 141 y)) z → hF H' (uR h A).2.1 z ≤ ocv (gcv 0 (uR h A).2.2.2.1 (cW h P) (hF H) (uR h A).2.2.2.2.toNat (gkv (cK h) (uR h A)) (gi H2 141 y) (bnds (uR h A) (cW h P))) ∧ pF H' (uR h A).2.1 z ≤ ocv (gcv 1 (uR h A).2.2.2.1 (cW h P) (pF H) (uR h A).2.2.2.2.toNat (gkv (cK h) (uR h A)) (gi H2 141 y) (bnds (uR h A) (cW h P)))) := by
    intro m
    induction m with
    | zero =>
      intro x Hx x0 xm fx cx mx lx gx
      refine ⟨Hx, ?_, fx, cx, mx, lx, fun y y0 y1 => gx y y0 (by omega)⟩
      rw [b154_53, fx.1 140 2 (by omega) (by omega) (by omega), if_neg (by omega)]
    | succ m ih =>
      intro x Hx x0 xm fx cx mx lx gx
      have x32 : x < 32 := by have := s2.1; omega
      have c := s3' x x0 (by omega)
      have e159 : gi Hx 159 x = gi H2 159 x ∧ gi Hx 160 x = gi H2 160 x := ⟨fx.1 _ _ (by omega) (by omega) (by omega), fx.1 _ _ (by omega) (by omega) (by omega)⟩
      have vX : ∀ z, plW (cW h P) (uR h A).2.1 (grow (cK h) (uR h A) (cW h P) (gi H2 141 x)) z → vcc (hF Hx (uR h A).2.1 z) ∧ vcc (pF Hx (uR h A).2.1 z) := fun z hz => hF_v cx RUh0.2.1 (by rw [fx.1 2 0 (by omega) (by omega) (by omega), lo2 2 0 (by omega)]; exact hnh _ z RUh0.2.1.1 RUh0.2.1.2 hz.1.1 hz.1.2) ⟨hz.1.1, by have := hz.1.2; have := hz32 _ RUh0.2.1.1 RUh0.2.1.2; omega⟩
      have hgo : ∀ H', fr27 Hx H' → CC H' → cmv (cW h P).1 Hx H' → (LBS S0 (cW h P) (hF H') ∧ LBS S1 (cW h P) (pF H')) → (∀ z, plW (cW h P) (uR h A).2.1 (grow (cK h) (uR h A) (cW h P) (gi H2 141 x)) z → hF H' (uR h A).2.1 z ≤ ocv (gcv 0 (uR h A).2.2.2.1 (cW h P) (hF H) (uR h A).2.2.2.2.toNat (gkv (cK h) (uR h A)) (gi H2 141 x) (bnds (uR h A) (cW h P))) ∧ pF H' (uR h A).2.1 z ≤ ocv (gcv 1 (uR h A).2.2.2.1 (cW h P) (pF H) (uR h A).2.2.2.2.toNat (gkv (cK h) (uR h A)) (gi H2 141 x) (bnds (uR h A) (cW h P)))) → ∃ H'', dL (d - 1) 154 109 [lR 1 0 144, lI x] [] H' = rV H'' ∧ fr27 H2 H'' ∧ CC H'' ∧ cmv (cW h P).1 H2 H'' ∧ (LBS S0 (cW h P) (hF H'') ∧ LBS S1 (cW h P) (pF H'')) ∧ (∀ y, 0 ≤ y → y < gi H2 140 2 → ∀ z, plW (cW h P) (uR h A).2.1 (grow (cK h) (uR h A) (cW h P) (gi H2 141 y)) z → hF H'' (uR h A).2.1 z ≤ ocv (gcv 0 (uR h A).2.2.2.1 (cW h P) (hF H) (uR h A).2.2.2.2.toNat (gkv (cK h) (uR h A)) (gi H2 141 y) (bnds (uR h A) (cW h P))) ∧ pF H'' (uR h A).2.1 z ≤ ocv (gcv 1 (uR h A).2.2.2.1 (cW h P) (pF H) (uR h A).2.2.2.2.toNat (gkv (cK h) (uR h A)) (gi H2 141 y) (bnds (uR h A) (cW h P)))) := by
        intro H' f' c' m' l' g'
        rw [b154_109, ck_p (by omega) (by omega)]
        refine ih (x + 1) H' (by omega) (by omega) (fr27_t fx f') c' (cmv_t mx m') l' (fun y y0 y1 z hz => ?_)
        by_cases e : y = x
        · rw [e] at hz ⊢; exact g' z hz
        · have := gx y y0 (by omega) z hz
          have := m'.1 _ z RUh0.2.1.1 RUh0.2.1.2 hz.1.1 (by have := hz.1.2; have := hz32 _ RUh0.2.1.1 RUh0.2.1.2; omega)
          exact ⟨by omega, by omega⟩
      rw [b154_53, fx.1 140 2 (by omega) (by omega) (by omega), if_pos (by omega), ix_p x0 x32, e159.1]
      by_cases q : gi H2 159 x = -1
      · rw [if_pos q]
        refine hgo Hx (fr27_refl Hx) cx (cmv_refl Hx) lx (fun z hz => ?_)
        have far := c.resolve_right (fun z => by omega)
        have v := vX z hz
        unfold vcc at v
        rw [far.2.1, far.2.2.1]
        unfold ocv
        rw [if_pos rfl]
        omega
      · obtain ⟨⟨c1, c2, c3⟩, c4, c5, c6⟩ := c.resolve_left (fun z => q z.1)
        have e144 : gr Hx 144 6 = A ∧ gr Hx 144 5 = P ∧ gr Hx 140 1 = A := by
          rw [fx.2.1, fx.2.1, fx.2.1, s1.2.1, s1.2.1, s1.2.1, q6, q6]
          exact ⟨g6, g5, UU.1⟩
        have eX : ∀ a i, a < 137 ∨ (140 ≤ a ∧ a ≤ 142) → gi Hx a i = gi H2 a i := fun a i ha => fx.1 a i (by omega) (by omega) (by omega)
        obtain ⟨kv, v, v1, v2⟩ := hkv x x0 (by omega)
        have t142 : 0 ≤ gi H2 142 x ∧ gi H2 142 x ≤ 99 := by
          rw [(s2.2.2.1 x x0 (by omega)).2]
          exact m99_r (gsm_nn (fun w hw => (gam_r Dc.1 (fun i i0 i1 => hd_r RUh0 (hJ w hw) i0 i1)).1))
        have e64 : dF (d - 1) 64 [dR 1 4 140, dI x] Hx = rI (grow (cK h) (uR h A) (cW h P) (gi H2 141 x)) Hx := by
          have := s64 (d := d - 1) (h := Hx) (A := A) (n := cK h (uR h A).2.1) (x := x) (by omega) e144.2.2 (by rw [eX _ _ (Or.inl (by omega)), lo2 _ _ (by omega)]; have := h3; rw [eK, lo _ _ (by omega), lo _ _ (by omega)] at this; exact this) Dc ⟨x0, by rw [eX _ _ (by omega)]; omega⟩ (by rw [eX _ _ (by omega)]; have := s2.1; omega) (by rw [eX _ _ (by omega)]; exact kv.1) (by rw [eX _ _ (by omega)]; exact t142)
          rw [this, eX 141 x (by omega), eX 142 x (by omega), (s2.2.2.1 x x0 (by omega)).2]
          rfl
        have nd2 : nD H ≤ nD Hx := by
          have a1 : nD H2 = nD H := by rw [smc_nD sm2, smc_nD sb]
          have a2 := nD_cmv (fx.1 2 0 (by omega) (by omega) (by omega)) C2 mx
          omega
        have nd : gcv 0 (uR h A).2.2.2.1 (cW h P) (hF H) (uR h A).2.2.2.2.toNat (gkv (cK h) (uR h A)) (gi H2 141 x) (bnds (uR h A) (cW h P)) ≤ nD H := by
          rcases gcv_nd (ρ := (uR h A).2.2.2.1) (ω := cW h P) (f := hF H) (M := nD H) (nD_r H).1 (gk := gkv (cK h) (uR h A)) (key := gi H2 141 x) (fun r y p0 p1 y0 y1 => hF_nd C ⟨p0, p1⟩ (hnH r y p0 p1 y0 y1) ⟨y0, by have := hz32 r p0 p1; omega⟩) hpsh (bnds (uR h A) (cW h P)) with w | w
          · omega
          · exact w.2
        have hPn : P = 95 ∨ P = 112 := hP
        have eXh : ∀ a i, a < 137 → gi Hx a i = gi h a i := fun a i ha => by rw [eX a i (Or.inl ha)]; exact lo2 a i ha
        obtain ⟨h2, y1, y2, y3, y4, y5, y6⟩ := s27 (d := d - 1) (h := Hx) (P := P) (r := (uR h A).2.1) (c := grow (cK h) (uR h A) (cW h P) (gi H2 141 x)) (a := gi Hx 159 x + 1) (b := gi Hx 160 x + 1) (by omega) e144.2.1 cx RUh0.2.1 (by rw [show rsz Hx P (uR h A).2.1 = rsz h P (uR h A).2.1 from eXh _ _ (by omega)]; exact (VH _ RUh0.2.1.1 RUh0.2.1.2).1) (fun a a0 a1 => by
          have := RUh0.2.1
          rw [show rsz Hx P (uR h A).2.1 = rsz h P (uR h A).2.1 from eXh _ _ (by omega)] at a1
          rw [eXh 2 0 (by omega)]
          exact hnh _ a RUh0.2.1.1 RUh0.2.1.2 a0 a1) (fun a b a0 ab b1 e => by
          have := RUh0.2.1
          rw [show rws Hx P (uR h A).2.1 a = (cW h P).2 (uR h A).2.1 a from eXh _ _ (by omega), show rws Hx P (uR h A).2.1 b = (cW h P).2 (uR h A).2.1 b from eXh _ _ (by omega)] at e
          rw [show rsz Hx P (uR h A).2.1 = rsz h P (uR h A).2.1 from eXh _ _ (by omega)] at b1
          obtain ⟨i, _, _, i2⟩ := (VH _ RUh0.2.1.1 RUh0.2.1.2).2.2 a b a0 ab b1
          exact i2 (by rw [e])) (by rw [e159.1]; omega) (by rw [e159.2]; omega)
        rw [e159.1, e159.2] at y1 y5 y6
        have o0 : ocv (gcv 0 (uR h A).2.2.2.1 (cW h P) (hF H) (uR h A).2.2.2.2.toNat (gkv (cK h) (uR h A)) (gi H2 141 x) (bnds (uR h A) (cW h P))) = gi H2 159 x + 1 := by unfold ocv m9; rw [if_neg (by omega), if_neg (by omega), c1]
        have o1 : ocv (gcv 1 (uR h A).2.2.2.1 (cW h P) (pF H) (uR h A).2.2.2.2.toNat (gkv (cK h) (uR h A)) (gi H2 141 x) (bnds (uR h A) (cW h P))) = m9 (gi H2 160 x + 1) := by unfold ocv; rw [if_neg (by omega), c4]
        have hplX : ∀ r c z, 0 ≤ r → r < 6 → (plW (cW Hx P) r c z ↔ plW (cW h P) r c z) := fun r c z r0 r1 => plW_e hP eXh ⟨r0, r1⟩
        have hst : ∀ pr (S : (Int → Int → Int) → Prop) (F : Int → Int → Int), SBr pr S (cK h) (uR h A) (cW h P) → LBS S (cW h P) F → vcf (cW h P) F → ∀ s, S s → ∀ z, plW (cW h P) (uR h A).2.1 (grow (cK h) (uR h A) (cW h P) (gi H2 141 x)) z → s (uR h A).2.1 z ≤ ocv (gcv pr (uR h A).2.2.2.1 (cW h P) F (uR h A).2.2.2.2.toNat (gkv (cK h) (uR h A)) (gi H2 141 x) (bnds (uR h A) (cW h P))) := fun pr S F b l vF s hs z hz => by
          obtain ⟨b01, b02⟩ := b s hs
          have := b02 v v1 z (by rw [erow, v2]; exact hz)
          rw [ew, v2] at this
          exact Int.le_trans this (ocv_mono (gcv_v b01 hpsh _) (gcv_v vF hpsh _) (gcv_mono b01 vF (l s hs) hpsh _))
        have := hgo h2 y2 y3 (cmv_z (fun r p q => eXh _ _ (by omega)) y4) ⟨fun s hs r z r0 r1 z0 z1 => by
          rcases (y6 r z r0 r1).1 with w | ⟨w, wp, we⟩
          · rw [w]; exact lx.1 s hs r z r0 r1 z0 z1
          · rw [we, ← o0, w]
            exact hst 0 S0 _ b0 L.1 vF.1 s hs z ((hplX _ _ _ RUh0.2.1.1 RUh0.2.1.2).mp wp), fun s hs r z r0 r1 z0 z1 => by
          rcases (y6 r z r0 r1).2 with w | ⟨w, wp, we⟩
          · rw [w]; exact lx.2 s hs r z r0 r1 z0 z1
          · rw [we, ← o1, w]
            exact hst 1 S1 _ b1 L.2 vF.2 s hs z ((hplX _ _ _ RUh0.2.1.1 RUh0.2.1.2).mp wp)⟩ (fun z hz => by
          have := y5 z ((hplX _ _ _ RUh0.2.1.1 RUh0.2.1.2).mpr hz)
          rw [o0, o1]; exact this)
        obtain ⟨H'', w1, w2⟩ := this
        refine ⟨H'', ?_, w2⟩
        rw [if_neg q, e144.1, e64, bk_v, b154_90, ix_p x0 x32, e159.1, ck_p (by omega) (by omega), ix_p x0 x32, e159.2, ck_p (by omega) (by omega), show gi Hx A 2 = (uR h A).2.1 from eXh _ _ (by omega), y1, bk_n, w1]
  obtain ⟨H', y1, y2, y3, y4, y5, y6⟩ := loop (gi H2 140 2).toNat 0 H2 (by omega) (by have := s2.1; omega) (fr27_refl H2) C2 (cmv_refl H2) L2 (fun y y0 y1 => by omega)
  refine ⟨H', by rw [cs, y1], frO_t fb (frO_t (frO_G s1) (frO_27 y2)), fun i => by rw [y2.2.1, s1.2.1, q6], y3, cmv_t (smc_cmv sb) (cmv_t (smc_cmv sm2) y4), y5, fun v hv x hx => ?_⟩
  obtain ⟨y, p0, p1, p2⟩ := s2.2.2.2 v hv
  rw [ew, ew, ← p2]
  rw [erow, ← p2] at hx
  exact y6 y p0 p1 x hx
end CLG
