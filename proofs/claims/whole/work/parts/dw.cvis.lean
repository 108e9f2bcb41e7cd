/-! COSTS: the bindings of a rule that makes rows one by one -/
section CVF
variable {A P : Nat} {N : Int} {h0 h : dm_H}
/-- what costs touch -/
def frVc (h h' : dm_H) : Prop := (∀ a i, a ≠ 138 → a ≠ 139 → ¬ (a = 137 ∧ (i = 2 ∨ i = 3 ∨ i = 5)) → ¬ (a = 144 ∧ (i = 11 ∨ i = 12 ∨ i = 13)) → ¬ (146 ≤ a ∧ a ≤ 151) → ¬ (153 ≤ a ∧ a ≤ 158) → gi h' a i = gi h a i) ∧ (∀ a i, gr h' a i = gr h a i) ∧ h'.2.2 = h.2.2
theorem frVc_refl (h : dm_H) : frVc h h := ⟨fun _ _ _ _ _ _ _ _ => rfl, fun _ _ => rfl, rfl⟩
theorem frVc_t {h h1 h2 : dm_H} (a : frVc h h1) (b : frVc h1 h2) : frVc h h2 := ⟨fun c i p1 p2 p3 p4 p5 p6 => by rw [b.1 c i p1 p2 p3 p4 p5 p6, a.1 c i p1 p2 p3 p4 p5 p6], fun c i => by rw [b.2.1, a.2.1], by rw [b.2.2, a.2.2]⟩
theorem frVc_q {P : Nat} {h h' : dm_H} (a : Jq P h h') : frVc h h' := ⟨fun c i p1 p2 p3 _ _ _ => a.1.1 c i p1 p2 p3, a.1.2, a.2⟩
theorem frVc_11 {h h' : dm_H} (a : fr11 h h') : frVc h h' := ⟨fun c i _ _ _ p4 _ _ => a.1 c i (by omega), a.2.1, a.2.2⟩
theorem frVc_27 {h h' : dm_H} (a : fr27 h h') : frVc h h' := ⟨fun c i _ _ _ p4 p5 p6 => a.1 c i (by omega) p5 p6, a.2.1, a.2.2⟩
theorem frVc_C {h h' : dm_H} (a : frVc h h') : frC h h' := ⟨fun c i p1 p2 p3 p4 => a.1 c i p2 p3 p4 (by omega) (by omega) (by omega), a.2.1, a.2.2⟩
/-- the cells are the same -/
def smc (h h' : dm_H) : Prop := (∀ a i, (146 ≤ a ∧ a ≤ 151) ∨ (153 ≤ a ∧ a ≤ 158) → gi h' a i = gi h a i) ∧ gi h' 144 13 = gi h 144 13 ∧ gi h' 2 0 = gi h 2 0
theorem smc_F {h h' : dm_H} (e : smc h h') {r x : Int} (hr : r < 6) : hF h' r x = hF h r x ∧ pF h' r x = pF h r x := by
  unfold hF pF
  rw [e.1 _ _ (Or.inl (by omega)), e.1 _ _ (Or.inr (by omega))]
  exact ⟨rfl, rfl⟩
theorem smc_nD {h h' : dm_H} (e : smc h h') : nD h' = nD h := sumI_cg 6 (fun r r0 r1 => sumI_cg 32 (fun x _ _ => by rw [e.1 _ _ (Or.inl (by omega)), e.2.2]))
theorem smc_CC {h h' : dm_H} (e : smc h h') (C : CC h) : CC h' := ⟨fun r x r0 r1 x0 x1 rg => by rw [e.1 _ _ (Or.inl (by omega)), e.1 _ _ (Or.inr (by omega))]; exact C.1 r x r0 r1 x0 x1 (by rw [← e.2.2]; exact rg), fun r x r0 r1 x0 x1 rg => by rw [smc_nD e, e.1 _ _ (Or.inl (by omega))]; exact C.2 r x r0 r1 x0 x1 (by rw [← e.2.2]; exact rg)⟩
theorem smc_cmv {sz : Int → Int} {h h' : dm_H} (e : smc h h') : cmv sz h h' := ⟨fun r x _ r1 _ _ => by have := smc_F e (x := x) r1; omega, fun q => ⟨by rw [← e.2.1]; exact q, fun r x _ r1 _ _ => smc_F e r1⟩, fun q => Or.inl (by rw [← e.2.1]; exact q)⟩
theorem smc_q {P : Nat} {h h' : dm_H} (a : Jq P h h') : smc h h' := ⟨fun c i z => a.1.1 c i (by omega) (by omega) (by omega), a.1.1 _ _ (by omega) (by omega) (by omega), a.1.1 _ _ (by omega) (by omega) (by omega)⟩
theorem smc_11 {h h' : dm_H} (a : fr11 h h') : smc h h' := ⟨fun c i z => a.1 c i (by omega), a.1 _ _ (by omega), a.1 _ _ (by omega)⟩
theorem vcf_F {ω : mW} (C : CC h) (hn : ∀ r x, 0 ≤ r → r < 6 → 0 ≤ x → x < ω.1 r → r < gi h 2 0) (hz : ∀ r, 0 ≤ r → r < 6 → ω.1 r ≤ 32) : vcf ω (hF h) ∧ vcf ω (pF h) := ⟨fun r x r0 r1 x0 x1 => (hF_v C ⟨r0, r1⟩ (hn r x r0 r1 x0 x1) ⟨x0, by have := hz r r0 r1; omega⟩).1, fun r x r0 r1 x0 x1 => (hF_v C ⟨r0, r1⟩ (hn r x r0 r1 x0 x1) ⟨x0, by have := hz r r0 r1; omega⟩).2⟩
theorem lef_cmv {sz : Int → Int} {ω : mW} {h h' : dm_H} (m : cmv sz h h') (hz : ∀ r, 0 ≤ r → r < 6 → ω.1 r ≤ 32) : lef ω (hF h') (hF h) ∧ lef ω (pF h') (pF h) := ⟨fun r x r0 r1 x0 x1 => (m.1 r x r0 r1 x0 (by have := hz r r0 r1; omega)).1, fun r x r0 r1 x0 x1 => (m.1 r x r0 r1 x0 (by have := hz r r0 r1; omega)).2⟩
theorem cmg_nd {M a b : Int} (hb : b = 1000000 ∨ (0 ≤ b ∧ b ≤ M)) (ha : a = 1000000 ∨ (0 ≤ a ∧ a ≤ M)) : cmg 0 b a = 1000000 ∨ (0 ≤ cmg 0 b a ∧ cmg 0 b a ≤ M) := by
  unfold cmg
  split
  · exact Or.inl rfl
  · rw [if_pos rfl]
    split <;> omega
/-- heights of bindings are no more than those of rows -/
theorem bcv_nd {ρ : mR} {ω : mW} {f : Int → Int → Int} {M : Int} (M0 : 0 ≤ M) {v : mA} (hf : ∀ r x, 0 ≤ r → r < 6 → 0 ≤ x → x < ω.1 r → f r x = 1000000 ∨ (0 ≤ f r x ∧ f r x ≤ M)) : ∀ {n : Nat}, psr ρ n → bcv 0 ρ ω f v n = 1000000 ∨ (0 ≤ bcv 0 ρ ω f v n ∧ bcv 0 ρ ω f v n ≤ M)
  | 0, _ => Or.inr ⟨Int.le_refl _, M0⟩
  | n + 1, h => by
    have b := bcv_nd M0 (v := v) hf (n := n) (fun k k0 k1 => h k k0 (by omega))
    have a : (if ρ.1 n = 0 then acv ρ ω f n v else 0) = 1000000 ∨ (0 ≤ (if ρ.1 n = 0 then acv ρ ω f n v else 0) ∧ (if ρ.1 n = 0 then acv ρ ω f n v else 0) ≤ M) := by
      by_cases q : ρ.1 n = 0
      · rw [if_pos q]
        have hs := h n (by omega) (by omega) q
        unfold acv
        rcases mnI_at (P := fun x => ftk (ρ.2.2.2 n) (ρ.2.2.1 n) v (ω.2 (ρ.2.1 n) x)) (g := fun x => f (ρ.2.1 n) x) (ω.1 (ρ.2.1 n)).toNat with z | ⟨x, x0, x1, x2, x3⟩
        · exact Or.inl z
        · rw [← x3]; exact hf _ x hs.1 hs.2 x0 (by omega)
      · rw [if_neg q]; exact Or.inr ⟨Int.le_refl _, M0⟩
    exact cmg_nd b a
theorem hF_nd (C : CC h) {r x : Int} (hr : 0 ≤ r ∧ r < 6) (hg : r < gi h 2 0) (hx : 0 ≤ x ∧ x < 32) : hF h r x = 1000000 ∨ (0 ≤ hF h r x ∧ hF h r x ≤ nD h) := by
  have a := C.1 r x hr.1 hr.2 hx.1 hx.2 hg
  have b := C.2 r x hr.1 hr.2 hx.1 hx.2 hg
  unfold c2v at a
  unfold hF kc
  split
  · exact Or.inl rfl
  · omega
/-- all stable costs lie below -/
def LBS (S : (Int → Int → Int) → Prop) (ω : mW) (f : Int → Int → Int) : Prop := ∀ s, S s → lef ω s f
/-- a stable cost is no more than what the bindings offer -/
def SBf (pr : Int) (S : (Int → Int → Int) → Prop) (ρ : mR) (ω : mW) (N : Int) (r : Int) (row : mA → Int) (B : List mA) : Prop := ∀ s, S s → vcf ω s ∧ ∀ v, v ∈ B → ∀ x, plW ω r (row v) x → s r x ≤ ocv (bcv pr ρ ω s v N.toNat)
theorem plW_e {P : Nat} {h h' : dm_H} (hp : rw_ P) (e : ∀ a i, a < 137 → gi h' a i = gi h a i) {r c x : Int} (hr : 0 ≤ r ∧ r < 6) : plW (cW h' P) r c x ↔ plW (cW h P) r c x := by
  have hP : P = 95 ∨ P = 112 := hp
  unfold plW
  rw [show (cW h' P).1 r = (cW h P).1 r from e _ _ (by omega), show (cW h' P).2 r x = (cW h P).2 r x from e _ _ (by omega)]
/-- costs are found through one rule -/
def CSt (S0 S1 : (Int → Int → Int) → Prop) (A P : Nat) (N : Int) (r : Int) (row : mA → Int) (h0 : dm_H) (l : List mA) (h : dm_H) : Prop := frVc h0 h ∧ CC h ∧ cmv (cW h0 P).1 h0 h ∧ (LBS S0 (cW h0 P) (hF h) ∧ LBS S1 (cW h0 P) (pF h)) ∧ ∀ w, w ∈ l → ∀ x, plW (cW h0 P) r (row w) x → hF h r x ≤ ocv (bcv 0 (cR h0 A) (cW h0 P) (hF h0) w N.toNat) ∧ pF h r x ≤ ocv (bcv 1 (cR h0 A) (cW h0 P) (pF h0) w N.toNat)
theorem CSt_s {S0 S1 : (Int → Int → Int) → Prop} {r : Int} (hr : 0 ≤ r ∧ r < 6) {row : mA → Int} {l : List mA} {h' : dm_H} (s : CSt S0 S1 A P N r row h0 l h) (f : frVc h h') (e : smc h h') : CSt S0 S1 A P N r row h0 l h' := by
  obtain ⟨s1, s2, s3, s4, s5⟩ := s
  refine ⟨frVc_t s1 f, smc_CC e s2, cmv_t s3 (smc_cmv e), ⟨fun t ht a x a0 a1 x0 x1 => ?_, fun t ht a x a0 a1 x0 x1 => ?_⟩, fun w hw x hx => ?_⟩
  · rw [(smc_F e a1).1]; exact s4.1 t ht a x a0 a1 x0 x1
  · rw [(smc_F e a1).2]; exact s4.2 t ht a x a0 a1 x0 x1
  · rw [(smc_F e hr.2).1, (smc_F e hr.2).2]; exact s5 w hw x hx
/-- a binding is weighed and offered -/
theorem cvf_N {S0 S1 : (Int → Int → Int) → Prop} {r : Int} {v : mA} {B l : List mA} {d : Nat} (hd : 3 ≤ d) (W : WG A P N h0) (hr : gi h0 A 2 = r ∧ 0 ≤ r ∧ r < 6) (k0 : gi h0 A 1 = 0) (hn : 0 ≤ gi h0 A 3 ∧ gi h0 A 3 ≤ 3) (ht : ∀ i, 0 ≤ i → i < gi h0 A 3 → 0 ≤ tv v (gi h0 (A + 1) i) ∧ tv v (gi h0 (A + 1) i) ≤ 99) (hps : psr (cR h0 A) N.toNat) (hn0 : ∀ r x, 0 ≤ r → r < 6 → 0 ≤ x → x < rsz h0 P r → r < gi h0 2 0) (dj : ∀ r, 0 ≤ r → r < 6 → ∀ x y, 0 ≤ x → x < y → y < rsz h0 P r → rws h0 P r x ≠ rws h0 P r y)
    (b0 : SBf 0 S0 (cR h0 A) (cW h0 P) N r (fun v => hcd (gi h0 (A + 1)) v (gi h0 A 3).toNat 0 0) B) (b1 : SBf 1 S1 (cR h0 A) (cW h0 P) N r (fun v => hcd (gi h0 (A + 1)) v (gi h0 A 3).toNat 0 0) B)
    (C0 : CC h0) (s : CSt S0 S1 A P N r (fun v => hcd (gi h0 (A + 1)) v (gi h0 A 3).toNat 0 0) h0 l h) (hva : va h 138 = v) (hB : v ∈ B) (PL : PLc h0 A P N v h) :
    ∃ h2, dF d 23 [dR 1 0 144, dI N] h = rI 0 h2 ∧ frVc h h2 ∧ (∀ a i, a < 144 → gi h2 a i = gi h a i) ∧ CSt S0 S1 A P N r (fun v => hcd (gi h0 (A + 1)) v (gi h0 A 3).toNat 0 0) h0 (l ++ [v]) h2 := by
  obtain ⟨s1, s2, s3, s4, s5⟩ := s
  have W0 := W
  obtain ⟨⟨a1, a2⟩, ⟨r1, r2⟩, ⟨c1, c2, c3⟩, w4, w5, w6, w7⟩ := W0
  have hP : P = 95 ∨ P = 112 := r2
  have hA := ru_ne r1
  have lo : ∀ a i, a < 137 → gi h a i = gi h0 a i := fun a i ha => s1.1 a i (by omega) (by omega) (by omega) (by omega) (by omega) (by omega)
  have WH := WG_cg lo (fun i => s1.2.1 144 i) W
  have hz : ∀ r, 0 ≤ r → r < 6 → (cW h0 P).1 r ≤ 32 := fun r p q => (w5 r p q).2
  have hz0 : ∀ r, 0 ≤ r → r < 6 → 0 ≤ rsz h0 P r ∧ rsz h0 P r ≤ 32 := w5
  obtain ⟨H, x1, x2, x3⟩ := s24 (d := d - 1) (h := h) (by omega) WH s2.1 (PLc_h (Int.le_refl _) W lo PL)
  -- over the rows and the rule of h0
  have eb : ∀ pr f, bcv pr (cR h A) (cW h P) f v N.toNat = bcv pr (cR h0 A) (cW h0 P) f v N.toNat := fun pr f => by
    have : ∀ n : Nat, (n : Int) ≤ N → bcv pr (cR h A) (cW h P) f v n = bcv pr (cR h0 A) (cW h0 P) f v n := by
      intro n
      induction n with
      | zero => exact fun _ => rfl
      | succ n ih =>
        intro hn
        show cmg pr (bcv pr (cR h A) (cW h P) f v n) (if gi h (A + 2) n = 0 then acv (cR h A) (cW h P) f n v else 0) = cmg pr (bcv pr (cR h0 A) (cW h0 P) f v n) (if gi h0 (A + 2) n = 0 then acv (cR h0 A) (cW h0 P) f n v else 0)
        rw [ih (by omega), lo _ _ (by omega)]
        by_cases q : gi h0 (A + 2) n = 0
        · rw [if_pos q, if_pos q, acv_e W lo (by omega) q]
        · rw [if_neg q, if_neg q]
    exact this _ (by omega)
  rw [eb, eb] at x3
  have e20 : gi h 2 0 = gi h0 2 0 := lo _ _ (by omega)
  have hn1 : ∀ r x, 0 ≤ r → r < 6 → 0 ≤ x → x < (cW h0 P).1 r → r < gi h 2 0 := fun r x p q y z => by rw [e20]; exact hn0 r x p q y z
  have vv := vcf_F s2 hn1 hz
  have vv0 := vcf_F C0 hn0 hz
  have le0 := lef_cmv s3 hz
  have m0 : bcv 0 (cR h0 A) (cW h0 P) (hF h) v N.toNat ≤ bcv 0 (cR h0 A) (cW h0 P) (hF h0) v N.toNat := bcv_mono vv.1 vv0.1 le0.1 hps
  have m1 : bcv 1 (cR h0 A) (cW h0 P) (pF h) v N.toNat ≤ bcv 1 (cR h0 A) (cW h0 P) (pF h0) v N.toNat := bcv_mono vv.2 vv0.2 le0.2 hps
  have bv0 := bcv_v (pr := 0) (v := v) vv.1 hps
  have bv1 := bcv_v (pr := 1) (v := v) vv.2 hps
  have bv00 := bcv_v (pr := 0) (v := v) vv0.1 hps
  have bv01 := bcv_v (pr := 1) (v := v) vv0.2 hps
  have fH : frVc h H := frVc_11 x2
  have eH : ∀ a i, a < 137 → gi H a i = gi h0 a i := fun a i ha => by rw [x2.1 _ _ (by omega)]; exact lo a i ha
  have c0 : dF d 23 [dR 1 0 144, dI N] h = dL (d - 1) 23 17 [lR 1 0 144, lI N, none, none] [] H := by
    rw [f23 (by omega), b23_0, s1.2.1, a1, lo _ _ hA.1, c1, if_neg (by omega), x1, bk_n]
  have hk : gi H (gr H 144 6) 1 = 0 := by rw [x2.2.1, s1.2.1, a1, eH _ _ hA.1]; exact k0
  rw [c0, b23_17, if_pos hk]
  have grow_ : ∀ h2, cmv (cW h0 P).1 h h2 → CC h2 → ∀ w, w ∈ l → ∀ x, plW (cW h0 P) r (hcd (gi h0 (A + 1)) w (gi h0 A 3).toNat 0 0) x → hF h2 r x ≤ ocv (bcv 0 (cR h0 A) (cW h0 P) (hF h0) w N.toNat) ∧ pF h2 r x ≤ ocv (bcv 1 (cR h0 A) (cW h0 P) (pF h0) w N.toNat) := fun h2 m _ w hw x hx => by
    have := s5 w hw x hx
    have e : (cW h0 P).1 r = rsz h0 P r := rfl
    have := m.1 r x hr.2.1 hr.2.2 hx.1.1 (by have := hx.1.2; have := (w5 r hr.2.1 hr.2.2).2; omega)
    exact ⟨by omega, by omega⟩
  by_cases q : gi H 144 11 = -1
  · have far : bcv 0 (cR h0 A) (cW h0 P) (hF h) v N.toNat = 1000000 ∧ bcv 1 (cR h0 A) (cW h0 P) (pF h) v N.toNat = 1000000 := by
      unfold cod1 at x3
      rcases x3 with z | z
      · exact ⟨z.2.1, z.2.2.1⟩
      · omega
    have e := smc_11 x2
    refine ⟨H, ?_, fH, fun a i ha => x2.1 a i (by omega), CSt_s hr.2 ⟨s1, s2, s3, s4, fun w hw x hx => ?_⟩ fH e⟩
    · rw [if_pos q, b23_81]
    · rcases List.mem_append.mp hw with y | y
      · exact s5 w y x hx
      · rw [List.mem_singleton.mp y]
        have ex : (cW h0 P).1 r = rsz h0 P r := rfl
        have vx := hF_v s2 (r := r) (x := x) hr.2 (hn1 r x hr.2.1 hr.2.2 hx.1.1 hx.1.2) ⟨hx.1.1, by have := hx.1.2; have := (w5 r hr.2.1 hr.2.2).2; omega⟩
        have f0 : bcv 0 (cR h0 A) (cW h0 P) (hF h0) v N.toNat = 1000000 := by unfold vcc at bv00; omega
        have f1 : bcv 1 (cR h0 A) (cW h0 P) (pF h0) v N.toNat = 1000000 := by unfold vcc at bv01; omega
        rw [f0, f1]
        unfold ocv vcc at *
        rw [if_pos rfl]
        omega
  · obtain ⟨⟨z1, z2, z3⟩, z4, z5, z6⟩ := x3.resolve_left (fun z => q z.1)
    have e26 : dF (d - 1) 26 [dR 1 8 A, dR 2 8 138, dI (gi h0 A 3)] H = rI (hcd (gi h0 (A + 1)) v (gi h0 A 3).toNat 0 0) H := by
      have hvH : va H 138 = v := by
        rw [← hva]; funext s; unfold va; rw [x2.1 _ _ (by omega)]
      have e1 : gi H (A + 1) = gi h0 (A + 1) := funext (fun i => eH _ _ (by omega))
      have := s26 (d := d - 1) (by omega) A (gi h0 A 3) H hn (fun i i0 i1 => by rw [hvH, e1]; exact ht i i0 i1)
      rw [hvH, e1] at this
      exact this
    have cH := smc_CC (smc_11 x2) s2
    have nd : bcv 0 (cR h0 A) (cW h0 P) (hF h) v N.toNat ≤ nD h := by
      rcases bcv_nd (ρ := cR h0 A) (ω := cW h0 P) (f := hF h) (M := nD h) (nD_r h).1 (v := v) (fun r x p0 p1 x0 x1 => hF_nd s2 ⟨p0, p1⟩ (hn1 r x p0 p1 x0 x1) ⟨x0, by have := hz r p0 p1; omega⟩) (n := N.toNat) hps with y | y
      · omega
      · exact y.2
    have hzH : 0 ≤ rsz H P r ∧ rsz H P r ≤ 32 := by rw [show rsz H P r = rsz h0 P r from eH _ _ (by omega)]; exact hz0 r hr.2.1 hr.2.2
    obtain ⟨h2, y1, y2, y3, y4, y5, y6⟩ := s27 (d := d - 1) (h := H) (P := P) (r := r) (c := hcd (gi h0 (A + 1)) v (gi h0 A 3).toNat 0 0) (a := gi H 144 11 + 1) (b := gi H 144 12 + 1) (by omega) (by rw [x2.2.1, s1.2.1]; exact a2) cH hr.2 hzH (fun x y0 y1 => by
      rw [show rsz H P r = rsz h0 P r from eH _ _ (by omega)] at y1
      rw [eH 2 0 (by omega)]
      exact hn0 r x hr.2.1 hr.2.2 y0 y1) (fun x y x0 xy y1 => by
      rw [show rws H P r x = rws h0 P r x from eH _ _ (by omega), show rws H P r y = rws h0 P r y from eH _ _ (by omega)]
      rw [show rsz H P r = rsz h0 P r from eH _ _ (by omega)] at y1
      exact dj r hr.2.1 hr.2.2 x y x0 xy y1) (by rw [smc_nD (smc_11 x2)]; omega) (by omega)
    have o0 : ocv (bcv 0 (cR h0 A) (cW h0 P) (hF h) v N.toNat) = gi H 144 11 + 1 := by unfold ocv m9; rw [if_neg (by omega), if_neg (by omega), z1]
    have o1 : ocv (bcv 1 (cR h0 A) (cW h0 P) (pF h) v N.toNat) = m9 (gi H 144 12 + 1) := by unfold ocv; rw [if_neg (by omega), z4]
    have mo0 := ocv_mono bv0 bv00 m0
    have mo1 := ocv_mono bv1 bv01 m1
    rw [o0] at mo0
    rw [o1] at mo1
    have m2 : cmv (cW h0 P).1 h h2 := cmv_t (smc_cmv (smc_11 x2)) (cmv_z (fun r p q => eH _ _ (by omega)) y4)
    have f2 : frVc h h2 := frVc_t fH (frVc_27 y2)
    refine ⟨h2, ?_, f2, fun a i ha => by rw [y2.1 a i (by omega) (by omega) (by omega), x2.1 a i (by omega)], frVc_t s1 f2, y3, cmv_t s3 m2, ⟨fun t ht a x p0 p1 x0 x1 => ?_, fun t ht a x p0 p1 x0 x1 => ?_⟩, fun w hw x hx => ?_⟩
    · rw [if_neg q, x2.2.1, s1.2.1, a1, eH _ _ hA.1, e26, bk_v, b23_56, ck_p (by omega) (by omega), ck_p (by omega) (by omega), x2.2.1, s1.2.1, a1, eH _ _ hA.1, hr.1, y1, bk_n, b23_81]
    · rcases (y6 a x p0 p1).1 with y | ⟨y, yp, ye⟩
      · rw [y, (smc_F (smc_11 x2) p1).1]; exact s4.1 t ht a x p0 p1 x0 x1
      · subst y
        obtain ⟨b01, b02⟩ := b0 t ht
        have yp' := (plW_e r2 eH ⟨p0, p1⟩).mp yp
        have := b02 v hB x yp'
        have mm := bcv_mono (pr := 0) (v := v) b01 vv.1 (s4.1 t ht) hps
        have := ocv_mono (bcv_v (pr := 0) (v := v) b01 hps) bv0 mm
        rw [ye, ← o0]; omega
    · rcases (y6 a x p0 p1).2 with y | ⟨y, yp, ye⟩
      · rw [y, (smc_F (smc_11 x2) p1).2]; exact s4.2 t ht a x p0 p1 x0 x1
      · subst y
        obtain ⟨b01, b02⟩ := b1 t ht
        have yp' := (plW_e r2 eH ⟨p0, p1⟩).mp yp
        have := b02 v hB x yp'
        have mm := bcv_mono (pr := 1) (v := v) b01 vv.2 (s4.2 t ht) hps
        have := ocv_mono (bcv_v (pr := 1) (v := v) b01 hps) bv1 mm
        rw [ye, ← o1]; omega
    · rcases List.mem_append.mp hw with y | y
      · exact grow_ h2 m2 y3 w y x hx
      · rw [List.mem_singleton.mp y] at hx ⊢
        have := y5 x ((plW_e r2 eH hr.2).mpr hx)
        exact ⟨by omega, by omega⟩
end CVF
