/-! THE REFERENCE FINDS ALL THAT FOLLOWS -/
/-- what finding all touches -/
def frF (h h' : dm_H) : Prop := (∀ a i, ¬ (175 ≤ a ∧ a ≤ 180) → ¬ (185 ≤ a ∧ a ≤ 190) → ¬ (a = 165 ∧ 27 ≤ i ∧ i ≤ 34) → gi h' a i = gi h a i) ∧ (∀ a i, gr h' a i = gr h a i) ∧ h'.2.2 = h.2.2
theorem frF_refl (h : dm_H) : frF h h := ⟨fun _ _ _ _ _ => rfl, fun _ _ => rfl, rfl⟩
theorem frF_trans {h h1 h2 : dm_H} (a : frF h h1) (b : frF h1 h2) : frF h h2 := ⟨fun c i p q r => by rw [b.1 c i p q r, a.1 c i p q r], fun c i => by rw [b.2.1, a.2.1], by rw [b.2.2, a.2.2]⟩
theorem frF_L {h h' : dm_H} (a : frL h h') : frF h h' := ⟨fun c i p q r => a.1 c i (by omega) q r, a.2.1, a.2.2⟩
theorem UR_c {cl kd : Int → Int} {u : mU} {p : Int} {h h' : dm_H} (e172 : ∀ i, gi h' 172 i = gi h 172 i) (e166 : ∀ i, gi h' 166 i = gi h 166 i) (e167 : ∀ i, gi h' 167 i = gi h 167 i) (U : UR cl kd u p h) : UR cl kd u p h' := by
  obtain ⟨u1, u2, u3, u4, u5, u6, u7, u8, u9⟩ := U
  have elq : ∀ k w, lq h' p k w = lq h p k w := fun k w => e172 _
  have eR : rRl h' p = rRl h p := by
    unfold rRl
    have a1 : rsrt h' p = rsrt h p := by funext k; unfold rsrt; rw [elq, elq]
    have a2 : rsbj h' p = rsbj h p := by funext k; unfold rsbj; rw [elq, elq, elq]
    have a3 : rwid h' p = rwid h p := by funext k; unfold rwid; rw [elq, elq, e166]
    have a4 : rtrm h' p = rtrm h p := by funext k i; unfold rtrm; rw [elq, elq, elq]
    rw [a1, a2, a3, a4]
  exact ⟨u1, by rw [e172]; exact u2, by rw [e172]; exact u3, fun i i0 i1 => by rw [e172]; exact u4 i i0 i1, by rw [e172]; exact u5, by rw [eR]; exact u6, ⟨u7.1, fun k k0 k1 => by rw [elq]; exact u7.2 k k0 k1⟩, by rw [e166]; exact u8, by rw [e167]; exact u9⟩
theorem HBr_F {cl kd : Int → Int} {RL : mU → Prop} {U : Int → mU} {h h' : dm_H} (f : frF h h') (B : HBr cl kd RL U h) : HBr cl kd RL U h' := by
  have e172 : ∀ i, gi h' 172 i = gi h 172 i := fun i => f.1 _ _ (by omega) (by omega) (by omega)
  have e174 : ∀ i, gi h' 174 i = gi h 174 i := fun i => f.1 _ _ (by omega) (by omega) (by omega)
  have e166 : ∀ i, gi h' 166 i = gi h 166 i := fun i => f.1 _ _ (by omega) (by omega) (by omega)
  have e167 : ∀ i, gi h' 167 i = gi h 167 i := fun i => f.1 _ _ (by omega) (by omega) (by omega)
  refine ⟨fun p p0 p1 q1 q2 => ?_, fun u hu => ?_⟩
  · rw [e174] at q1
    rw [e172] at q2
    obtain ⟨a1, a2⟩ := B.1 p p0 p1 q1 q2
    exact ⟨a1, UR_c e172 e166 e167 a2⟩
  · obtain ⟨p, p1, p2, p3, p4⟩ := B.2 u hu
    exact ⟨p, p1, by rw [e174]; exact p2, by rw [e172]; exact p3, p4⟩
theorem ftR_F {h h' : dm_H} (f : frF h h') : ftR h' = ftR h := by
  have e5 : ∀ i, ¬ (27 ≤ i ∧ i ≤ 34) → gi h' 165 i = gi h 165 i := fun i hi => f.1 _ _ (by omega) (by omega) (by omega)
  have e168 : ∀ i, gi h' 168 i = gi h 168 i := fun i => f.1 _ _ (by omega) (by omega) (by omega)
  have e169 : ∀ i, gi h' 169 i = gi h 169 i := fun i => f.1 _ _ (by omega) (by omega) (by omega)
  funext r c
  unfold ftR
  simp only [e5 5 (by omega), e5 10 (by omega), e5 11 (by omega), e168, e169]
theorem FVr_F {cl kd : Int → Int} {h h' : dm_H} (f : frF h h') (F : FVr cl kd h) : FVr cl kd h' := by
  have e5 : gi h' 165 5 = gi h 165 5 := f.1 _ _ (by omega) (by omega) (by omega)
  have e168 : ∀ i, gi h' 168 i = gi h 168 i := fun i => f.1 _ _ (by omega) (by omega) (by omega)
  have e169 : ∀ i, gi h' 169 i = gi h 169 i := fun i => f.1 _ _ (by omega) (by omega) (by omega)
  have e166 : ∀ i, gi h' 166 i = gi h 166 i := fun i => f.1 _ _ (by omega) (by omega) (by omega)
  have e167 : ∀ i, gi h' 167 i = gi h 167 i := fun i => f.1 _ _ (by omega) (by omega) (by omega)
  unfold FVr
  simp only [e5, e168, e169, e166, e167]
  exact F
/-- only what hangs, and layers, are touched -/
def frY (h h' : dm_H) : Prop := (∀ a i, ¬ (175 ≤ a ∧ a ≤ 176) → gi h' a i = gi h a i) ∧ (∀ a i, gr h' a i = gr h a i) ∧ h'.2.2 = h.2.2
theorem frF_Y {h h' : dm_H} (a : frY h h') : frF h h' := ⟨fun c i p q r => a.1 c i (by omega), a.2.1, a.2.2⟩
section RFOL
variable {cl kd ly : Int → Int} {oc : Int → Int → Prop} {RL : mU → Prop} {U : Int → mU}
theorem eqW_gds (D : DC cl kd) (hR : ∀ u, RL u → RU cl kd ly oc u) {ft : Int → Int → Prop} {n : Int} {ω ω' : mW} (e : eqW ω ω') (h : gds cl kd ly ft RL n ω) : gds cl kd ly ft RL n ω' := gds_cg D hR (eqW_VW e h.1) (fun r r0 r1 _ c => (eqW_in e ⟨r0, r1⟩).symm) h
theorem s177 {d : Nat} (hd : 11 ≤ d) (D : DC cl kd) (hR : ∀ u, RL u → RU cl kd ly oc u) {h h1 h2 : dm_H} (F : FVr cl kd h) (B : HBr cl kd RL U h) (e1 : dF (d - 1) 178 [dR 1 11 165] h = rV h1) (f1 : frY h h1) (e2 : dF (d - 1) 182 [dR 1 11 165] h1 = rV h2) (f2 : frY h1 h2) (hly : ∀ r, 0 ≤ r → r < 6 → gi h2 176 r = ly r) :
    ∃ b h', dF d 177 [dR 1 11 165] h = rI b h' ∧ frF h h' ∧ ((∀ i, gi h' 175 i = gi h2 175 i) ∧ ∀ i, gi h' 176 i = gi h2 176 i) ∧ ((b = 1 ∧ SRT (rW h') ∧ gds cl kd ly (ftR h) RL 12 (rW h')) ∨ (b = 0 ∧ muc cl kd ly (ftR h) RL)) := by
  have fY := frF_trans (frF_Y f1) (frF_Y f2)
  rw [f177 (by omega), b177_0, e1, bk_n, b177_4, e2, bk_n, b177_8]
  have clear : ∀ (m : Nat) (x : Int) (H : dm_H), 0 ≤ x → x + m = 6 → frL h2 H → gi H 165 27 = 0 → (∀ r, 0 ≤ r → r < x → gi H 178 r = 0 ∧ gi H 180 r = 0) →
      ∃ H', dL (d - 1) 177 15 [lR 1 11 165, lI x] [] H = dL (d - 1) 177 43 [lR 1 11 165, lI 0] [] H' ∧ frL h2 H' ∧ gi H' 165 27 = 0 ∧ ∀ r, 0 ≤ r → r < 6 → gi H' 178 r = 0 ∧ gi H' 180 r = 0 := by
    intro m
    induction m with
    | zero =>
      intro x H x0 xm fH z C
      rw [b177_15, if_neg (by omega)]
      exact ⟨H, rfl, fH, z, fun r r0 r1 => C r r0 (by omega)⟩
    | succ m ih =>
      intro x H x0 xm fH z C
      rw [b177_15, if_pos (by omega), ix_p x0 (by omega), ix_p x0 (by omega), ck_p (by omega) (by omega)]
      refine ih (x + 1) _ (by omega) (by omega) (frL_trans fH ⟨fun a i n1 n2 n3 => by rw [gi_sin (by omega), gi_sin (by omega)], fun _ _ => rfl, rfl⟩) (by rw [gi_sin (by decide), gi_sin (by decide)]; exact z) (fun r r0 r1 => ?_)
      by_cases y : r = x
      · rw [y, gi_sin (by decide), gi_sis, gi_sis]; exact ⟨rfl, rfl⟩
      · rw [gi_sin (by decide), gi_sij y, gi_sij y, gi_sin (by decide)]; exact C r r0 (by omega)
  obtain ⟨h3, t1, t2, t3, t4⟩ := clear 6 0 (si h2 165 27 0) (by omega) (by omega) ⟨fun a i n1 n2 n3 => by rw [gi_si, if_neg (by omega)], fun _ _ => rfl, rfl⟩ gi_sis (fun r r0 r1 => by omega)
  rw [t1]
  have loop : ∀ (m : Nat) (L : Int) (H : dm_H), 0 ≤ L → L + m = 12 → frL h2 H → gi H 165 27 = 0 → VW cl kd (nW H) → SRT (nW H) → eqW (nW H) (rW H) → (∀ r, 0 ≤ r → r < 6 → L ≤ ly r → (nW H).1 r = 0) → gds cl kd ly (ftR h) RL L (nW H) →
      ∃ b h', dL (d - 1) 177 43 [lR 1 11 165, lI L] [] H = rI b h' ∧ frL h2 h' ∧ ((b = 1 ∧ SRT (rW h') ∧ gds cl kd ly (ftR h) RL 12 (rW h')) ∨ (b = 0 ∧ muc cl kd ly (ftR h) RL)) := by
    intro m
    induction m with
    | zero =>
      intro L H L0 Lm fH z V S E hz G
      rw [b177_43, if_neg (by omega), b177_67, if_pos z, b177_79, z1_p (Or.inr rfl)]
      refine ⟨1, H, rfl, fH, Or.inl ⟨rfl, eqW_SRT E S, eqW_gds D hR E ?_⟩⟩
      rw [show (12 : Int) = L by omega]
      exact G
    | succ m ih =>
      intro L H L0 Lm fH z V S E hz G
      have fA := frF_trans fY (frF_L fH)
      rw [b177_43, if_pos (by omega), if_pos z]
      have efR := ftR_F fA
      have ely : ∀ r, 0 ≤ r → r < 6 → gi H 176 r = ly r := fun r r0 r1 => by rw [fH.1 _ _ (by omega) (by omega) (by omega)]; exact hly r r0 r1
      obtain ⟨h', u1, u2, u3⟩ := s185 (d := d - 1) (by omega) D hR (FVr_F fA F) (HBr_F fA B) ely L0 V S hz z (by rw [efR]; exact G)
      rw [efR] at u3
      rw [u1, bk_n, b177_61, ck_p (by omega) (by omega)]
      rcases u3 with ⟨y1, y2, y3, y4, y5, y6⟩ | ⟨y1, y2⟩
      · exact ih (L + 1) h' (by omega) (by omega) (frL_trans fH u2) y1 y2 y3 y4 y5 y6
      · refine ⟨0, h', ?_, frL_trans fH u2, Or.inr ⟨rfl, y2⟩⟩
        rw [b177_43]
        by_cases q : L + 1 < 12
        · rw [if_pos q, y1, if_neg (by decide), b177_67, y1, if_neg (by decide), b177_79, z1_p (Or.inl rfl)]
        · rw [if_neg q, b177_67, y1, if_neg (by decide), b177_79, z1_p (Or.inl rfl)]
  have z0 : ∀ r, 0 ≤ r → r < 6 → (nW h3).1 r = 0 := fun r r0 r1 => (t4 r r0 r1).2
  have V3 : VW cl kd (nW h3) := fun r r0 r1 => ⟨by rw [z0 r r0 r1]; omega, fun x x0 x1 => by rw [z0 r r0 r1] at x1; omega, fun x y x0 xy y1 => by rw [z0 r r0 r1] at y1; omega⟩
  obtain ⟨b, h', u1, u2, u3⟩ := loop 12 0 h3 (by omega) (by omega) t2 t3 V3 (fun r r0 r1 x y x0 xy y1 => by rw [z0 r r0 r1] at y1; omega) (fun r r0 r1 => ⟨(t4 r r0 r1).1.trans (t4 r r0 r1).2.symm, fun x x0 x1 => by rw [z0 r r0 r1] at x1; omega⟩) (fun r r0 r1 _ => z0 r r0 r1) ⟨V3, fun M M0 M1 => by omega⟩
  exact ⟨b, h', u1, frF_trans fY (frF_L u2), ⟨fun i => u2.1 _ _ (by omega) (by omega) (by omega), fun i => u2.1 _ _ (by omega) (by omega) (by omega)⟩, u3⟩
/-- both find the same -/
theorem gds_low {ft : Int → Int → Prop} {n m : Int} (h : m ≤ n) {ω : mW} (g : gds cl kd ly ft RL n ω) : gds cl kd ly ft RL m ω := ⟨g.1, fun L L0 L1 => g.2 L L0 (by omega)⟩
theorem muc_ft {ft ft' : Int → Int → Prop} (e : ∀ r c, 0 ≤ r → r < 6 → (ft r c ↔ ft' r c)) : muc cl kd ly ft RL → muc cl kd ly ft' RL := by
  have ec : ∀ {Dm L ω}, clod cl kd ly ft RL Dm L ω ↔ clod cl kd ly ft' RL Dm L ω := by
    intro Dm L ω
    unfold clod
    constructor
    · rintro ⟨a, b⟩; exact ⟨fun r c r0 r1 q l f => a r c r0 r1 q l ((e r c r0 r1).mpr f), b⟩
    · rintro ⟨a, b⟩; exact ⟨fun r c r0 r1 q l f => a r c r0 r1 q l ((e r c r0 r1).mp f), b⟩
  rintro ⟨L, ω, L0, g, h⟩
  refine ⟨L, ω, L0, ⟨g.1, fun M M0 M1 => ⟨ec.mp (g.2 M M0 M1).1, fun Dm ω' a b c d => (g.2 M M0 M1).2 Dm ω' a b c (ec.mpr d)⟩⟩, fun ω' V low cl' => h ω' V low (ec.mpr cl')⟩
theorem both (D : DC cl kd) (hR : ∀ u, RL u → RU cl kd ly oc u) {ft ft' : Int → Int → Prop} (e : ∀ r c, 0 ≤ r → r < 6 → (ft r c ↔ ft' r c)) {n : Int} (hl : ∀ r, 0 ≤ r → r < 6 → 0 ≤ ly r ∧ ly r < n) (hn : n ≤ 12) {b b' : Int} {ω ω' : mW} (h : (b = 1 ∧ gds cl kd ly ft RL n ω) ∨ (b = 0 ∧ muc cl kd ly ft RL)) (h' : (b' = 1 ∧ gds cl kd ly ft' RL 12 ω') ∨ (b' = 0 ∧ muc cl kd ly ft' RL)) : b = b' ∧ (b = 0 ∨ b = 1) ∧ (b = 1 → ∀ r c, 0 ≤ r → r < 6 → (inW ω r c ↔ inW ω' r c)) := by
  have hU : ∀ u, RL u → 0 ≤ u.2.1 ∧ u.2.1 < 6 := fun u hu => (hR u hu).2.1
  rcases h with ⟨h1, h2⟩ | ⟨h1, h2⟩ <;> rcases h' with ⟨h3, h4⟩ | ⟨h3, h4⟩
  · refine ⟨by omega, Or.inr h1, fun _ r c r0 r1 => gds_eq D (Dm := fun _ => True) (fun _ _ _ _ _ _ _ => trivial) (fun r c r0 r1 _ => e r c r0 r1) (fun r r0 r1 => (hl r r0 r1).1) h2 (gds_low hn h4) r r0 r1 trivial (hl r r0 r1).2 c⟩
  · exact (muc_no D hl (muc_ft (fun r c r0 r1 => (e r c r0 r1).symm) h4) h2 hU).elim
  · exact (muc_no D (fun r r0 r1 => ⟨(hl r r0 r1).1, by have := (hl r r0 r1).2; omega⟩) (muc_ft e h2) h4 hU).elim
  · exact ⟨by omega, Or.inl h1, fun q => by omega⟩
end RFOL
