/-! COSTS: the reference has found them; both over the same rows -/
section RFD
variable {h H G0 : dm_H} {π : Int → Int}
theorem rpot_0 (v : vcR h) : 0 ≤ rpot h := (sumI_r (f := fun i => gi h 191 i) (M := 1000000) (by omega) 240 (fun i i0 i1 => by have := v i i0 (by omega); unfold vcc at this; show 0 ≤ gi h 191 i ∧ gi h 191 i ≤ 1000000; omega)).1
def fgX (pr : Int) (h H : dm_H) (n : Int) : Prop := ∀ i, 0 ≤ i → i < n → ∀ x, plW (rW h) (gi h 9 i) (gi h 10 i) x → rC H (gi h 9 i) x ≤ if pr = 0 then 0 else gi h 11 i
theorem fcX_m {pr r c a : Int} (q : fcX pr h r c a) : ∃ i, (0 ≤ i ∧ i < gi h 8 0) ∧ gi h 9 i = r ∧ gi h 10 i = c ∧ a = if pr = 0 then 0 else gi h 11 i := by
  unfold fcX at q
  by_cases z : pr = 0
  · rw [if_pos z] at q
    obtain ⟨i, q1, q2, q3, q4⟩ := q
    exact ⟨i, q1, q2, q3, by rw [if_pos z]; exact q4⟩
  · rw [if_neg z] at q
    obtain ⟨i, q1, q2, q3, q4⟩ := q
    exact ⟨i, q1, q2, q3, by rw [if_neg z]; exact q4⟩
theorem fcX_i {pr : Int} {i : Int} (hi : 0 ≤ i ∧ i < gi h 8 0) : fcX pr h (gi h 9 i) (gi h 10 i) (if pr = 0 then 0 else gi h 11 i) := by
  unfold fcX
  by_cases z : pr = 0
  · rw [if_pos z, if_pos z]; exact ⟨i, hi, rfl, rfl, rfl⟩
  · rw [if_neg z, if_neg z]; exact ⟨i, hi, rfl, rfl, rfl⟩
theorem fgX_m (I : IN0 π h) {pr n : Int} (hn : n ≤ gi h 8 0) {H H' : dm_H} (m : ∀ i, 0 ≤ i → i < 240 → gi H' 191 i ≤ gi H 191 i) (g : fgX pr h H n) : fgX pr h H' n := fun i i0 i1 x hx => by
  have F := I.2.2.2.2.2.2.2.2.1.1.2 i i0 (by omega)
  have V := (rIN I).1
  have h6 := I.1.1.1
  have a := g i i0 i1 x hx
  have b := m (40 * gi h 9 i + x) (by have := hx.1.1; omega) (by have := hx.1.2; have := (V _ F.1.1 (by omega)).1.2; omega)
  exact Int.le_trans b a
theorem s262w {d : Nat} (hd : 13 ≤ d) (I : IN0 π h) {pr : Int} (hpr : pr = 0 ∨ pr = 1) : ∀ (m : Nat) (b : Int) (H : dm_H) (w3 : Option dm_V), rpot H ≤ m → (b = 0 ∨ b = 1) → cqR h H → vcR H → LBS (SX pr h) (rW h) (rC H) → fgX pr h H (gi h 8 0) → (b = 0 → STB pr (cK h) (RLc h) (fcX pr h) (rW h) (rC H)) → ∃ H', dL (d - 1) 262 73 [lR 1 11 165, lI pr, lI b, w3] [] H = rV H' ∧ frQ H H' ∧ GSB pr (cK h) (RLc h) (fcX pr h) (rW h) (rC H') ∧ vcR H' := by
  have V := (rIN I).1
  have one : ∀ (H : dm_H), cqR h H → vcR H → LBS (SX pr h) (rW h) (rC H) → fgX pr h H (gi h 8 0) → ∃ b' He w3, dL (d - 1) 262 81 [lR 1 11 165, lI pr, lI 0, lI 0] [] H = dL (d - 1) 262 73 [lR 1 11 165, lI pr, lI b', w3] [] He ∧ RSt (SX pr h) (rW h) b' H He ∧ cqR h He ∧ fgX pr h He (gi h 8 0) ∧ (b' = 0 → STB pr (cK h) (RLc h) (fcX pr h) (rW h) (rC He)) := by
    intro H c v L f
    obtain ⟨b', He, w3, x1, x2, x3⟩ := s262r hd I hpr c v 10 0 0 H (by omega) (by omega) ⟨frQ_refl H, v, rmc_0 (fun _ => rfl), L⟩ (fun j j0 j1 jp => by
      have R := I.2.2.1.2.2.1 j j0 j1
      have := R.2.2.2.2.2.1.1
      omega)
    have fe := fgX_m I (Int.le_refl _) x2.2.2.1.2.1 f
    refine ⟨b', He, w3, x1, x2, cqR_q c x2.1, fe, fun z => ⟨rC_v V x2.2.1, fun r cc a r0 r1 q x hx => ?_, fun u hu w hw x hx => ?_⟩⟩
    · obtain ⟨i, i1, rfl, rfl, rfl⟩ := fcX_m q
      exact fe i i1.1 i1.2 x hx
    · exact Int.le_trans (x3 u hu w hw x hx) (psX I x2.2.1 v (fun i i0 i1 => by rw [x2.2.2.1.2.2.1 z i i0 i1]; exact Int.le_refl _) hu w)
  intro m
  induction m with
  | zero =>
    intro b H w3 hm hb c v L f a
    rcases hb with rfl | rfl
    · exact ⟨H, by rw [b262_73, if_pos rfl], frQ_refl H, ⟨a rfl, L⟩, v⟩
    · obtain ⟨b', He, w3, x1, x2, x3, x4, x5⟩ := one H c v L f
      have p0 := rpot_0 x2.2.1
      have z : b' = 0 := by
        rcases x2.2.2.1.1 with z | z
        · exact z
        · have := x2.2.2.1.2.2.2 z; omega
      refine ⟨He, ?_, x2.1, ⟨x5 z, x2.2.2.2⟩, x2.2.1⟩
      rw [b262_73, if_neg (by decide), x1, b262_73, if_pos z]
  | succ m ih =>
    intro b H w3 hm hb c v L f a
    rcases hb with rfl | rfl
    · exact ⟨H, by rw [b262_73, if_pos rfl], frQ_refl H, ⟨a rfl, L⟩, v⟩
    · obtain ⟨b', He, w3, x1, x2, x3, x4, x5⟩ := one H c v L f
      have x6 := x5
      rcases x2.2.2.1.1 with z | z
      · refine ⟨He, ?_, x2.1, ⟨x5 z, x2.2.2.2⟩, x2.2.1⟩
        rw [b262_73, if_neg (by decide), x1, b262_73, if_pos z]
      · have := x2.2.2.1.2.2.2 z
        obtain ⟨H', y1, y2, y3⟩ := ih b' He w3 (by omega) (Or.inr z) x3 x2.2.1 x2.2.2.2 x4 x5
        exact ⟨H', by rw [b262_73, if_neg (by decide), x1, y1], frQ_t x2.1 y2, y3⟩
/-- the reference's finding -/
theorem s262 {d : Nat} (hd : 13 ≤ d) (I : IN0 π h) {pr : Int} (hpr : pr = 0 ∨ pr = 1) (c : cqR h H) : ∃ H', dF d 262 [dR 1 11 165, dI pr] H = rV H' ∧ frQ H H' ∧ GSB pr (cK h) (RLc h) (fcX pr h) (rW h) (rC H') ∧ vcR H' := by
  have V := (rIN I).1
  have h6 := I.1.1.1
  have n24 := I.2.2.2.2.2.2.2.2.1.1.1
  have F5 : gi h 165 5 = gi h 8 0 := I.2.2.2.2.2.2.2.2.1.2.2.1
  have FL := I.2.2.2.2.2.2.2.2.1.2.2.2.1
  have Fp := I.2.2.2.2.2.2.2.2.1.2.2.2.2.1
  have F := I.2.2.2.2.2.2.2.2.1.1.2
  have fl : ∀ (m : Nat) (k : Int) (H1 : dm_H) (w3 : Option dm_V), 0 ≤ k → k + m = 240 → frQ H H1 → (∀ i, 0 ≤ i → i < k → gi H1 191 i = 1000000) → ∃ H2 y3, dL (d - 1) 262 2 [lR 1 11 165, lI pr, lI k, w3] [] H1 = dL (d - 1) 262 26 [lR 1 11 165, lI pr, lI 0, y3] [] H2 ∧ frQ H H2 ∧ (∀ i, 0 ≤ i → i < 240 → gi H2 191 i = 1000000) := by
    intro m
    induction m with
    | zero =>
      intro k H1 w3 k0 km f g
      exact ⟨H1, w3, by rw [b262_2, if_neg (by omega)], f, fun i i0 i1 => g i i0 (by omega)⟩
    | succ m ih =>
      intro k H1 w3 k0 km f g
      rw [b262_2, if_pos (by omega), ix_p k0 (by omega), ck_p (by omega) (by omega)]
      refine ih (k + 1) _ w3 (by omega) (by omega) (frQ_t f frQ_i) (fun i i0 i1 => ?_)
      rw [gi_si]
      by_cases q : i = k
      · rw [if_pos ⟨rfl, q⟩]
      · rw [if_neg (fun z => q z.2)]; exact g i i0 (by omega)
  obtain ⟨H1, y3, x1, x2, x3⟩ := fl 240 0 H none (by omega) (by omega) (frQ_refl H) (fun i i0 i1 => by omega)
  have c1 := cqR_q c x2
  have v1 : vcR H1 := fun i i0 i1 => Or.inr (x3 i i0 i1)
  have L1 : LBS (SX pr h) (rW h) (rC H1) := fun s hs r x r0 r1 p0 p1 => by
    have := hs.1 r x r0 r1 p0 p1
    show _ ≤ gi H1 191 _
    rw [x3 _ (by omega) (by have := (V r r0 r1).1.2; omega)]
    unfold vcc at this
    omega
  have eW1 := cqR_W c1
  have fa : ∀ (m : Nat) (k b : Int) (H2 : dm_H) (w3 : Option dm_V), 0 ≤ k → k + m = gi h 8 0 → RSt (SX pr h) (rW h) b H1 H2 → fgX pr h H2 k → ∃ H3 y3 b', dL (d - 1) 262 26 [lR 1 11 165, lI pr, lI k, w3] [] H2 = dL (d - 1) 262 73 [lR 1 11 165, lI pr, lI 1, y3] [] H3 ∧ RSt (SX pr h) (rW h) b' H1 H3 ∧ fgX pr h H3 (gi h 8 0) := by
    intro m
    induction m with
    | zero =>
      intro k b H2 w3 k0 km T g
      have c2 := cqR_q c1 T.1
      exact ⟨H2, w3, b, by rw [b262_26, c2.2, F5, if_neg (by omega)], T, by rw [show gi h 8 0 = k by omega]; exact g⟩
    | succ m ih =>
      intro k b H2 w3 k0 km T g
      have c2 := cqR_q c1 T.1
      have fk := F k k0 (by omega)
      have fp := (Fp k k0 (by omega)).1
      have el := FL k k0 (by omega)
      have e1 : gi H2 168 k = gi h 9 k := by rw [c2.1 _ _ (by omega) (by omega)]; exact congrArg (fun t => t.1) el
      have e2 : gi H2 169 k = gi h 10 k := by rw [c2.1 _ _ (by omega) (by omega)]; exact congrArg (fun t => t.2.1) el
      have e3 : gi H2 170 k = gi h 11 k := by rw [c2.1 _ _ (by omega) (by omega)]; exact congrArg (fun t => t.2.2.1) el
      obtain ⟨Y, eY⟩ : ∃ Y, Y = if pr = 0 then 0 else gi h 11 k := ⟨_, rfl⟩
      have Y0 : 0 ≤ Y ∧ Y ≤ 99 := by rw [eY]; split <;> omega
      have cY : cst Y = Y := by unfold cst; rw [if_pos (by omega), if_neg (by omega)]
      have hr : 0 ≤ gi h 9 k ∧ gi h 9 k < 6 := ⟨fk.1.1, by omega⟩
      obtain ⟨b', H3, z1, z2, z3, z4, z5, z6, z7⟩ := ofr_r (d := d - 1) (by omega) V (cqR_W c2) T (r := gi h 9 k) (c := gi h 10 k) (Y := Y) hr Y0.1 (fun s hs x hx => by
        rw [cY, eY]
        exact hs.2.1 _ _ _ hr.1 hr.2 (fcX_i ⟨k0, by omega⟩) x hx)
      obtain ⟨H4, y3, b4, q1, q2⟩ := ih (k + 1) (dm_or b b') H3 (lI b') (by omega) (by omega) z3 (fun i i0 i1 x hx => by
        by_cases e : i = k
        · rw [e] at hx ⊢
          have := z6 x hx
          rw [cY, eY] at this
          exact this
        · exact fgX_m I (by omega) z7 g i i0 (by omega) x hx)
      refine ⟨H4, y3, b4, ?_, q2⟩
      rw [b262_26, c2.2, F5, if_pos (by omega), ix_p k0 (by omega), ix_p k0 (by omega), e1, e2, e3]
      by_cases z : pr = 0
      · rw [if_pos z] at eY ⊢
        rw [b262_61, ← eY, z1, bk_v, b262_64, ck_p (by omega) (by omega), q1]
      · rw [if_neg z] at eY ⊢
        rw [ix_p k0 (by omega), b262_61, ← eY, z1, bk_v, b262_64, ck_p (by omega) (by omega), q1]
  obtain ⟨H3, y3', b', p1, p2, p3⟩ := fa (gi h 8 0).toNat 0 0 H1 y3 (by omega) (by omega) ⟨frQ_refl H1, v1, rmc_0 (fun _ => rfl), L1⟩ (fun i i0 i1 => by omega)
  have pz := rpot_0 p2.2.1
  obtain ⟨H', q1, q2, q3⟩ := s262w hd I hpr (rpot H3).toNat 1 H3 y3' (by omega) (Or.inr rfl) (cqR_q c1 p2.1) p2.2.1 p2.2.2.2 p3 (fun z => by omega)
  refine ⟨H', ?_, frQ_t x2 (frQ_t p2.1 q2), q3⟩
  rw [f262 (by omega), b262_0, x1, p1, q1]
/-! the same over rows that are the same -/
theorem mnI_l {P Q : Int → Prop} {g : Int → Int} : ∀ {n : Nat}, (∀ x : Int, 0 ≤ x → x < n → (P x ↔ Q x)) → mnI P g n = mnI Q g n
  | 0, _ => rfl
  | n + 1, e => by
    have ih := mnI_l (P := P) (Q := Q) (g := g) (n := n) (fun x x0 x1 => e x x0 (by omega))
    by_cases z : P n
    · rw [mnI_s.1 z, mnI_s.1 ((e n (by omega) (by omega)).mp z), ih]
    · rw [mnI_s.2 z, mnI_s.2 (fun w => z ((e n (by omega) (by omega)).mpr w)), ih]
section EQW
variable {ω ω' : mW}
theorem plW_E (E : eqW ω ω') {r c x : Int} (hr : 0 ≤ r ∧ r < 6) : plW ω' r c x ↔ plW ω r c x := by
  have e := E r hr.1 hr.2
  unfold plW
  rw [e.1]
  constructor
  · rintro ⟨a, b⟩; exact ⟨a, by rw [← e.2 x a.1 a.2]; exact b⟩
  · rintro ⟨a, b⟩; exact ⟨a, by rw [e.2 x a.1 a.2]; exact b⟩
theorem bcv_E (E : eqW ω ω') {pr : Int} {ρ : mR} {f : Int → Int → Int} {v : mA} : ∀ {n : Nat}, psr ρ n → bcv pr ρ ω' f v n = bcv pr ρ ω f v n
  | 0, _ => rfl
  | n + 1, h => by
    have ih := bcv_E E (pr := pr) (f := f) (v := v) (n := n) (fun k k0 k1 => h k k0 (by omega))
    show cmg pr (bcv pr ρ ω' f v n) (if ρ.1 n = 0 then acv ρ ω' f n v else 0) = cmg pr (bcv pr ρ ω f v n) (if ρ.1 n = 0 then acv ρ ω f n v else 0)
    rw [ih]
    by_cases q : ρ.1 n = 0
    · rw [if_pos q, if_pos q]
      have hr := h n (by omega) (by omega) q
      have e := E _ hr.1 hr.2
      unfold acv
      rw [e.1, mnI_l (fun x x0 x1 => by rw [e.2 x x0 (by omega)])]
    · rw [if_neg q, if_neg q]
theorem STB_E (E : eqW ω ω') {pr : Int} {cl : Int → Int} {RL : mU → Prop} {fc : Int → Int → Int → Prop} {s : Int → Int → Int} (hR : psR RL) (hb : ∀ u, RL u → bnds u ω' = bnds u ω) (a : STB pr cl RL fc ω s) : STB pr cl RL fc ω' s := by
  obtain ⟨a1, a2, a3⟩ := a
  refine ⟨fun r x r0 r1 x0 x1 => a1 r x r0 r1 x0 (by rw [← (E r r0 r1).1]; exact x1), fun r c q r0 r1 hq x hx => a2 r c q r0 r1 hq x ((plW_E E ⟨r0, r1⟩).mp hx), fun u hu v hv x hx => ?_⟩
  have hr := (hR u hu).1
  have hp := (hR u hu).2
  rw [hb u hu] at hv
  have er : wrow cl u ω' v = wrow cl u ω v := by
    unfold wrow grow
    rw [hb u hu]
  have ec : wcost pr cl u ω' s v = wcost pr cl u ω s v := by
    unfold wcost gcv
    rw [hb u hu, bcv_E E hp]
    have : (fun (a : Int) w => if gkv cl u w = gkv cl u v then cmg pr a (bcv pr u.2.2.2.1 ω' s w u.2.2.2.2.toNat) else a) = fun a w => if gkv cl u w = gkv cl u v then cmg pr a (bcv pr u.2.2.2.1 ω s w u.2.2.2.2.toNat) else a := by
      funext a w
      rw [bcv_E E hp]
    rw [this]
  rw [er] at hx
  rw [ec]
  exact a3 u hu v hv x ((plW_E E hr).mp hx)
theorem GSB_E (E : eqW ω ω') {pr : Int} {cl : Int → Int} {RL : mU → Prop} {fc : Int → Int → Int → Prop} {s : Int → Int → Int} (hR : psR RL) (hb : ∀ u, RL u → bnds u ω' = bnds u ω) (a : GSB pr cl RL fc ω s) : GSB pr cl RL fc ω' s := ⟨STB_E E hR hb a.1, fun t ht r x r0 r1 x0 x1 => a.2 t (STB_E (eqW_symm E) hR (fun u hu => (hb u hu).symm) ht) r x r0 r1 x0 (by rw [← (E r r0 r1).1]; exact x1)⟩
end EQW
theorem IN0_bnds (I : IN0 π h) : ∀ u, RLc h u → bnds u (rW h) = bnds u (cW h (gr h 1 8)) := fun u hu => by
  have V : VW (cK h) (gi h 4) (cW h (gr h 1 8)) := I.2.2.2.2.2.2.2.2.2.2.2.2.2.2.2.1
  have E : eqW (cW h (gr h 1 8)) (rW h) := I.2.2.2.2.2.2.2.2.2.2.2.1
  have G := RU_GW (DC_of I.1.1) ((lay12 I).2.2 u hu) V
  exact bnd_eqW (N := u.2.2.2.2) E (fun k k0 k1 q => by
    rcases G.2 k k0 k1 with z | z | z
    · exact z.2.1
    · exact z.2.1
    · rcases z.1 with w | w <;> omega) _ 0 v0 (by omega) (by have := G.1; omega)
/-- what the reference finds are the class's -/
theorem GSX_c (I : IN0 π h) {pr : Int} {f : Int → Int → Int} (g : GSB pr (cK h) (RLc h) (fcX pr h) (rW h) f) : GSB pr (cK h) (RLc h) (fcX pr h) (cW h (gr h 1 8)) f := GSB_E (eqW_symm I.2.2.2.2.2.2.2.2.2.2.2.1) (IN0_psR I) (fun u hu => (IN0_bnds I u hu).symm) g
end RFD
