/-! COSTS: the reference's, of a binding; its offers -/
section RCO
variable {h H : dm_H}
/-- the costs that the reference keeps -/
def rC (h : dm_H) : Int → Int → Int := fun r x => gi h 191 (40 * r + x)
/-- what the reference touches -/
def frQ (h h' : dm_H) : Prop := (∀ a i, a ≠ 179 → a ≠ 180 → ¬ (185 ≤ a ∧ a ≤ 191) → ¬ (a = 165 ∧ 27 ≤ i ∧ i ≤ 34) → gi h' a i = gi h a i) ∧ (∀ a i, gr h' a i = gr h a i) ∧ h'.2.2 = h.2.2
theorem frQ_refl (h : dm_H) : frQ h h := ⟨fun _ _ _ _ _ _ => rfl, fun _ _ => rfl, rfl⟩
theorem frQ_t {h h1 h2 : dm_H} (a : frQ h h1) (b : frQ h1 h2) : frQ h h2 := ⟨fun c i p q r s => by rw [b.1 c i p q r s, a.1 c i p q r s], fun c i => by rw [b.2.1, a.2.1], by rw [b.2.2, a.2.2]⟩
theorem frQ_M {h h' : dm_H} (a : frM h h') : frQ h h' := ⟨fun c i p q r s => a.1 c i p q (by omega) s, a.2.1, a.2.2⟩
theorem frQ_i {h : dm_H} {i x : Int} : frQ h (si h 191 i x) := ⟨fun a j _ _ r _ => gi_sin (by omega), fun _ _ => rfl, rfl⟩
theorem frQ_f {h h' : dm_H} (a : frQ h h') : eqf h h' := ⟨fun i => a.1 _ _ (by decide) (by decide) (by omega) (by omega), fun i => a.1 _ _ (by decide) (by decide) (by omega) (by omega), fun i => a.1 _ _ (by decide) (by decide) (by omega) (by omega), fun i => a.1 _ _ (by decide) (by decide) (by omega) (by omega)⟩
theorem UR_q {cl kd : Int → Int} {u : mU} {p : Int} {h h' : dm_H} (f : frQ h h') (U : UR cl kd u p h) : UR cl kd u p h' := by
  obtain ⟨u1, u2, u3, u4, u5, u6, u7, u8, u9⟩ := U
  have e := frQ_f f
  refine ⟨u1, by rw [e.1]; exact u2, by rw [e.1]; exact u3, fun i i0 i1 => by rw [e.1]; exact u4 i i0 i1, by rw [e.1]; exact u5, by rw [eqf_R e]; exact u6, ⟨u7.1, fun k k0 k1 => ?_⟩, by rw [e.2.1]; exact u8, by rw [f.1 _ _ (by decide) (by decide) (by omega) (by omega)]; exact u9⟩
  rw [eqf_lq e]; exact u7.2 k k0 k1
/-- all cells are costs -/
def vcR (h : dm_H) : Prop := ∀ i, 0 ≤ i → i < 240 → vcc (gi h 191 i)
def rpot (h : dm_H) : Int := sumI (fun i => gi h 191 i) 240
/-- costs fall, or stay -/
def rmc (b : Int) (h h' : dm_H) : Prop := (b = 0 ∨ b = 1) ∧ (∀ i, 0 ≤ i → i < 240 → gi h' 191 i ≤ gi h 191 i) ∧ (b = 0 → ∀ i, 0 ≤ i → i < 240 → gi h' 191 i = gi h 191 i) ∧ (b = 1 → rpot h' < rpot h)
theorem rmc_0 {h h' : dm_H} (e : ∀ i, gi h' 191 i = gi h 191 i) : rmc 0 h h' := ⟨Or.inl rfl, fun i _ _ => by rw [e]; exact Int.le_refl _, fun _ i _ _ => e i, fun q => by omega⟩
theorem or01 {a b : Int} (ha : a = 0 ∨ a = 1) (hb : b = 0 ∨ b = 1) : dm_or a b = if a = 0 ∧ b = 0 then 0 else 1 := by
  rcases ha with rfl | rfl <;> rcases hb with rfl | rfl
  · exact db_or 0 0 (by omega) (by omega)
  · exact db_or 0 1 (by omega) (by omega)
  · exact db_or 1 0 (by omega) (by omega)
  · exact db_or 1 1 (by omega) (by omega)
theorem rpot_le {h h' : dm_H} (a : ∀ i, 0 ≤ i → i < 240 → gi h' 191 i ≤ gi h 191 i) : rpot h' ≤ rpot h := sumI_le 240 (fun x x0 x1 => a x x0 (by omega))
theorem rmc_t {a b : Int} {h h1 h2 : dm_H} (p : rmc a h h1) (q : rmc b h1 h2) : rmc (dm_or a b) h h2 := by
  rw [or01 p.1 q.1]
  have l1 := rpot_le p.2.1
  have l2 := rpot_le q.2.1
  refine ⟨by split <;> omega, fun i i0 i1 => by have := p.2.1 i i0 i1; have := q.2.1 i i0 i1; omega, fun z i i0 i1 => ?_, fun z => ?_⟩
  · by_cases y : a = 0 ∧ b = 0
    · rw [q.2.2.1 y.2 i i0 i1, p.2.2.1 y.1 i i0 i1]
    · rw [if_neg y] at z; omega
  · by_cases y : a = 0 ∧ b = 0
    · rw [if_pos y] at z; omega
    · rcases p.1 with w | w
      · rcases q.1 with v | v
        · exact absurd ⟨w, v⟩ y
        · have := q.2.2.2 v; omega
      · have := p.2.2.2 w; omega
/-- an offer as it is taken -/
def cst (x : Int) : Int := if x < 1000000 then (if 9999 < x then 9999 else x) else 1000000
theorem cst_v {x : Int} (h : 0 ≤ x) : vcc (cst x) := by unfold cst vcc; split <;> (try split) <;> omega
theorem s263 {d : Nat} (hd : 2 ≤ d) {r c x : Int} (hr : 0 ≤ r ∧ r < 6) (hz : 0 ≤ gi h 178 r ∧ gi h 178 r ≤ 32) (dj : ∀ x y, 0 ≤ x → x < y → y < gi h 178 r → gi h 177 (40 * r + x) ≠ gi h 177 (40 * r + y)) (hx : 0 ≤ x) (V : vcR h) :
    ∃ b h', dF d 263 [dR 1 11 165, dI r, dI c, dI x] h = rI b h' ∧ rmc b h h' ∧ vcR h' ∧ (∀ a i, a ≠ 191 → gi h' a i = gi h a i) ∧ frQ h h' ∧ (∀ y, plW (rW h) r c y → rC h' r y ≤ cst x) ∧ (∀ r' y, 0 ≤ r' → r' < 6 → 0 ≤ y → y < 40 → rC h' r' y = rC h r' y ∨ (r' = r ∧ plW (rW h) r c y ∧ rC h' r' y = cst x)) := by
  have e0 : dF d 263 [dR 1 11 165, dI r, dI c, dI x] h = dL (d - 1) 263 35 [lR 1 11 165, lI r, lI c, lI x, lI (fz (fun y => gi h 177 (40 * r + y) = c) (gi h 178 r).toNat 0), none] [dI (cst x)] h := by
    rw [f263 (by omega), b263_0, s246 (by omega) hr hz, bk_v, b263_6]
    unfold cst
    by_cases q : x < 1000000
    · rw [if_pos q, if_pos q]
      by_cases p : 9999 < x
      · rw [if_pos p, if_pos p]
      · rw [if_neg p, if_neg p]
    · rw [if_neg q, if_neg q]
  rw [e0]
  have hv := cst_v hx
  rcases fz_spec (fun y => gi h 177 (40 * r + y) = c) (gi h 178 r).toNat 0 with ⟨q1, q2⟩ | ⟨q1, q2, q3, q4⟩
  · refine ⟨0, h, ?_, rmc_0 (fun _ => rfl), V, fun _ _ _ => rfl, frQ_refl h, fun y hy => absurd hy.2 (q2 y hy.1.1 (by have := hy.1.2; have e : (rW h).1 r = gi h 178 r := rfl; omega)), fun _ _ _ _ _ _ => Or.inl rfl⟩
    rw [b263_35, if_pos q1, b263_60]
  · obtain ⟨p, ep⟩ : ∃ p, p = fz (fun y => gi h 177 (40 * r + y) = c) (gi h 178 r).toNat 0 := ⟨_, rfl⟩
    rw [← ep] at q1 q2 q3 q4 ⊢
    have hp : 0 ≤ p ∧ p < gi h 178 r := ⟨q1, by omega⟩
    have hpl : ∀ y, plW (rW h) r c y ↔ y = p := fun y => by
      constructor
      · intro ⟨⟨y0, y1⟩, y2⟩
        have y1 : y < gi h 178 r := y1
        have y2 : gi h 177 (40 * r + y) = c := y2
        have q3 : gi h 177 (40 * r + p) = c := q3
        rcases (show y < p ∨ y = p ∨ p < y by omega) with z | z | z
        · exact absurd (y2.trans q3.symm) (dj _ _ y0 z hp.2)
        · exact z
        · exact absurd (q3.trans y2.symm) (dj _ _ hp.1 z y1)
      · intro e; rw [e]; exact ⟨hp, q3⟩
    have e1 : dL (d - 1) 263 35 [lR 1 11 165, lI r, lI c, lI x, lI p, none] [dI (cst x)] h = if cst x < gi h 191 (40 * r + p) then rI 1 (si h 191 (40 * r + p) (cst x)) else rI 0 h := by
      rw [b263_35, if_neg (by omega), ck_p (by omega) (by omega), ck_p (by omega) (by omega), ix_p (by omega) (by omega)]
      by_cases z : cst x < gi h 191 (40 * r + p)
      · rw [if_pos z, if_pos z, ck_p (by omega) (by omega), ck_p (by omega) (by omega), ix_p (by omega) (by omega)]
      · rw [if_neg z, if_neg z, b263_60]
    rw [e1]
    by_cases z : cst x < gi h 191 (40 * r + p)
    · rw [if_pos z]
      have g : ∀ i, gi (si h 191 (40 * r + p) (cst x)) 191 i = if i = 40 * r + p then cst x else gi h 191 i := fun i => by
        rw [gi_si]
        by_cases q : i = 40 * r + p
        · rw [if_pos ⟨rfl, q⟩, if_pos q]
        · rw [if_neg (fun w => q w.2), if_neg q]
      have le : ∀ i, gi (si h 191 (40 * r + p) (cst x)) 191 i ≤ gi h 191 i := fun i => by
        rw [g]
        by_cases q : i = 40 * r + p
        · rw [if_pos q, q]; omega
        · rw [if_neg q]; omega
      refine ⟨1, _, rfl, ⟨Or.inr rfl, fun i _ _ => le i, fun q => by omega, fun _ => sumI_lt (a := 40 * r + p) 240 (fun i _ _ => le i) (by omega) (by omega) (by rw [g, if_pos rfl]; exact z)⟩, fun i i0 i1 => ?_, fun a i q => gi_sin q, frQ_i, fun y hy => ?_, fun r' y r0 r1 y0 y1 => ?_⟩
      · rw [g]
        split
        · exact hv
        · exact V i i0 i1
      · rw [(hpl y).mp hy]
        show gi _ 191 _ ≤ _
        rw [g, if_pos rfl]; exact Int.le_refl _
      · by_cases q : 40 * r' + y = 40 * r + p
        · have er : r' = r := by omega
          have ey : y = p := by omega
          refine Or.inr ⟨er, by rw [ey]; exact (hpl p).mpr rfl, ?_⟩
          show gi _ 191 _ = _
          rw [g, if_pos q]
        · left
          show gi _ 191 _ = gi h 191 _
          rw [g, if_neg q]
    · rw [if_neg z]
      refine ⟨0, h, rfl, rmc_0 (fun _ => rfl), V, fun _ _ _ => rfl, frQ_refl h, fun y hy => ?_, fun _ _ _ _ _ _ => Or.inl rfl⟩
      rw [(hpl y).mp hy]
      exact Int.not_lt.mp z
/-- the cost of a literal -/
theorem s266 {d : Nat} (hd : 4 ≤ d) {p k r w n : Int} (K : RA h p k r w n) : dF d 266 [dR 1 11 165, dI p, dI k] h = rI (mnI (fun x => ftk (lt h p k) w (va h 185) (rrw h r x)) (fun x => rC h r x) n.toNat) h := by
  have K0 := K
  obtain ⟨hp, hk, e1, hr, e2, hw, ht, e3, hn, hc⟩ := K0
  have loop : ∀ (m : Nat) (i : Nat) (w6 : Option dm_V), (i : Int) + m = n → dL (d - 1) 266 16 [lR 1 11 165, lI p, lI k, lI r, lI (mnI (fun x => ftk (lt h p k) w (va h 185) (rrw h r x)) (fun x => rC h r x) i), lI i, w6] [] h = rI (mnI (fun x => ftk (lt h p k) w (va h 185) (rrw h r x)) (fun x => rC h r x) n.toNat) h := by
    intro m
    induction m with
    | zero =>
      intro i w6 hi
      rw [b266_16, ix_p hr.1 hr.2, e3, if_neg (by omega), show n.toNat = i by omega]
    | succ m ih =>
      intro i w6 hi
      have i0 : (0 : Int) ≤ i := by omega
      have hgo : ∀ (B : Int) (w6 : Option dm_V), B = mnI (fun x => ftk (lt h p k) w (va h 185) (rrw h r x)) (fun x => rC h r x) (i + 1) → ∀ w4, dL (d - 1) 266 76 [lR 1 11 165, lI p, lI k, lI r, w4, lI i, w6] [dI B] h = rI (mnI (fun x => ftk (lt h p k) w (va h 185) (rrw h r x)) (fun x => rC h r x) n.toNat) h := by
        intro B w6 eB w4
        rw [b266_76, ck_p (by omega) (by omega), eB]
        have := ih (i + 1) w6 (by omega)
        rw [show ((i + 1 : Nat) : Int) = (i : Int) + 1 by omega] at this
        exact this
      rw [b266_16, ix_p hr.1 hr.2, e3, if_pos (by omega), ck_p (by omega) (by omega), ck_p (by omega) (by omega), ix_p (by omega) (by omega)]
      by_cases q : gi h 191 (40 * r + i) < mnI (fun x => ftk (lt h p k) w (va h 185) (rrw h r x)) (fun x => rC h r x) i
      · rw [if_pos q, ck_p (by omega) (by omega), ck_p (by omega) (by omega), ix_p (by omega) (by omega), s202 (by omega) h K _ (hc i i0 (by omega)).1, bk_v, b266_66]
        by_cases z : ftk (lt h p k) w (va h 185) (gi h 177 (40 * r + i))
        · rw [@bi_1 _ (Classical.propDecidable _) z, if_neg (by decide)]
          refine hgo _ _ ?_ _
          rw [mnI_s.1 (show ftk (lt h p k) w (va h 185) (rrw h r i) from z)]
          exact (if_pos q).symm
        · rw [@bi_0 _ (Classical.propDecidable _) z, if_pos rfl, b266_74]
          refine hgo _ _ ?_ _
          rw [mnI_s.2 (show ¬ ftk (lt h p k) w (va h 185) (rrw h r i) from z)]
      · rw [if_neg q, b266_74]
        refine hgo _ _ ?_ _
        by_cases z : ftk (lt h p k) w (va h 185) (rrw h r i)
        · rw [mnI_s.1 z]
          exact (if_neg q).symm
        · rw [mnI_s.2 z]
  rw [f266 (by omega), b266_0, s181 (by omega) p k 1 h hp hk (by omega), bk_v, b266_7, e1]
  exact loop n.toNat 0 none (by omega)
/-- a cost that is not yet cut -/
def unc (X Y : Int) : Prop := (X = 1000000 ∧ Y = 1000000) ∨ ((0 ≤ X ∧ X ≤ 40000) ∧ m9 X = Y)
theorem unc_s {pr X B c : Int} (hpr : pr = 0 ∨ pr = 1) {k : Int} (hk : 0 ≤ k) (hX : (X = 1000000 ∧ B = 1000000) ∨ ((0 ≤ X ∧ X ≤ 9999 * k) ∧ m9 X = B)) (hk4 : k ≤ 4) (hc : vcc c) :
    (c = 1000000 ∨ X = 1000000 → cmg pr B c = 1000000) ∧ (¬ (c = 1000000 ∨ X = 1000000) → (pr = 0 → ((0 ≤ (if X < c then c else X) ∧ (if X < c then c else X) ≤ 9999 * (k + 1)) ∧ m9 (if X < c then c else X) = cmg pr B c)) ∧ (pr ≠ 0 → (0 ≤ X + c ∧ X + c ≤ 9999 * (k + 1)) ∧ m9 (X + c) = cmg pr B c)) := by
  unfold vcc at hc
  have mB : m9 X = B → B ≤ 9999 := fun q => by rw [← q]; unfold m9; split <;> omega
  refine ⟨fun q => ?_, fun q => ⟨fun p => ?_, fun p => ?_⟩⟩
  · unfold cmg
    rw [if_pos (by omega)]
  · have hX' := hX.resolve_left (fun z => q (Or.inr z.1))
    have := mB hX'.2
    have e : cmg pr B c = if B < c then c else B := by
      unfold cmg
      rw [if_neg (show ¬ (c = 1000000 ∨ B = 1000000) by omega), if_pos p]
    rw [e, ← hX'.2]
    refine ⟨⟨by split <;> omega, by split <;> omega⟩, ?_⟩
    unfold m9
    repeat' split
    all_goals omega
  · have hX' := hX.resolve_left (fun z => q (Or.inr z.1))
    have := mB hX'.2
    have e : cmg pr B c = m9 (B + c) := by
      unfold cmg
      rw [if_neg (show ¬ (c = 1000000 ∨ B = 1000000) by omega), if_neg p]
    rw [e, ← hX'.2]
    refine ⟨⟨by omega, by omega⟩, ?_⟩
    unfold m9
    repeat' split
    all_goals omega
theorem mnI_P {P Q : Int → Prop} {g : Int → Int} {n : Nat} (e : ∀ x, P x ↔ Q x) : mnI P g n = mnI Q g n := by
  rw [show P = Q from funext (fun x => propext (e x))]
theorem s265 {cl kd ly : Int → Int} {oc : Int → Int → Prop} {u : mU} {p : Int} {v : mA} {d : Nat} (hd : 6 ≤ d) (D : DC cl kd) (U : UR cl kd u p h) (R : RU cl kd ly oc u) (V : VW cl kd (rW h)) (hva : va h 185 = v) (vc : vcR h) {pr : Int} (hpr : pr = 0 ∨ pr = 1) : ∃ X, dF d 265 [dR 1 11 165, dI p, dI pr] h = rI X h ∧ unc X (bcv pr u.2.2.2.1 (rW h) (rC h) v u.2.2.2.2.toNat) := by
  have GG := RU_GW D R V
  obtain ⟨hp, u2, u3, u4, u5, u6, u7, u8, u9⟩ := U
  have hN := GG.1
  have vcW : vcf (rW h) (rC h) := fun r x r0 r1 x0 x1 => vc _ (by omega) (by have := (V r r0 r1).1.2; omega)
  have key : ∀ (m : Nat) (k : Nat) (X : Int) (w5 : Option dm_V), (k : Int) + m = u.2.2.2.2 → (X = 1000000 ∧ bcv pr u.2.2.2.1 (rW h) (rC h) v k = 1000000 ∨ ((0 ≤ X ∧ X ≤ 9999 * k) ∧ m9 X = bcv pr u.2.2.2.1 (rW h) (rC h) v k)) → ∃ Z, dL (d - 1) 265 5 [lR 1 11 165, lI p, lI pr, lI X, lI k, w5] [] h = rI Z h ∧ unc Z (bcv pr u.2.2.2.1 (rW h) (rC h) v u.2.2.2.2.toNat) := by
    intro m
    induction m with
    | zero =>
      intro k X w5 hk hX
      refine ⟨X, ?_, ?_⟩
      · rw [b265_5, s179 (by omega) p 5 h hp (by omega), u5, bk_v, b265_13, if_neg (by omega)]
      · rw [show u.2.2.2.2.toNat = k by omega]
        rcases hX with q | q
        · exact Or.inl q
        · exact Or.inr ⟨⟨q.1.1, by omega⟩, q.2⟩
    | succ m ih =>
      intro k X w5 hk hX
      have k0 : (0 : Int) ≤ k := by omega
      have kN : (k : Int) < u.2.2.2.2 := by omega
      obtain ⟨m1, m2, m3, m4⟩ := u6 k k0 kN
      -- with the literal's cost
      have hgo : ∀ c : Int, vcc c → c = (if u.2.2.2.1.1 k = 0 then acv u.2.2.2.1 (rW h) (rC h) k v else 0) → ∃ Z, dL (d - 1) 265 37 [lR 1 11 165, lI p, lI pr, lI X, lI k, w5] [dI c] h = rI Z h ∧ unc Z (bcv pr u.2.2.2.1 (rW h) (rC h) v u.2.2.2.2.toNat) := by
        intro c vcC ec
        obtain ⟨s1, s2⟩ := unc_s hpr k0 hX (by omega) vcC
        have eb : bcv pr u.2.2.2.1 (rW h) (rC h) v (k + 1) = cmg pr (bcv pr u.2.2.2.1 (rW h) (rC h) v k) c := by rw [ec]; rfl
        have fin_ : ∀ (Z : Int) (w3 w5 : Option dm_V), (Z = 1000000 ∧ cmg pr (bcv pr u.2.2.2.1 (rW h) (rC h) v k) c = 1000000 ∨ ((0 ≤ Z ∧ Z ≤ 9999 * ((k : Int) + 1)) ∧ m9 Z = cmg pr (bcv pr u.2.2.2.1 (rW h) (rC h) v k) c)) → ∃ Z', dL (d - 1) 265 83 [lR 1 11 165, lI p, lI pr, w3, lI k, w5] [dI Z] h = rI Z' h ∧ unc Z' (bcv pr u.2.2.2.1 (rW h) (rC h) v u.2.2.2.2.toNat) := by
          intro Z w3 w5 hZ
          rw [b265_83, ck_p (by omega) (by omega)]
          have := ih (k + 1) Z w5 (by omega) (by rw [eb, show ((k + 1 : Nat) : Int) = (k : Int) + 1 by omega]; exact hZ)
          rw [show ((k + 1 : Nat) : Int) = (k : Int) + 1 by omega] at this
          exact this
        rw [b265_37]
        by_cases q1 : c = 1000000
        · rw [if_pos q1, b265_54]
          exact fin_ _ _ _ (Or.inl ⟨rfl, s1 (Or.inl q1)⟩)
        · rw [if_neg q1]
          by_cases q2 : X = 1000000
          · rw [if_pos q2, b265_54]
            exact fin_ _ _ _ (Or.inl ⟨rfl, s1 (Or.inr q2)⟩)
          · rw [if_neg q2]
            obtain ⟨t1, t2⟩ := s2 (fun z => z.elim q1 q2)
            by_cases q3 : pr = 0
            · rw [if_pos q3]
              have := t1 q3
              by_cases q4 : X < c
              · rw [if_pos q4] at this ⊢
                exact fin_ _ _ _ (Or.inr this)
              · rw [if_neg q4] at this ⊢
                exact fin_ _ _ _ (Or.inr this)
            · rw [if_neg q3, ck_p (by have := (t2 q3).1.1; omega) (by have := (t2 q3).1.2; omega)]
              exact fin_ _ _ _ (Or.inr (t2 q3))
      have e193 : (lq h p k 0 = 0 ∧ lq h p k 2 = 0) ↔ u.2.2.2.1.1 k = 0 := by
        rw [← m1]
        show _ ↔ rsrt h p k = 0
        unfold rsrt
        by_cases a : lq h p k 0 = 0
        · rw [if_pos a]
          by_cases b : lq h p k 2 = 0
          · rw [if_pos b]; exact ⟨fun _ => rfl, fun _ => ⟨a, b⟩⟩
          · rw [if_neg b]; exact ⟨fun z => absurd z.2 b, fun z => by omega⟩
        · rw [if_neg a]
          exact ⟨fun z => absurd z.1 a, fun z => by split at z <;> omega⟩
      rw [b265_5, s179 (by omega) p 5 h hp (by omega), u5, bk_v, b265_13, if_pos kN, s193 (by omega) p k h hp (by omega), bk_v, b265_23]
      by_cases q : u.2.2.2.1.1 k = 0
      · have l0 := e193.mpr q
        rw [bi_1 l0, if_neg (by decide)]
        rcases GG.2 k k0 kN with z | z | z
        · have n1 : u.2.2.2.1.2.1 k = lq h p k 1 := by rw [← m2]; exact if_pos l0.1
          have n2 : u.2.2.2.1.2.2.1 k = gi h 166 (lq h p k 1) := by rw [← m3]; exact if_pos l0.1
          have n3 : ∀ i, 0 ≤ i → i < 3 → u.2.2.2.1.2.2.2 k i = lt h p k i := fun i i0 i1 => by rw [← m4 i i0 i1]; exact if_neg (fun w => by omega)
          have K : RA h p k (u.2.2.2.1.2.1 k) (u.2.2.2.1.2.2.1 k) (gi h 178 (u.2.2.2.1.2.1 k)) := ⟨hp, ⟨k0, by omega⟩, n1.symm, z.2.1, by rw [n2, n1], z.2.2.1, fun i i0 i1 => by rw [← n3 i i0 i1]; exact z.2.2.2.1 i i0 i1, rfl, (V _ z.2.1.1 z.2.1.2).1, fun x x0 x1 => ((V _ z.2.1.1 z.2.1.2).2.1 x x0 x1).1⟩
          have ea : acv u.2.2.2.1 (rW h) (rC h) k v = mnI (fun x => ftk (lt h p k) (u.2.2.2.1.2.2.1 k) (va h 185) (rrw h (u.2.2.2.1.2.1 k) x)) (fun x => rC h (u.2.2.2.1.2.1 k) x) (gi h 178 (u.2.2.2.1.2.1 k)).toNat := by
            refine mnI_P (fun x => ?_)
            rw [hva]
            constructor
            · intro y i i0 i1
              rw [← n3 i i0 (by omega)]
              exact y i i0 i1
            · intro y i i0 i1
              rw [n3 i i0 (by omega)]
              exact y i i0 i1
          rw [s266 (by omega) K, bk_v, b265_33, ← ea]
          exact hgo _ (acv_v z.2.1 vcW) (by rw [if_pos q])
        · exact absurd (q.symm.trans z.1) (by decide)
        · rcases z.1 with y | y
          · exact absurd (q.symm.trans y) (by decide)
          · exact absurd (q.symm.trans y.1) (by decide)
      · rw [bi_0 (fun w => q (e193.mp w)), if_pos rfl]
        exact hgo 0 (Or.inl ⟨Int.le_refl _, by omega⟩) (by rw [if_neg q])
  rw [f265 (by omega), b265_0]
  exact key u.2.2.2.2.toNat 0 0 none (by omega) (Or.inr ⟨⟨Int.le_refl _, by omega⟩, rfl⟩)
end RCO
