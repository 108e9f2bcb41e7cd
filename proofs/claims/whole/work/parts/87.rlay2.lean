/-! LAYERS of the reference -/
section SWEEP
variable {kd : Int → Int} {oc : Int → Int → Prop} {RL : mU → Prop} {f : Int → Int}
/-- how many relations are not in their layer yet -/
def cnl (f L : Int → Int) : Int := sm (fun r => if L r < f r then 1 else 0) 6
theorem cnl_0 {L : Int → Int} (h : cnl f L = 0) : ∀ r, 0 ≤ r → r < 6 → f r ≤ L r := by
  intro r r0 r1
  by_cases z : L r < f r
  · have h1 : sm (fun _ => 0) 6 < sm (fun r => if L r < f r then (1 : Int) else 0) 6 := by
      refine sm_lt (k := r) (fun i _ _ => ?_) r0 r1 ?_
      · show (0 : Int) ≤ if L i < f i then 1 else 0
        split <;> omega
      · show (0 : Int) < if L r < f r then 1 else 0
        rw [if_pos z]; omega
    have h2 : sm (fun _ => 0) 6 = 0 := rfl
    unfold cnl at h
    omega
  · omega
theorem cnl_r (L : Int → Int) : 0 ≤ cnl f L ∧ cnl f L ≤ 6 := by
  refine ⟨sm_nn (fun i _ _ => ?_), ?_⟩
  · show (0 : Int) ≤ if L i < f i then 1 else 0
    split <;> omega
  · have := sm_ub (f := fun r => if L r < f r then (1 : Int) else 0) (b := 1) (n := 6) (fun i _ _ => by show (if L i < f i then (1 : Int) else 0) ≤ 1; split <;> omega)
    unfold cnl
    omega
/-- each sweep brings one relation more into its layer -/
theorem sweep {L L' : Int → Int} (F : lyL kd oc RL f) (hR : ∀ u, RL u → HSu u) (h0 : ∀ r, 0 ≤ r → r < 6 → 0 ≤ L r) (h1 : ∀ r, 0 ≤ r → r < 6 → L r ≤ L' r) (h2 : ∀ u, RL u → ∀ k, 0 ≤ k → k < u.2.2.2.2 → (u.2.2.2.1.1 k = 0 ∨ u.2.2.2.1.1 k = 1) → L (u.2.2.2.1.2.1 k) + wgk kd oc u k ≤ L' u.2.1) : cnl f L = 0 ∨ cnl f L' < cnl f L := by
  by_cases hz : ∃ r, (0 ≤ r ∧ r < 6) ∧ L r < f r
  · right
    obtain ⟨r0, hr0, hl0⟩ := hz
    have tight : ∃ u, RL u ∧ ∃ k, 0 ≤ k ∧ k < u.2.2.2.2 ∧ (u.2.2.2.1.1 k = 0 ∨ u.2.2.2.1.1 k = 1) ∧ L u.2.1 < f u.2.1 ∧ ¬ L (u.2.2.2.1.2.1 k) < f (u.2.2.2.1.2.1 k) ∧ f u.2.1 ≤ f (u.2.2.2.1.2.1 k) + wgk kd oc u k := by
      by_cases q : ∃ u, RL u ∧ ∃ k, 0 ≤ k ∧ k < u.2.2.2.2 ∧ (u.2.2.2.1.1 k = 0 ∨ u.2.2.2.1.1 k = 1) ∧ L u.2.1 < f u.2.1 ∧ ¬ L (u.2.2.2.1.2.1 k) < f (u.2.2.2.1.2.1 k) ∧ f u.2.1 ≤ f (u.2.2.2.1.2.1 k) + wgk kd oc u k
      · exact q
      exfalso
      have hg : lyS kd oc RL (fun r => if L r < f r then f r - 1 else f r) := by
        refine ⟨fun r a b => ?_, fun u hu k k0 k1 ka => ?_⟩
        · have := h0 r a b
          have := F.1.1 r a b
          show 0 ≤ if L r < f r then f r - 1 else f r
          split <;> omega
        · have c := F.1.2 u hu k k0 k1 ka
          show (if L (u.2.2.2.1.2.1 k) < f (u.2.2.2.1.2.1 k) then f (u.2.2.2.1.2.1 k) - 1 else f (u.2.2.2.1.2.1 k)) + wgk kd oc u k ≤ if L u.2.1 < f u.2.1 then f u.2.1 - 1 else f u.2.1
          by_cases a : L u.2.1 < f u.2.1
          · rw [if_pos a]
            by_cases b : L (u.2.2.2.1.2.1 k) < f (u.2.2.2.1.2.1 k)
            · rw [if_pos b]; omega
            · rw [if_neg b]
              by_cases e : f u.2.1 ≤ f (u.2.2.2.1.2.1 k) + wgk kd oc u k
              · exact absurd ⟨u, hu, k, k0, k1, ka, a, b, e⟩ q
              · omega
          · rw [if_neg a]
            split <;> omega
      have := F.2 _ hg r0 hr0.1 hr0.2
      have this : f r0 ≤ if L r0 < f r0 then f r0 - 1 else f r0 := this
      rw [if_pos hl0] at this
      omega
    obtain ⟨u, hu, k, k0, k1, ka, a, b, e⟩ := tight
    have c := h2 u hu k k0 k1 ka
    have hh := (hR u hu).1
    refine sm_lt (k := u.2.1) (fun r r0' r1 => ?_) hh.1 hh.2 ?_
    · have := h1 r r0' r1
      show (if L' r < f r then (1 : Int) else 0) ≤ if L r < f r then 1 else 0
      repeat' split
      all_goals omega
    · show (if L' u.2.1 < f u.2.1 then (1 : Int) else 0) < if L u.2.1 < f u.2.1 then 1 else 0
      rw [if_pos a, if_neg (by omega)]
      omega
  · left
    unfold cnl
    have : sm (fun r => if L r < f r then (1 : Int) else 0) 6 = sm (fun _ => 0) 6 := sm_cg (fun r r0 r1 => by
      show (if L r < f r then (1 : Int) else 0) = 0
      rw [if_neg (fun z => hz ⟨r, ⟨r0, r1⟩, z⟩)])
    rw [this]
    rfl
end SWEEP
section LAYR
variable {h : dm_H} {cl kd : Int → Int} {RL : mU → Prop} {U : Int → mU}
theorem s183 {d : Nat} (hd : 2 ≤ d) {p : Int} {u : mU} (V : UR cl kd u p h) (hu : HSu u) (hk : ∀ r, gi h 167 r = kd r) (s : st6 h 175) {k : Int} (k0 : 0 ≤ k) (k1 : k < u.2.2.2.2) (ha : lq h p k 0 = 0) : ∃ b, dF d 183 [dR 1 11 165, dI p, dI k] h = rI b h ∧ (b = 0 ∨ b = 1) ∧ (b = 1 ↔ nea kd (ocH h 175) u k) := by
  obtain ⟨l1, l2, -⟩ := UR_lit V k0 k1
  obtain ⟨e1, e2⟩ := l2 ha
  have hq := hu.2.2 k k0 k1 (l1.mp ha)
  have hN := hu.2.1
  have hp := V.1
  have hkd : gi h 172 (38 * p + 0) = u.1 := by rw [Int.add_zero]; exact V.2.1
  have hh : gi h 172 (38 * p + 1) = u.2.1 := V.2.2.1
  have hne : nea kd (ocH h 175) u k ↔ u.2.2.2.1.1 k = 0 ∧ u.1 = 0 ∧ (kd (u.2.2.2.1.2.1 k) = 0 ∨ ocH h 175 (u.2.2.2.1.2.1 k) u.2.1) := Iff.rfl
  have no : ∀ w3, ¬ nea kd (ocH h 175) u k → ∃ b, dL (d - 1) 183 54 [lR 1 11 165, lI p, lI k, w3] [] h = rI b h ∧ (b = 0 ∨ b = 1) ∧ (b = 1 ↔ nea kd (ocH h 175) u k) := by
    intro w3 hn
    rw [b183_54, b183_55, z1_p (Or.inl rfl)]
    exact ⟨0, rfl, Or.inl rfl, fun w => by omega, fun w => absurd w hn⟩
  have yes : ∀ w3, nea kd (ocH h 175) u k → ∃ b, dL (d - 1) 183 50 [lR 1 11 165, lI p, lI k, w3] [] h = rI b h ∧ (b = 0 ∨ b = 1) ∧ (b = 1 ↔ nea kd (ocH h 175) u k) := by
    intro w3 hn
    rw [b183_50, b183_55, z1_p (Or.inr rfl)]
    exact ⟨1, rfl, Or.inr rfl, fun _ => hn, fun _ => rfl⟩
  rw [f183 (by omega), b183_0, s181 (by omega) p k 1 h hp (by omega) (by omega), bk_v, b183_7, s179 (by omega) p 0 h hp (by omega), bk_v, b183_14, hkd]
  by_cases z1 : u.1 = 0
  case neg => rw [if_neg z1]; exact no _ (fun w => z1 (hne.mp w).2.1)
  rw [if_pos z1, s181 (by omega) p k 2 h hp (by omega) (by omega), bk_v, b183_24]
  by_cases z2 : lq h p k 2 = 0
  case neg => rw [if_neg z2]; exact no _ (fun w => z2 (e2.mpr (hne.mp w).1))
  rw [if_pos z2, e1, ix_p hq.1 hq.2, hk]
  by_cases z3 : kd (u.2.2.2.1.2.1 k) = 0
  · rw [if_pos z3]; exact yes _ (hne.mpr ⟨e2.mp z2, z1, Or.inl z3⟩)
  · obtain ⟨b, x1, x2, x3⟩ := s184 (d := d - 1) (by omega) s hq hu.1
    rw [if_neg z3, s179 (by omega) p 1 h hp (by omega), bk_v, b183_44, hh, x1, bk_v, b183_47]
    rcases x2 with rfl | rfl
    · rw [if_pos rfl]; exact no _ (fun w => (hne.mp w).2.2.elim (fun y => absurd y z3) (fun y => by have := x3.mpr y; omega))
    · rw [if_neg (by decide)]; exact yes _ (hne.mpr ⟨e2.mp z2, z1, Or.inr (x3.mp rfl)⟩)
theorem s182 {d : Nat} (hd : 3 ≤ d) (B : HBr cl kd RL U h) (hR : ∀ u, RL u → HSu u) (hk : ∀ r, gi h 167 r = kd r) (s : st6 h 175) {f : Int → Int} (F : lyL kd (ocH h 175) RL f) (f5 : ∀ r, 0 ≤ r → r < 6 → f r ≤ 5) : ∃ h', dF d 182 [dR 1 11 165] h = rV h' ∧ (∀ a i, a ≠ 176 → gi h' a i = gi h a i) ∧ (∀ a i, gr h' a i = gr h a i) ∧ h'.2.2 = h.2.2 ∧ ∀ r, 0 ≤ r → r < 6 → gi h' 176 r = f r := by
  let J : dm_H → Prop := fun H => ((∀ a i, a ≠ 176 → gi H a i = gi h a i) ∧ (∀ a i, gr H a i = gr h a i) ∧ H.2.2 = h.2.2) ∧ (∀ r, 0 ≤ r → r < 6 → 0 ≤ gi H 176 r) ∧ ∀ r, 0 ≤ r → r < 6 → gi H 176 r ≤ f r
  -- what has been looked at in a sweep
  let Q : dm_H → dm_H → Int → Int → Prop := fun hs H p k => (∀ r, 0 ≤ r → r < 6 → gi hs 176 r ≤ gi H 176 r) ∧ ∀ i, 0 ≤ i → i ≤ 10 → gi h 174 i ≠ 0 → gi h 172 (38 * i) ≠ 3 → ∀ l, 0 ≤ l → l < (U i).2.2.2.2 → (i < p ∨ (i = p ∧ l < k)) → ((U i).2.2.2.1.1 l = 0 ∨ (U i).2.2.2.1.1 l = 1) → gi hs 176 ((U i).2.2.2.1.2.1 l) + wgk kd (ocH h 175) (U i) l ≤ gi H 176 (U i).2.1
  have lits : ∀ (hs : dm_H) (p : Int), 0 ≤ p → p ≤ 10 → ∀ (m : Nat) (k x1 : Int) (w4 w5 : Option dm_V) (H : dm_H), 0 ≤ k → k + m = 5 → J H → Q hs H p k →
      ∃ H' w3' w4' w5', dL (d - 1) 182 39 [lR 1 11 165, lI x1, lI p, lI k, w4, w5] [] H = dL (d - 1) 182 31 [lR 1 11 165, lI x1, lI (p + 1), w3', w4', w5'] [] H' ∧ J H' ∧ Q hs H' (p + 1) 0 := by
    intro hs p p0 p1 m
    have stop : ∀ (k x1 : Int) (w4 w5 : Option dm_V) (H : dm_H), J H → Q hs H p k → ¬ (k < gi h 172 (38 * p + 5) ∧ gi h 174 p ≠ 0 ∧ gi h 172 (38 * p) ≠ 3) → ∃ H' w3' w4' w5', dL (d - 1) 182 155 [lR 1 11 165, lI x1, lI p, lI k, w4, w5] [] H = dL (d - 1) 182 31 [lR 1 11 165, lI x1, lI (p + 1), w3', w4', w5'] [] H' ∧ J H' ∧ Q hs H' (p + 1) 0 := by
      intro k x1 w4 w5 H JH QH hno
      rw [b182_155, ck_p (by omega) (by omega)]
      refine ⟨H, _, _, _, rfl, JH, QH.1, fun i i0 i1 i2 i3 l l0 l1 l2 l3 => QH.2 i i0 i1 i2 i3 l l0 l1 ?_ l3⟩
      by_cases y : i = p
      · obtain ⟨a1, a2⟩ := B.1 i i0 i1 i2 i3
        have e5 := a2.2.2.2.2.1
        rw [y] at e5 i2 i3 l1
        refine Or.inr ⟨y, ?_⟩
        by_cases w : l < k
        · exact w
        · exact absurd ⟨by omega, i2, i3⟩ hno
      · omega
    have head : ∀ (k x1 : Int) (w4 w5 : Option dm_V) (H : dm_H), J H → dL (d - 1) 182 39 [lR 1 11 165, lI x1, lI p, lI k, w4, w5] [] H = if k < gi h 172 (38 * p + 5) then (if gi h 174 p = 0 then dL (d - 1) 182 155 [lR 1 11 165, lI x1, lI p, lI k, w4, w5] [] H else if gi h 172 (38 * p) = 3 then dL (d - 1) 182 155 [lR 1 11 165, lI x1, lI p, lI k, w4, w5] [] H else dm_back (dL (d - 1) 182) dm_t182 71 [lR 1 11 165, lI x1, lI p, lI k, w4, w5] [] (dF (d - 1) 180 [dR 1 11 165, dI p, dI k] H)) else dL (d - 1) 182 155 [lR 1 11 165, lI x1, lI p, lI k, w4, w5] [] H := by
      intro k x1 w4 w5 H JH
      rw [b182_39, s179 (by omega) p 5 H (by omega) (by omega), bk_v, b182_46, JH.1.1 172 _ (by decide)]
      by_cases z1 : k < gi h 172 (38 * p + 5)
      · rw [if_pos z1, if_pos z1, ix_p p0 (by omega), JH.1.1 174 _ (by decide)]
        by_cases z2 : gi h 174 p = 0
        · rw [if_pos z2, if_pos z2]
        · rw [if_neg z2, if_neg z2, s179 (by omega) p 0 H (by omega) (by omega), bk_v, b182_64, Int.add_zero, JH.1.1 172 _ (by decide)]
      · rw [if_neg z1, if_neg z1]
    induction m with
    | zero =>
      intro k x1 w4 w5 H k0 km JH QH
      have hp : ¬ (k < gi h 172 (38 * p + 5) ∧ gi h 174 p ≠ 0 ∧ gi h 172 (38 * p) ≠ 3) := by
        rintro ⟨z1, z2, z3⟩
        obtain ⟨a1, a2⟩ := B.1 p p0 p1 z2 z3
        have := (hR _ a1).2.1
        rw [a2.2.2.2.2.1] at z1
        omega
      rw [head k x1 w4 w5 H JH]
      by_cases z1 : k < gi h 172 (38 * p + 5)
      · rw [if_pos z1]
        by_cases z2 : gi h 174 p = 0
        · rw [if_pos z2]; exact stop k x1 w4 w5 H JH QH hp
        · rw [if_neg z2]
          by_cases z3 : gi h 172 (38 * p) = 3
          · rw [if_pos z3]; exact stop k x1 w4 w5 H JH QH hp
          · exact absurd ⟨z1, z2, z3⟩ hp
      · rw [if_neg z1]; exact stop k x1 w4 w5 H JH QH hp
    | succ m ih =>
      intro k x1 w4 w5 H k0 km JH QH
      rw [head k x1 w4 w5 H JH]
      by_cases z1 : k < gi h 172 (38 * p + 5)
      case neg => rw [if_neg z1]; exact stop k x1 w4 w5 H JH QH (fun w => z1 w.1)
      rw [if_pos z1]
      by_cases z2 : gi h 174 p = 0
      · rw [if_pos z2]; exact stop k x1 w4 w5 H JH QH (fun w => w.2.1 z2)
      rw [if_neg z2]
      by_cases z3 : gi h 172 (38 * p) = 3
      · rw [if_pos z3]; exact stop k x1 w4 w5 H JH QH (fun w => w.2.2 z3)
      obtain ⟨a1, a2⟩ := B.1 p p0 p1 z2 z3
      have hu := hR _ a1
      obtain ⟨s1, s2, s3⟩ := hu
      have kN : k < (U p).2.2.2.2 := by rw [← a2.2.2.2.2.1]; exact z1
      obtain ⟨l1, l2, -⟩ := UR_lit a2 k0 kN
      have elq : ∀ w, lq H p k w = lq h p k w := fun w => JH.1.1 172 _ (by decide)
      have hh : gi h 172 (38 * p + 1) = (U p).2.1 := a2.2.2.1
      have b0 := JH.2.1 _ s1.1 s1.2
      have b1 := JH.2.2 _ s1.1 s1.2
      have b5 := f5 _ s1.1 s1.2
      rw [if_neg z3, s180 (by omega) p k H (by omega) (by omega), bk_v, b182_74, elq]
      -- the head's layer is taken up to x
      have put : ∀ (x : Int) (w4 w5 : Option dm_V), 0 ≤ x → x ≤ f (U p).2.1 → (lq h p k 0 = 0 → gi H 176 ((U p).2.2.2.1.2.1 k) + wgk kd (ocH h 175) (U p) k ≤ x) → ∃ H' w3' w4' w5', dL (d - 1) 182 108 [lR 1 11 165, lI x1, lI p, lI k, w4, w5] [dI x] H = dL (d - 1) 182 31 [lR 1 11 165, lI x1, lI (p + 1), w3', w4', w5'] [] H' ∧ J H' ∧ Q hs H' (p + 1) 0 := by
        intro x w4 w5 x0 xf hx
        have fin : ∀ (y : Int) (w4 w5 : Option dm_V), x ≤ y → gi H 176 (U p).2.1 ≤ y → y ≤ f (U p).2.1 → ∃ H' w3' w4' w5', dL (d - 1) 182 148 [lR 1 11 165, lI x1, lI p, lI k, w4, w5] [dI y, dI (U p).2.1, dR 2 6 176] H = dL (d - 1) 182 31 [lR 1 11 165, lI x1, lI (p + 1), w3', w4', w5'] [] H' ∧ J H' ∧ Q hs H' (p + 1) 0 := by
          intro y w4 w5 xy gy yf
          have g6 : ∀ r, gi (si H 176 (U p).2.1 y) 176 r = if r = (U p).2.1 then y else gi H 176 r := by
            intro r
            rw [gi_si]
            by_cases z : r = (U p).2.1
            · rw [if_pos ⟨rfl, z⟩, if_pos z]
            · rw [if_neg (fun w => z w.2), if_neg z]
          have hge : ∀ r, 0 ≤ r → r < 6 → gi H 176 r ≤ gi (si H 176 (U p).2.1 y) 176 r := by
            intro r _ _
            rw [g6]
            by_cases z : r = (U p).2.1
            · rw [if_pos z, z]; exact gy
            · rw [if_neg z]; exact Int.le_refl _
          rw [b182_148, ix_p s1.1 s1.2, ck_p (by omega) (by omega)]
          refine ih (k + 1) x1 _ _ _ (by omega) (by omega) ⟨⟨fun a i ha => by rw [gi_sin ha]; exact JH.1.1 a i ha, fun a i => JH.1.2.1 a i, JH.1.2.2⟩, fun r r0 r1 => Int.le_trans (JH.2.1 r r0 r1) (hge r r0 r1), fun r r0 r1 => ?_⟩ ⟨fun r r0 r1 => Int.le_trans (QH.1 r r0 r1) (hge r r0 r1), fun i i0 i1 i2 i3 l l0 l1' l2' l3' => ?_⟩
          · rw [g6]
            by_cases z : r = (U p).2.1
            · rw [if_pos z, z]; exact yf
            · rw [if_neg z]; exact JH.2.2 r r0 r1
          · obtain ⟨c1, _⟩ := B.1 i i0 i1 i2 i3
            have ch := (hR _ c1).1
            by_cases z : i = p ∧ l = k
            · obtain ⟨rfl, rfl⟩ := z
              have hl := l1.mpr l3'
              have q1 := hx hl
              have q2 := QH.1 _ (s3 l l0 kN l3').1 (s3 l l0 kN l3').2
              rw [g6, if_pos rfl]
              omega
            · refine Int.le_trans (QH.2 i i0 i1 i2 i3 l l0 l1' ?_ l3') (hge _ ch.1 ch.2)
              rcases l2' with w | ⟨w1, w2⟩
              · exact Or.inl w
              · have : l ≠ k := fun v => z ⟨w1, v⟩
                exact Or.inr ⟨w1, by omega⟩
        rw [b182_108, s179 (by omega) p 1 H (by omega) (by omega), bk_v, b182_116, JH.1.1 172 _ (by decide), hh, ix_p s1.1 s1.2]
        by_cases z : gi H 176 (U p).2.1 < x
        · rw [if_pos z]
          exact fin x _ _ (Int.le_refl _) (by omega) xf
        · rw [if_neg z, ix_p s1.1 s1.2]
          exact fin _ _ _ (by omega) (Int.le_refl _) b1
      by_cases za : lq h p k 0 = 0
      · have hq := s3 k k0 kN (l1.mp za)
        have c0 := JH.2.1 _ hq.1 hq.2
        have c1 := JH.2.2 _ hq.1 hq.2
        have c5 := f5 _ hq.1 hq.2
        have cw := F.1.2 _ a1 k k0 kN (l1.mp za)
        have hw := wgk_r kd (ocH h 175) (U p) k
        have sH : st6 H 175 := fun r r0 r1 => by rw [JH.1.1 175 r (by decide)]; exact s r r0 r1
        have eo : ocH H 175 = ocH h 175 := by
          funext r q
          unfold ocH bh
          rw [JH.1.1 175 r (by decide), JH.1.1 175 q (by decide)]
        have VH : UR cl kd (U p) p H := UR_c (fun i => JH.1.1 172 i (by decide)) (fun i => JH.1.1 166 i (by decide)) (fun i => JH.1.1 167 i (by decide)) a2
        obtain ⟨b, x1', x2, x3⟩ := s183 (d := d - 1) (by omega) VH (hR _ a1) (fun r => by rw [JH.1.1 167 r (by decide)]; exact hk r) sH k0 kN (by rw [elq]; exact za)
        rw [eo] at x3
        have ew : (if b = 0 then (1 : Int) else 0) = wgk kd (ocH h 175) (U p) k := by
          unfold wgk
          rcases x2 with e | e
          · rw [if_pos e, if_neg (fun z => by have := x3.mpr z; omega)]
          · rw [if_neg (by omega), if_pos (x3.mp e)]
        rw [bi_1 za, if_neg (by decide), s181 (by omega) p k 1 H (by omega) (by omega) (by omega), bk_v, b182_88, elq, (l2 za).1, ix_p hq.1 hq.2, x1', bk_v, b182_95]
        by_cases zb : b = 0
        · rw [if_pos zb] at ew ⊢
          rw [b182_103, ck_p (by omega) (by omega)]
          exact put _ _ _ (by omega) (by omega) (fun _ => by omega)
        · rw [if_neg zb] at ew ⊢
          rw [b182_103, ck_p (by omega) (by omega)]
          exact put _ _ _ (by omega) (by omega) (fun _ => by omega)
      · have f0 := F.1.1 _ s1.1 s1.2
        rw [bi_0 za, if_pos rfl]
        exact put 0 _ _ (Int.le_refl _) f0 (fun w => absurd w za)
  have places : ∀ (hs : dm_H) (m : Nat) (p x1 : Int) (w3 w4 w5 : Option dm_V) (H : dm_H), 0 ≤ p → p + m = 11 → 0 ≤ x1 → x1 < 12 → J H → Q hs H p 0 →
      ∃ H' w2' w3' w4' w5', dL (d - 1) 182 31 [lR 1 11 165, lI x1, lI p, w3, w4, w5] [] H = dL (d - 1) 182 23 [lR 1 11 165, lI (x1 + 1), w2', w3', w4', w5'] [] H' ∧ J H' ∧ Q hs H' 11 0 := by
    intro hs m
    induction m with
    | zero =>
      intro p x1 w3 w4 w5 H p0 pm y0 y1 JH QH
      rw [show p = 11 by omega] at QH
      rw [b182_31, if_pos (by omega), ck_p (by omega) (by omega)]
      exact ⟨H, _, _, _, _, rfl, JH, QH⟩
    | succ m ih =>
      intro p x1 w3 w4 w5 H p0 pm y0 y1 JH QH
      rw [b182_31, if_neg (by omega)]
      obtain ⟨H', w3', w4', w5', t1, t2, t3⟩ := lits hs p p0 (by omega) 5 0 x1 w4 w5 H (by omega) (by omega) JH QH
      rw [t1]
      exact ih (p + 1) x1 _ _ _ H' (by omega) (by omega) y0 y1 t2 t3
  have sweeps : ∀ (m : Nat) (x1 : Int) (w2 w3 w4 w5 : Option dm_V) (H : dm_H), 0 ≤ x1 → x1 + m = 12 → J H → (cnl f (gi H 176) = 0 ∨ cnl f (gi H 176) + x1 ≤ 6) →
      ∃ h', dL (d - 1) 182 23 [lR 1 11 165, lI x1, w2, w3, w4, w5] [] H = rV h' ∧ J h' ∧ cnl f (gi h' 176) = 0 := by
    intro m
    induction m with
    | zero =>
      intro x1 w2 w3 w4 w5 H y0 ym JH C
      rw [b182_23, if_neg (by omega)]
      have := (cnl_r (f := f) (gi H 176)).1
      exact ⟨H, rfl, JH, by omega⟩
    | succ m ih =>
      intro x1 w2 w3 w4 w5 H y0 ym JH C
      rw [b182_23, if_pos (by omega)]
      obtain ⟨H', w2', w3', w4', w5', t1, t2, t3⟩ := places H 11 0 x1 w3 w4 w5 H (by omega) (by omega) y0 (by omega) JH ⟨fun _ _ _ => Int.le_refl _, fun i i0 i1 i2 i3 l l0 l1 l2 => by omega⟩
      rw [t1]
      refine ih (x1 + 1) _ _ _ _ H' (by omega) (by omega) t2 ?_
      have sw := sweep F hR JH.2.1 t3.1 (fun u hu k k0 k1 ka => by
        obtain ⟨i, i0, i1, i2, rfl⟩ := B.2 u hu
        exact t3.2 i i0.1 i0.2 i1 i2 k k0 k1 (Or.inl (by omega)) ka)
      have r1 := cnl_r (f := f) (gi H' 176)
      rcases sw with q | q
      · left
        have h1 := cnl_0 q
        have h2 : cnl f (gi H' 176) = sm (fun _ => 0) 6 := sm_cg (fun r r0 r1 => by
          show (if gi H' 176 r < f r then (1 : Int) else 0) = 0
          have := h1 r r0 r1
          have := t3.1 r r0 r1
          rw [if_neg (by omega)])
        rw [h2]
        rfl
      · rcases C with c | c
        · omega
        · right; omega
  have clear : ∀ (m : Nat) (x : Int) (H : dm_H), 0 ≤ x → x + m = 6 → (∀ a i, a ≠ 176 → gi H a i = gi h a i) → (∀ a i, gr H a i = gr h a i) → H.2.2 = h.2.2 → (∀ r, 0 ≤ r → r < x → gi H 176 r = 0) →
      ∃ H', dL (d - 1) 182 2 [lR 1 11 165, lI x, none, none, none, none] [] H = dL (d - 1) 182 23 [lR 1 11 165, lI 0, none, none, none, none] [] H' ∧ (∀ a i, a ≠ 176 → gi H' a i = gi h a i) ∧ (∀ a i, gr H' a i = gr h a i) ∧ H'.2.2 = h.2.2 ∧ ∀ r, 0 ≤ r → r < 6 → gi H' 176 r = 0 := by
    intro m
    induction m with
    | zero =>
      intro x H x0 xm e1 e2 e3 Z
      rw [b182_2, if_neg (by omega)]
      exact ⟨H, rfl, e1, e2, e3, fun r r0 r1 => Z r r0 (by omega)⟩
    | succ m ih =>
      intro x H x0 xm e1 e2 e3 Z
      rw [b182_2, if_pos (by omega), ix_p x0 (by omega), ck_p (by omega) (by omega)]
      refine ih (x + 1) _ (by omega) (by omega) (fun a i ha => by rw [gi_sin ha]; exact e1 a i ha) (fun a i => e2 a i) e3 (fun r r0 r1 => ?_)
      by_cases z : r = x
      · rw [z, gi_sis]
      · rw [gi_sij z]; exact Z r r0 (by omega)
  rw [f182 (by omega), b182_0]
  obtain ⟨H1, t1, t2, t3, t4, t5⟩ := clear 6 0 h (by omega) (by omega) (fun _ _ _ => rfl) (fun _ _ => rfl) rfl (fun r r0 r1 => by omega)
  rw [t1]
  obtain ⟨h', u1, u2, u3⟩ := sweeps 12 0 none none none none H1 (by omega) (by omega) ⟨⟨t2, t3, t4⟩, fun r r0 r1 => by rw [t5 r r0 r1]; exact Int.le_refl _, fun r r0 r1 => by rw [t5 r r0 r1]; exact F.1.1 r r0 r1⟩ (Or.inr (by have := (cnl_r (f := f) (gi H1 176)).2; omega))
  refine ⟨h', u1, u2.1.1, u2.1.2.1, u2.1.2.2, fun r r0 r1 => ?_⟩
  have := cnl_0 u3 r r0 r1
  have := u2.2.2 r r0 r1
  omega
end LAYR
