/-! THE CALL needs -/
section NDS
variable {h : dm_H} {π : Int → Int}
/-- how many of the first ones have P -/
noncomputable def cntI (P : Int → Prop) : Nat → Int
  | 0 => 0
  | n + 1 => cntI P n + @ite _ (P n) (Classical.propDecidable _) 1 0
theorem cntI_r (P : Int → Prop) : ∀ n : Nat, 0 ≤ cntI P n ∧ cntI P n ≤ n
  | 0 => ⟨Int.le_refl _, Int.le_refl _⟩
  | n + 1 => by
    have := cntI_r P n
    show 0 ≤ cntI P n + @ite _ (P n) (Classical.propDecidable _) 1 0 ∧ cntI P n + @ite _ (P n) (Classical.propDecidable _) 1 0 ≤ ((n + 1 : Nat) : Int)
    split <;> omega
theorem cntI_y {P : Int → Prop} {x : Int} (x0 : 0 ≤ x) (y : P x) : cntI P (x + 1).toNat = cntI P x.toNat + 1 := by
  rw [show (x + 1).toNat = x.toNat + 1 by omega]
  show cntI P x.toNat + @ite _ (P (x.toNat : Int)) (Classical.propDecidable _) 1 0 = _
  rw [show (x.toNat : Int) = x by omega, @if_pos _ (Classical.propDecidable _) y]
theorem cntI_n {P : Int → Prop} {x : Int} (x0 : 0 ≤ x) (y : ¬ P x) : cntI P (x + 1).toNat = cntI P x.toNat := by
  rw [show (x + 1).toNat = x.toNat + 1 by omega]
  show cntI P x.toNat + @ite _ (P (x.toNat : Int)) (Classical.propDecidable _) 1 0 = _
  rw [show (x.toNat : Int) = x by omega, @if_neg _ (Classical.propDecidable _) y, Int.add_zero]
/-- what a relation hangs on, itself too -/
def rch6 (h : dm_H) (r q : Int) : Prop := q = r ∨ LTc (RLc h) r q
theorem rch6_dwn (r : Int) : dwn (RLc h) (rch6 h r) := by
  intro u hu q k k0 k1 hs
  have e : eg (RLc h) u.2.1 (u.2.2.2.1.2.1 k) := ⟨u, hu, rfl, k, k0, k1, hs, rfl⟩
  rcases q with q | q
  · right
    rw [q] at e
    exact fun R a b => a _ _ e
  · exact Or.inr (fun R a b => b _ _ _ (q R a b) (a _ _ e))
theorem rch6_bt (I : IN0 π h) {r : Int} (hr : 0 ≤ r ∧ r < 6) : st 6 (dm_or (gi h 6 r) (dm_shl 1 r)) ∧ ∀ q, 0 ≤ q → q < 6 → (bt (dm_or (gi h 6 r) (dm_shl 1 r)) q = true ↔ rch6 h r q) := by
  obtain ⟨IR, ID, B, J0, NM, G, HH, L, F, W⟩ := I
  have s1 := HH.1 r hr.1 hr.2
  have s2 : st 6 (dm_shl 1 r) := st_shl (k := 6) (by omega) (i := r) (by omega)
  refine ⟨st_or (by omega) s1 s2, fun q q0 q1 => ?_⟩
  rw [bt_or (by omega) s1 s2, bt_shl (by omega) q0, Bool.or_eq_true]
  have e : bt (gi h 6 r) q = true ↔ LTc (RLc h) r q := by
    rw [← LTc_of HH.2]
    exact ⟨fun z => ⟨hr, ⟨q0, q1⟩, z⟩, fun z => z.2.2⟩
  unfold rch6
  rw [e]
  constructor
  · rintro (z | z)
    · exact Or.inr z
    · exact Or.inl (of_decide_eq_true z).symm
  · rintro (z | z)
    · exact Or.inr (decide_eq_true z.symm)
    · exact Or.inl z
/-- without fact k the row would not follow -/
def ndk (h : dm_H) (r c : Int) (k : Int) : Prop := hasQ h k k (fun ω => ¬ inW ω r c)
theorem ndk_set (r c : Int) (hr : 0 ≤ r ∧ r < 6) : setQ h (fun ω => ¬ inW ω r c) := fun ω ω' _ _ e q z => q ((e r hr.1 hr.2 c).mpr z)
theorem ndk_far (I : IN0 π h) {r c k : Int} (hr : 0 ≤ r ∧ r < 6) (hc : inW (cW h (gr h 1 8)) r c) (hk : ¬ rch6 h r (gi h 9 k)) : ¬ ndk h r c k := by
  rintro ⟨ω, g, q⟩
  have g0 : gds (cK h) (gi h 4) (gi h 7) (ftC h (gi h 1 12) (-1) (-1)) (RLc h) 12 (cW h (gr h 1 8)) := I.2.2.2.2.2.2.2.2.2.2.2.2.2.2.2
  exact q ((hasQ_far I (rch6_dwn r) (g1 := k) (g2 := k) (g3 := -1) (g4 := -1) (fun _ _ _ _ => hk) (fun _ _ _ _ => hk) (fun z => by omega) (fun z => by omega) g g0 r hr.1 hr.2 (Or.inl rfl) c).mpr hc)
theorem fz_inW {H : dm_H} {r c : Int} (hz : 0 ≤ gi H 178 r) : fz (fun x => gi H 177 (40 * r + x) = c) (gi H 178 r).toNat 0 = -1 ↔ ¬ inW (rW H) r c := by
  rcases fz_spec (fun x => gi H 177 (40 * r + x) = c) (gi H 178 r).toNat 0 with ⟨a1, a2⟩ | ⟨a1, a2, a3, a4⟩
  · exact ⟨fun _ ⟨x, x0, x1, x2⟩ => a2 x x0 (by have e : (rW H).1 r = gi H 178 r := rfl; omega) x2, fun _ => a1⟩
  · constructor
    · intro q; omega
    · exact fun q => absurd ⟨_, a1, by have e : (rW H).1 r = gi H 178 r := rfl; omega, a3⟩ q
/-- the class counts -/
theorem s158l {d : Nat} (hd : 11 ≤ d) (I : IN0 π h) {r c : Int} (hr : 0 ≤ r ∧ r < 6) (hc : inW (cW h (gr h 1 8)) r c) (w2 w3 w4 : Option dm_V) : ∀ (m : Nat) (x : Int) (H : dm_H) (w9 : Option dm_V), 0 ≤ x → x + m = gi h 8 0 → fpx h H → ∃ H', dL (d - 1) 158 43 [lR 1 10 1, lI r, w2, w3, w4, lI c, lI (dm_or (gi h 6 r) (dm_shl 1 r)), lI (cntI (ndk h r c) x.toNat), lI x, w9] [] H = rI (cntI (ndk h r c) (gi h 8 0).toNat) H' ∧ fpx h H' := by
  have hQ : gr h 1 9 = 95 ∨ gr h 1 9 = 112 := I.2.2.2.2.2.2.2.2.2.1.2.1
  have F := I.2.2.2.2.2.2.2.2.1
  obtain ⟨b1, b2⟩ := rch6_bt I hr
  intro m
  induction m with
  | zero =>
    intro x H w9 x0 xm f
    refine ⟨H, ?_, f⟩
    rw [b158_43, f.1 8 0 (by omega) (by omega) (by omega), if_neg (by omega), show x = gi h 8 0 by omega]
  | succ m ih =>
    intro x H w9 x0 xm f
    have n24 := F.1.1
    have hx := (F.1.2 x x0 (by omega)).1
    have h6 := I.1.1.1
    have cr := cntI_r (ndk h r c) x.toNat
    rw [b158_43, f.1 8 0 (by omega) (by omega) (by omega), if_pos (by omega), ix_p x0 (by omega), f.1 9 x (by omega) (by omega) (by omega)]
    have on : ∀ (H2 : dm_H) (y9 : Option dm_V), fpx h H2 → ¬ ndk h r c x → ∃ H', dL (d - 1) 158 124 [lR 1 10 1, lI r, w2, w3, w4, lI c, lI (dm_or (gi h 6 r) (dm_shl 1 r)), lI (cntI (ndk h r c) x.toNat), lI x, y9] [] H2 = rI (cntI (ndk h r c) (gi h 8 0).toNat) H' ∧ fpx h H' := by
      intro H2 y9 f2 q
      rw [b158_124, ck_p (by omega) (by omega), ← cntI_n x0 q]
      exact ih (x + 1) H2 y9 (by omega) (by omega) f2
    by_cases z : bt (dm_or (gi h 6 r) (dm_shl 1 r)) (gi h 9 x) = false
    · rw [if_pos ((bt_0 (by omega) b1 (by omega)).mpr z), b158_78, if_pos rfl]
      exact on H _ f (ndk_far I hr hc (fun w => by
        have := (b2 _ hx.1 (by omega)).mpr w
        rw [z] at this
        exact absurd this (by decide)))
    · rw [if_neg (fun w => z ((bt_0 (by omega) b1 (by omega)).mp w)), b158_78, if_neg (by decide)]
      obtain ⟨b, H', x1, x2, x3, x4⟩ := run_c (d := d - 1) (by omega) I f x x
      obtain ⟨q1, q2⟩ := hasQ_run I (ndk_set r c hr) x3
      rw [f.2.1 1 9 (by omega), f.1 1 12 (by omega) (by omega) (by omega), x1, bk_v, b158_104]
      by_cases y : b = 0
      · rw [if_pos y]
        exact on H' _ x2 (fun w => by have := (q2.mp w).1; omega)
      · have y1 : b = 1 := by omega
        rw [if_neg y, x2.2.1 1 9 (by omega)]
        have V : VW (cK h) (gi h 4) (cW H' (gr h 1 9)) := by
          rcases x3 with ⟨_, g⟩ | ⟨w, _⟩
          · exact g.1
          · omega
        have hz : 0 ≤ rsz H' (gr h 1 9) r ∧ rsz H' (gr h 1 9) r ≤ 32 := (V r hr.1 hr.2).1
        rw [s28 (by omega) hr hz, bk_v, b158_117]
        by_cases w : plc H' (gr h 1 9) r c = -1
        · have w' := q2.mpr ⟨y1, (plc_in hz.1).mp w⟩
          rw [if_pos w, ck_p (by omega) (by omega), ← cntI_y x0 w', b158_124, ck_p (by omega) (by omega)]
          exact ih (x + 1) H' _ (by omega) (by omega) x2
        · rw [if_neg w]
          exact on H' _ x2 (fun u => w ((plc_in hz.1).mpr (q2.mp u).2))
/-- the reference counts -/
theorem s268l {d : Nat} (hd : 13 ≤ d) (I : IN0 π h) {r a b c : Int} (hr : 0 ≤ r ∧ r < 6) (ha : (0 ≤ a ∧ a ≤ 99) ∧ (0 ≤ b ∧ b ≤ 99) ∧ 0 ≤ c ∧ c ≤ 99) : ∀ (m : Nat) (x : Int) (H : dm_H), 0 ≤ x → x + m = gi h 8 0 → frX h H → eqW (rW h) (aW H) → gi H 165 11 = -1 → ∃ H', dL (d - 1) 268 25 [lR 1 11 165, lI r, lI a, lI b, lI c, lI (cntI (ndk h r (a * 10000 + b * 100 + c)) x.toNat), lI x] [] H = rI (cntI (ndk h r (a * 10000 + b * 100 + c)) (gi h 8 0).toNat) H' ∧ frX h H' ∧ eqW (rW h) (rW H') ∧ gi H' 165 10 = -1 ∧ gi H' 165 11 = -1 ∧ gi H' 165 0 = gi H 165 0 ∧ H'.2.2 = H.2.2 ∧ (∀ i, 44 ≤ i → gi H' 165 i = gi H 165 i) := by
  have hQ : gr h 1 9 = 95 ∨ gr h 1 9 = 112 := I.2.2.2.2.2.2.2.2.2.1.2.1
  have F := I.2.2.2.2.2.2.2.2.1
  intro m
  induction m with
  | zero =>
    intro x H x0 xm f E e11
    have e5 : gi H 165 5 = gi h 8 0 := by rw [f.1 _ _ (by omega) (by omega) (by omega) (by omega) (by omega) (by omega), F.2.2.1]
    obtain ⟨H', x1, x2, x3, x4, x5, x6, x7⟩ := back_r (d := d - 1) (by omega) I f E
    refine ⟨H', ?_, x2, x4, x5, x6, x7 _ _ (by omega) (by omega), x3, fun i hi => x7 _ _ (by omega) (by omega)⟩
    rw [b268_25, e5, if_neg (by omega), x1, bk_n, b268_83, show x = gi h 8 0 by omega]
  | succ m ih =>
    intro x H x0 xm f E e11
    have e5 : gi H 165 5 = gi h 8 0 := by rw [f.1 _ _ (by omega) (by omega) (by omega) (by omega) (by omega) (by omega), F.2.2.1]
    have n24 := F.1.1
    have cr := cntI_r (ndk h r (a * 10000 + b * 100 + c)) x.toNat
    have f1 : frX h (si H 165 10 x) := frX_trans f (frX_i (by omega))
    obtain ⟨v, H', x1, x2, x3, x4⟩ := run_r (d := d - 1) (by omega) I f1
    rw [gi_sis, gi_sij (by decide), e11] at x3
    obtain ⟨q1, q2⟩ := hasQ_run I (ndk_set r (a * 10000 + b * 100 + c) hr) x3
    rw [hasQ_1 x0] at q2
    have f2 : frX h H' := frX_trans f1 (frX_F x2)
    have E2 : eqW (rW h) (aW H') := eqW_trans E (aW_same (fun a i q => by rw [x2.1 a i (by omega) (by omega) (by omega), gi_sin (by omega)]))
    have t11 : gi H' 165 11 = -1 := by rw [x2.1 _ _ (by omega) (by omega) (by omega), gi_sij (by decide)]; exact e11
    have t0 : gi H' 165 0 = gi H 165 0 := by rw [x2.1 _ _ (by omega) (by omega) (by omega), gi_sij (by decide)]
    have tz : H'.2.2 = H.2.2 := by rw [x2.2.2]; rfl
    have on : ∀ (y : Int), y = cntI (ndk h r (a * 10000 + b * 100 + c)) (x + 1).toNat → ∃ H'', dL (d - 1) 268 25 [lR 1 11 165, lI r, lI a, lI b, lI c, lI y, lI (x + 1)] [] H' = rI (cntI (ndk h r (a * 10000 + b * 100 + c)) (gi h 8 0).toNat) H'' ∧ frX h H'' ∧ eqW (rW h) (rW H'') ∧ gi H'' 165 10 = -1 ∧ gi H'' 165 11 = -1 ∧ gi H'' 165 0 = gi H 165 0 ∧ H''.2.2 = H.2.2 ∧ (∀ i, 44 ≤ i → gi H'' 165 i = gi H 165 i) := by
      rintro y rfl
      obtain ⟨H'', y1, y2, y3, y4, y5, y6, y7, y8⟩ := ih (x + 1) H' (by omega) (by omega) f2 E2 t11
      exact ⟨H'', y1, y2, y3, y4, y5, y6.trans t0, y7.trans tz, fun i hi => by rw [y8 i hi, x2.1 _ _ (by omega) (by omega) (by omega), gi_sij (by omega)]⟩
    rw [b268_25, e5, if_pos (by omega), x1, bk_v, b268_46]
    have no : ¬ ndk h r (a * 10000 + b * 100 + c) x → ∃ H'', dL (d - 1) 268 69 [lR 1 11 165, lI r, lI a, lI b, lI c, lI (cntI (ndk h r (a * 10000 + b * 100 + c)) x.toNat), lI x] [dI (cntI (ndk h r (a * 10000 + b * 100 + c)) x.toNat)] H' = rI (cntI (ndk h r (a * 10000 + b * 100 + c)) (gi h 8 0).toNat) H'' ∧ frX h H'' ∧ eqW (rW h) (rW H'') ∧ gi H'' 165 10 = -1 ∧ gi H'' 165 11 = -1 ∧ gi H'' 165 0 = gi H 165 0 ∧ H''.2.2 = H.2.2 ∧ (∀ i, 44 ≤ i → gi H'' 165 i = gi H 165 i) := by
      intro q
      rw [b268_69, b268_70, Int.add_zero, ck_p (by omega) (by omega), ck_p (by omega) (by omega)]
      exact on _ (cntI_n x0 q).symm
    by_cases y : v = 0
    · rw [if_pos y]
      exact no (fun w => by have := (q2.mp w).1; omega)
    · have y1 : v = 1 := by omega
      have V : VW (cK h) (gi h 4) (rW H') := by
        rcases x3 with ⟨_, g⟩ | ⟨w, _⟩
        · exact g.1
        · omega
      have hz : 0 ≤ gi H' 178 r ∧ gi H' 178 r ≤ 32 := (V r hr.1 hr.2).1
      have ec : 10000 * a + 100 * b + c = a * 10000 + b * 100 + c := by omega
      rw [if_neg y, s172 (by omega) H' ha.1 ha.2.1 ha.2.2, bk_v, b268_58, s246 (by omega) hr hz, bk_v, b268_61, ec]
      by_cases w : fz (fun x => gi H' 177 (40 * r + x) = a * 10000 + b * 100 + c) (gi H' 178 r).toNat 0 = -1
      · rw [if_pos w, b268_70, ck_p (by omega) (by omega), ck_p (by omega) (by omega)]
        exact on _ (cntI_y x0 (q2.mpr ⟨y1, (fz_inW hz.1).mp w⟩)).symm
      · rw [if_neg w]
        exact no (fun u => w ((fz_inW hz.1).mpr (q2.mp u).2))
theorem op_needs {d : Nat} (hd : 13 ≤ d) (I : IN0 π h) (r a b c : Int) : ∃ k h1 v h2, dF d 157 [dR 1 10 1, dI r, dI a, dI b, dI c, dR 4 1 196] h = rI k h1 ∧ dF d 268 [dR 1 11 165, dI r, dI a, dI b, dI c] h1 = rI v h2 ∧ gi h2 165 0 = k ∧ (k = 0 → gl h2 0 = v) ∧ IN0 π h2 ∧ frZ h h2 ∧ rm h h2 := by
  have n6 := I.1.1.1
  obtain ⟨a1, a2, a3⟩ := thr_all I 1
  obtain ⟨b1, b2, b3⟩ := thr_all I 2
  obtain ⟨r1, r2, r3⟩ := s245 (d := d - 1) (H := sg h 6) (by omega) I (fun _ _ _ => rfl) r a b c
  have wr : ∀ (x : dm_O), dF (d - 1) 158 [dR 1 10 1, dI r, dI a, dI b, dI c] h = x → (∀ v h', x = rI v h' → dF d 157 [dR 1 10 1, dI r, dI a, dI b, dI c, dR 4 1 196] h = rI 0 (sl h' 0 v)) ∧ (∀ h', x = rX 0 h' → dF d 157 [dR 1 10 1, dI r, dI a, dI b, dI c, dR 4 1 196] h = rI 1 h') ∧ ∀ h', x = rX 1 h' → dF d 157 [dR 1 10 1, dI r, dI a, dI b, dI c, dR 4 1 196] h = rI 2 h' := by
    intro x e
    rw [f157 (by omega), b157_0, e]
    refine ⟨fun v h' ex => ?_, fun h' ex => ?_, fun h' ex => ?_⟩
    · rw [ex, bk_v, b157_12, ix_p (by omega) (by omega)]
    · rw [ex, bk_c (g := 17) (j := 6) (n := 2) (L' := [lR 1 10 1, lI r, lI a, lI b, lI c, lR 4 1 196, none]) rfl (fun f => rfl)]
      exact b157_19 _ _ _ _ _ _ _ _ _
    · rw [ex, bk_c (g := 21) (j := 6) (n := 2) (L' := [lR 1 10 1, lI r, lI a, lI b, lI c, lR 4 1 196, none]) rfl (fun f => rfl)]
      exact b157_23 _ _ _ _ _ _ _ _ _
  obtain ⟨w1, w2, w3⟩ := wr _ rfl
  rcases s72 (h := h) (d := d - 1 - 1) (by omega) r a b c n6 with ⟨y, e⟩ | ⟨y, y2, e⟩ | ⟨y, y2, e⟩
  · have c0 : dF (d - 1) 158 [dR 1 10 1, dI r, dI a, dI b, dI c] h = rX 0 (sg h 6) := by rw [f158 (by omega), b158_0, e, bk_x rfl]
    refine ⟨1, _, 0, _, w2 _ c0, ?_, thr0, fun q => by omega, a1, a2, a3⟩
    rw [f268 (by omega), b268_0, r1 y, bk_v, b268_9, if_pos rfl]
  · have c0 : dF (d - 1) 158 [dR 1 10 1, dI r, dI a, dI b, dI c] h = rX 1 (sg h 6) := by rw [f158 (by omega), b158_0, e, bk_x rfl]
    refine ⟨2, _, 0, _, w3 _ c0, ?_, thr0, fun q => by omega, b1, b2, b3⟩
    rw [f268 (by omega), b268_0, r2 y y2, bk_v, b268_9, if_pos rfl]
  have hr6 : 0 ≤ r ∧ r < 6 := by omega
  obtain ⟨z1, z2, z3⟩ := rows_z I r y.1 (by omega)
  have ha := wit_99 y2 (by omega) (by omega)
  have rz : 0 ≤ rsz h (gr h 1 8) r ∧ rsz h (gr h 1 8) r ≤ 32 := by omega
  have F := I.2.2.2.2.2.2.2.2.1
  have hQ : gr h 1 9 = 95 ∨ gr h 1 9 = 112 := I.2.2.2.2.2.2.2.2.2.1.2.1
  by_cases hp : plc h (gr h 1 8) r (a * 10000 + b * 100 + c) = -1
  · have c0 : dF (d - 1) 158 [dR 1 10 1, dI r, dI a, dI b, dI c] h = rI 0 h := by
      rw [f158 (by omega), b158_0, e, bk_v, b158_9, s28 (by omega) hr6 rz, bk_v, b158_21, if_pos hp]
    have s := same_all (h' := si (sl h 0 0) 165 0 0) I (fun a i p _ => gi_t a i p) (fun _ _ => rfl)
    obtain ⟨-, -, q3⟩ := s245 (d := d - 1) (H := sl h 0 0) (by omega) I (fun _ _ _ => rfl) r a b c
    refine ⟨0, _, 0, _, w1 _ _ c0, ?_, thr0, fun _ => by rw [gl_si, gl_sl, if_pos rfl], s.1, s.2, rm_0 _ 0⟩
    rw [f268 (by omega), b268_0, q3 y y2, hp, bk_v, b268_9, if_pos rfl]
  have hin : inW (cW h (gr h 1 8)) r (a * 10000 + b * 100 + c) := Classical.byContradiction (fun q => hp ((plc_in rz.1).mpr q))
  obtain ⟨h', x1, x2⟩ := s158l (d := d - 1) (by omega) I hr6 hin (lI a) (lI b) (lI c) (gi h 8 0).toNat 0 h none (by omega) (by have := F.1.1; omega) (fpx_refl h)
  generalize eV : cntI (ndk h r (a * 10000 + b * 100 + c)) (gi h 8 0).toNat = V at x1
  have c0 : dF (d - 1) 158 [dR 1 10 1, dI r, dI a, dI b, dI c] h = rI V h' := by
    rw [f158 (by omega), b158_0, e, bk_v, b158_9, s28 (by omega) hr6 rz, bk_v, b158_21, if_neg hp, s57 (by omega) r h hr6, bk_v, b158_35]
    exact x1
  have s0 := spare_all (h' := h') I (fun a i p q t _ _ => x2.1 a i p q t) x2.2.1
  obtain ⟨-, -, q3⟩ := s245 (d := d - 1) (h := h') (H := sl h' 0 V) (by omega) s0.1 (fun _ _ _ => rfl) r a b c
  have hP : gr h 1 8 = 95 ∨ gr h 1 8 = 112 := I.2.2.2.2.2.2.2.2.2.1.1
  have hPQ := I.2.2.2.2.2.2.2.2.2.1.2.2
  have e3 : gi h' 3 r = gi h 3 r := x2.1 _ _ (by omega) (by omega) (by omega)
  have e20 : gi h' 2 0 = gi h 2 0 := x2.1 _ _ (by omega) (by omega) (by omega)
  have ep : plc h' (gr h' 1 8) r (a * 10000 + b * 100 + c) = plc h (gr h 1 8) r (a * 10000 + b * 100 + c) := by
    have := plc_eq (π := π) s0.1 (H := h') (fun _ => rfl) (fun _ => rfl) (r := r) (c := a * 10000 + b * 100 + c) (by omega)
    rw [← this]
    exact plc_eq I (fun i => x2.1 _ _ (by omega) (by omega) (by omega)) (fun i => x2.1 _ _ (by omega) (by omega) (by omega)) (by omega)
  rw [e3, e20, ep] at q3
  have f0 : frX h (si (sl h' 0 V) 165 0 0) := frX_trans (frX_P x2) (frX_trans frX_l (frX_i (by omega)))
  have E0 : eqW (rW h) (rW (si (sl h' 0 V) 165 0 0)) := rW_same (fun i => by rw [gi_sin (by decide)]; exact x2.1 _ _ (by omega) (by omega) (by omega)) (fun i => by rw [gi_sin (by decide)]; exact x2.1 _ _ (by omega) (by omega) (by omega))
  obtain ⟨H1, u1, u2, u3, u4, u5⟩ := aside_r (d := d - 1) (by omega) I f0 E0
  have f1 := frX_trans f0 u3
  have n24 := F.1.1
  obtain ⟨H2, t1, t2, t3, t4, t5, t6, t7, t8⟩ := s268l (d := d) (by omega) I hr6 ha (gi h 8 0).toNat 0 H1 (by omega) (by omega) f1 u5 (by
    rw [u2 _ _ (by omega) (by omega), gi_sij (by decide)]
    show gi h' 165 11 = -1
    rw [x2.1 _ _ (by omega) (by omega) (by omega)]
    exact F.2.2.2.2.2.2.2.2)
  rw [eV] at t1
  have s := frX_all I t2 t4 t5 t3 (fun i hi => by
    rw [t8 i hi, u2 _ _ (by omega) (by omega), gi_sij (by omega)]
    exact x2.1 _ _ (by omega) (by omega) (by omega))
  refine ⟨0, _, V, H2, w1 _ _ c0, ?_, ?_, fun _ => ?_, s.1, s.2, rm_3 t2.2.2 (ct_e (t2.1 _ _ (by have hq : gr h 1 9 = 95 ∨ gr h 1 9 = 112 := I.2.2.2.2.2.2.2.2.2.1.2.1; omega) (by have hq : gr h 1 9 = 95 ∨ gr h 1 9 = 112 := I.2.2.2.2.2.2.2.2.2.1.2.1; omega) (by have hq : gr h 1 9 = 95 ∨ gr h 1 9 = 112 := I.2.2.2.2.2.2.2.2.2.1.2.1; omega) (by have hq : gr h 1 9 = 95 ∨ gr h 1 9 = 112 := I.2.2.2.2.2.2.2.2.2.1.2.1; omega) (by have hq : gr h 1 9 = 95 ∨ gr h 1 9 = 112 := I.2.2.2.2.2.2.2.2.2.1.2.1; omega) (by have hq : gr h 1 9 = 95 ∨ gr h 1 9 = 112 := I.2.2.2.2.2.2.2.2.2.1.2.1; omega) ) (t2.1 _ _ (by have hq : gr h 1 9 = 95 ∨ gr h 1 9 = 112 := I.2.2.2.2.2.2.2.2.2.1.2.1; omega) (by have hq : gr h 1 9 = 95 ∨ gr h 1 9 = 112 := I.2.2.2.2.2.2.2.2.2.1.2.1; omega) (by have hq : gr h 1 9 = 95 ∨ gr h 1 9 = 112 := I.2.2.2.2.2.2.2.2.2.1.2.1; omega) (by have hq : gr h 1 9 = 95 ∨ gr h 1 9 = 112 := I.2.2.2.2.2.2.2.2.2.1.2.1; omega) (by have hq : gr h 1 9 = 95 ∨ gr h 1 9 = 112 := I.2.2.2.2.2.2.2.2.2.1.2.1; omega) (by have hq : gr h 1 9 = 95 ∨ gr h 1 9 = 112 := I.2.2.2.2.2.2.2.2.2.1.2.1; omega) ))⟩
  · rw [f268 (by omega), b268_0, q3 y y2, bk_v, b268_9, if_neg hp, u1, bk_n, b268_22]
    exact t1
  · rw [t6, u2 _ _ (by omega) (by omega), thr0]
  · have e : H2.2.2 = (sl h' 0 V).2.2 := by rw [t7, u4]; rfl
    show H2.2.2.1 0 = _
    rw [e]
    show gl (sl h' 0 V) 0 = _
    rw [gl_sl, if_pos rfl]
end NDS
