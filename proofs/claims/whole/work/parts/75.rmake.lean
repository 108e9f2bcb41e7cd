/-! THE REFERENCE MAKES what a rule makes -/
section MK
variable (cl kd ly : Int → Int) (ft : Int → Int → Prop) (RL : mU → Prop) (L : Int) (ω0 : mW)
/-- rows that could be those that follow, from layer L on -/
def cnW (Dm : Int → Prop) (ω' : mW) : Prop := dwn RL Dm ∧ VW cl kd ω' ∧ (∀ r, 0 ≤ r → r < 6 → Dm r → ly r < L → ∀ c, inW ω0 r c ↔ inW ω' r c) ∧ clod cl kd ly ft RL Dm L ω'
/-- nothing stands there that need not -/
def sdW (ω : mW) : Prop := ∀ Dm ω', cnW cl kd ly ft RL L ω0 Dm ω' → ∀ r, 0 ≤ r → r < 6 → Dm r → ly r = L → ∀ c, inW ω r c → cov cl kd ω' r c
def tmW : Prop := ∀ ω', ¬ cnW cl kd ly ft RL L ω0 (fun _ => True) ω'
/-- other layers' rows stay -/
def otW (ω : mW) : Prop := ∀ r, 0 ≤ r → r < 6 → ly r ≠ L → ω.1 r = ω0.1 r ∧ ∀ x, 0 ≤ x → x < ω0.1 r → ω.2 r x = ω0.2 r x
def NI (h : dm_H) : Prop := VW cl kd (nW h) ∧ SRT (nW h) ∧ otW ly L ω0 (nW h) ∧ (tmW cl kd ly ft RL L ω0 ∨ sdW cl kd ly ft RL L ω0 (nW h)) ∧ (gi h 165 27 = 0 ∨ (gi h 165 27 = 1 ∧ tmW cl kd ly ft RL L ω0))
variable {cl kd ly ft RL L ω0}
theorem sdW_e {ω ω' : mW} (e : eqW ω ω') (k : sdW cl kd ly ft RL L ω0 ω) : sdW cl kd ly ft RL L ω0 ω' := fun Dm w cn r r0 r1 q l c hc => k Dm w cn r r0 r1 q l c ((eqW_in e ⟨r0, r1⟩).mp hc)
theorem otW_e {ω ω' : mW} (e : eqW ω ω') (k : otW ly L ω0 ω) : otW ly L ω0 ω' := by
  intro r r0 r1 q
  obtain ⟨a1, a2⟩ := k r r0 r1 q
  obtain ⟨b1, b2⟩ := e r r0 r1
  exact ⟨by rw [b1, a1], fun x x0 x1 => by rw [b2 x x0 (by omega), a2 x x0 x1]⟩
theorem otW_in {ω : mW} (k : otW ly L ω0 ω) {r : Int} (r0 : 0 ≤ r) (r1 : r < 6) (q : ly r ≠ L) (c : Int) : inW ω r c ↔ inW ω0 r c := by
  obtain ⟨a1, a2⟩ := k r r0 r1 q
  constructor
  · rintro ⟨x, x0, x1, x2⟩
    rw [a1] at x1
    exact ⟨x, x0, x1, by rw [← a2 x x0 x1]; exact x2⟩
  · rintro ⟨x, x0, x1, x2⟩
    exact ⟨x, x0, by rw [a1]; exact x1, by rw [a2 x x0 x1]; exact x2⟩
theorem mkd_snd {oc : Int → Int → Prop} {u : mU} {ω : mW} (D : DC cl kd) (R : RU cl kd ly oc u) (hRL : RL u) (hL : ly u.2.1 = L) (V : VW cl kd ω) (S : sdW cl kd ly ft RL L ω0 ω) (O : otW ly L ω0 ω) {c : Int} (m : mkd cl u ω c) : ∀ Dm ω', cnW cl kd ly ft RL L ω0 Dm ω' → Dm u.2.1 → cov cl kd ω' u.2.1 c := by
  intro Dm ω' cn hD
  have A1 : ∀ r, 0 ≤ r → r < 6 → Dm r → ly r < ly u.2.1 → ∀ c, inW ω r c ↔ inW ω' r c := fun r r0 r1 q l c => (otW_in O r0 r1 (by omega) c).trans (cn.2.2.1 r r0 r1 q (by omega) c)
  obtain ⟨c', m', v'⟩ := mk_cov D R V cn.2.1 (cn.1 u hRL hD) A1 (fun r r0 r1 q l c hc => by
    by_cases z : ly r = L
    · exact S Dm ω' cn r r0 r1 q z c hc
    · exact cov_in ((A1 r r0 r1 q (by omega) c).mp hc)) m
  obtain ⟨x, x1, x2⟩ := cn.2.2.2.2 u hRL hD hL c' m'
  exact ⟨x, x1, cvr_trans x2 v'⟩
/-- a row that has to be there, comes -/
theorem s186n {d : Nat} (hd : 2 ≤ d) (D : DC cl kd) {h : dm_H} {r c : Int} (hr : 0 ≤ r ∧ r < 6) (e6 : gi h 166 r = cl r) (e7 : gi h 167 r = kd r) (hL : ly r = L) (I : NI cl kd ly ft RL L ω0 h) (hc : vcd (cl r) c) (hs : tmW cl kd ly ft RL L ω0 ∨ ∀ Dm ω', cnW cl kd ly ft RL L ω0 Dm ω' → Dm r → cov cl kd ω' r c) :
    ∃ b h', dF d 186 [dR 1 11 165, dI r, dI c] h = rI b h' ∧ (b = 0 ∨ b = 1) ∧ frN h h' ∧ NI cl kd ly ft RL L ω0 h' ∧ (∀ q x, 0 ≤ q → q < 6 → cov cl kd (nW h) q x → cov cl kd (nW h') q x) ∧ (b = 0 → eqW (nW h) (nW h')) ∧ (b = 1 → wgh cl kd (nW h) < wgh cl kd (nW h')) ∧ (gi h' 165 27 = 0 → gi h 165 27 = 0 ∧ cov cl kd (nW h') r c) := by
  obtain ⟨i1, i2, i3, i4, i5⟩ := I
  obtain ⟨b, h', t1, t2, t3⟩ := s186 hd D hr e6 e7 i1 i2 hc
  refine ⟨b, h', t1, ?_⟩
  rcases t3 with ⟨rfl, rfl, t3⟩ | ⟨rfl, rfl, t3, t4⟩ | ⟨rfl, t3, t4⟩
  · exact ⟨Or.inl rfl, t2, ⟨i1, i2, i3, i4, i5⟩, fun _ _ _ _ k => k, fun _ => eqW_refl _, fun q => by omega, fun q => ⟨q, t3⟩⟩
  · have e : nW (si h 165 27 1) = nW h := by
      unfold nW
      congr 1
    have tm : tmW cl kd ly ft RL L ω0 := by
      rcases i4 with q | q
      · exact q
      · intro ω' cn
        rcases hs with z | z
        · exact z ω' cn
        · exact many hr i1 cn.2.1 t3 t4 (fun x hx => q _ ω' cn r hr.1 hr.2 trivial hL x hx) (z _ ω' cn trivial)
    unfold NI
    rw [e]
    exact ⟨Or.inl rfl, t2, ⟨i1, i2, i3, i4, Or.inr ⟨gi_sis, tm⟩⟩, fun _ _ _ _ k => k, fun _ => eqW_refl _, fun q => by omega, fun q => by rw [gi_sis] at q; omega⟩
  · obtain ⟨n1, n2, n3, n4, n5, n6, n7⟩ := t4
    refine ⟨Or.inr rfl, t2, ⟨n1, n2, fun q q0 q1 w => ?_, ?_, by rw [t3]; exact i5⟩, n3, fun q => by omega, fun _ => n6, fun q => ⟨by rw [← t3]; exact q, n4⟩⟩
    · obtain ⟨a1, a2⟩ := i3 q q0 q1 w
      obtain ⟨b1, b2⟩ := n7 q q0 q1 (fun z => w (by rw [z]; exact hL))
      exact ⟨by rw [b1, a1], fun x x0 x1 => by rw [b2 x x0 (by omega), a2 x x0 x1]⟩
    · rcases i4 with q | q
      · exact Or.inl q
      · rcases hs with z | z
        · exact Or.inl z
        · right
          intro Dm ω' cn q' q0 q1 hD l x hx
          rcases n5 q' x q0 q1 hx with y | ⟨rfl, rfl⟩
          · exact q Dm ω' cn q' q0 q1 hD l x y
          · exact z Dm ω' cn hD
theorem or_01 {a b : Int} (ha : a = 0 ∨ a = 1) (hb : b = 0 ∨ b = 1) : dm_or a b = if a = 1 ∨ b = 1 then 1 else 0 := by
  rcases ha with rfl | rfl <;> rcases hb with rfl | rfl <;> decide
section MAKE
variable {oc : Int → Int → Prop} {u : mU} {p : Int}
variable (cl kd ly ft RL L ω0 u) in
/-- what has come since h, with b telling whether anything has -/
def MS (h : dm_H) (b : Int) (h' : dm_H) : Prop := (b = 0 ∨ b = 1) ∧ frM h h' ∧ NI cl kd ly ft RL L ω0 h' ∧ (∀ q x, 0 ≤ q → q < 6 → cov cl kd (nW h) q x → cov cl kd (nW h') q x) ∧ (b = 0 → eqW (nW h) (nW h')) ∧ wgh cl kd (nW h) ≤ wgh cl kd (nW h') ∧ (b = 1 → wgh cl kd (nW h) < wgh cl kd (nW h')) ∧ (gi h' 165 27 = 0 → gi h 165 27 = 0)
theorem MS_refl {h : dm_H} (I : NI cl kd ly ft RL L ω0 h) : MS cl kd ly ft RL L ω0 h 0 h := ⟨Or.inl rfl, frM_refl h, I, fun _ _ _ _ k => k, fun _ => eqW_refl _, Int.le_refl _, fun q => by omega, fun q => q⟩
/-- the search and its like leave the rows alone -/
theorem MS_r {h h1 h2 : dm_H} {b : Int} (m : MS cl kd ly ft RL L ω0 h b h1) (f : frM h1 h2) (e : ∀ a i, a = 179 ∨ a = 180 ∨ (a = 165 ∧ i = 27) → gi h2 a i = gi h1 a i) : MS cl kd ly ft RL L ω0 h b h2 ∧ nW h2 = nW h1 := by
  have en : nW h2 = nW h1 := by
    unfold nW
    congr 1
    · funext r; exact e _ _ (by omega)
    · funext r x; exact e _ _ (by omega)
  obtain ⟨m1, m2, m3, m4, m5, m6, m7, m8⟩ := m
  unfold NI at m3
  have e27 := e 165 27 (by omega)
  refine ⟨⟨m1, frM_trans m2 f, ?_, ?_, ?_, ?_, ?_, ?_⟩, en⟩
  · unfold NI; rw [en, e27]; exact m3
  · rw [en]; exact m4
  · rw [en]; exact m5
  · rw [en]; exact m6
  · rw [en]; exact m7
  · rw [e27]; exact m8
theorem MS_put {d : Nat} (hd : 2 ≤ d) (D : DC cl kd) {h h1 : dm_H} {b : Int} (m : MS cl kd ly ft RL L ω0 h b h1) {r c : Int} (hr : 0 ≤ r ∧ r < 6) (e6 : gi h1 166 r = cl r) (e7 : gi h1 167 r = kd r) (hL : ly r = L) (hc : vcd (cl r) c) (hs : tmW cl kd ly ft RL L ω0 ∨ ∀ Dm ω', cnW cl kd ly ft RL L ω0 Dm ω' → Dm r → cov cl kd ω' r c) :
    ∃ b' h2, dF d 186 [dR 1 11 165, dI r, dI c] h1 = rI b' h2 ∧ MS cl kd ly ft RL L ω0 h (dm_or b b') h2 ∧ frN h1 h2 ∧ (∀ q x, 0 ≤ q → q < 6 → cov cl kd (nW h1) q x → cov cl kd (nW h2) q x) ∧ (gi h2 165 27 = 0 → gi h1 165 27 = 0 ∧ cov cl kd (nW h2) r c) := by
  obtain ⟨m1, m2, m3, m4, m5, m6, m7, m8⟩ := m
  obtain ⟨b', h2, t1, t2, t3, t4, t5, t6, t7, t8⟩ := s186n hd D hr e6 e7 hL m3 hc hs
  refine ⟨b', h2, t1, ?_, t3, t5, t8⟩
  have le : wgh cl kd (nW h1) ≤ wgh cl kd (nW h2) := by
    rcases t2 with q | q
    · rw [eqW_wgh (t6 q)]; omega
    · have := t7 q; omega
  unfold MS
  rw [or_01 m1 t2]
  refine ⟨?_, frM_trans m2 (frM_N t3), t4, fun q x q0 q1 k => t5 q x q0 q1 (m4 q x q0 q1 k), fun q => ?_, by omega, fun q => ?_, fun q => m8 (t8 q).1⟩
  · split <;> omega
  · have : ¬ (b = 1 ∨ b' = 1) := fun z => by rw [if_pos z] at q; omega
    exact eqW_trans (m5 (by omega)) (t6 (by omega))
  · have : b = 1 ∨ b' = 1 := by
      by_cases z : b = 1 ∨ b' = 1
      · exact z
      · rw [if_neg z] at q; omega
    rcases this with z | z
    · have := m7 z; omega
    · have := t7 z; omega
theorem s210 {d : Nat} (hd : 3 ≤ d) {h : dm_H} (D : DC cl kd) (U : UR cl kd u p h) (R : RU cl kd ly oc u) {g : Int} (hg : 0 ≤ g ∧ g < 40) (hs : 0 ≤ gi h 189 g) (hk : 0 ≤ gi h 188 g ∧ gi h 188 g < 1000000) : dF d 210 [dR 1 11 165, dI p, dI g] h = rI (gi h 188 g + m99 (gi h 189 g) * dm_unit (cl u.2.1 - 1)) h := by
  obtain ⟨u1, u2, u3, u4, u5, u6, u7, u8, u9⟩ := U
  have D1 := (D u.2.1 R.2.1.1 R.2.1.2).1
  have hk3 := R.1
  have h206 := s206 (d := d - 1) (by omega) (h := h) (n := cl u.2.1) u1 (by rw [u2]; omega) (by rw [u3]; exact R.2.1) (by rw [u3]; exact u8)
  have key : ∀ (x : Int), (0 ≤ x ∧ x ≤ 99) → dL (d - 1) 210 22 [lR 1 11 165, lI p, lI g, none, none] [dI x] h = rI (gi h 188 g + x * dm_unit (cl u.2.1 - 1)) h := by
    intro x hx
    rw [b210_22, h206, bk_v, b210_28, ix_p hg.1 hg.2]
    rcases (show cl u.2.1 = 1 ∨ cl u.2.1 = 2 ∨ cl u.2.1 = 3 by omega) with q | q | q
    · rw [if_pos q, b210_60, ck_p (by omega) (by omega), ck_p (by omega) (by omega), q, show dm_unit (1 - 1) = 10000 from dm_unit0]
      refine congrArg (fun x => rI x h) ?_
      omega
    · rw [if_neg (by omega), if_pos q, b210_60, ck_p (by omega) (by omega), ck_p (by omega) (by omega), q, show dm_unit (2 - 1) = 100 from dm_unit1]
      refine congrArg (fun x => rI x h) ?_
      omega
    · rw [if_neg (by omega), if_neg (by omega), b210_60, ck_p (by omega) (by omega), ck_p (by omega) (by omega), q, show dm_unit (3 - 1) = 1 from dm_unit2]
      refine congrArg (fun x => rI x h) ?_
      omega
  rw [f210 (by omega), b210_0, ix_p hg.1 hg.2]
  by_cases q : 99 < gi h 189 g
  · rw [if_pos q, key 99 (by omega)]
    unfold m99
    rw [if_pos q]
  · rw [if_neg q, ix_p hg.1 hg.2, key _ (by omega)]
    unfold m99
    rw [if_neg q]
theorem s188 {d : Nat} (hd : 9 ≤ d) {h : dm_H} (D : DC cl kd) (U : UR cl kd u p h) (R : RU cl kd ly oc u) (hRL : RL u) (hL : ly u.2.1 = L) (V : VW cl kd (rW h)) (E : eqW (rW h) (nW h)) (I : NI cl kd ly ft RL L ω0 h) :
    ∃ b h', dF d 188 [dR 1 11 165, dI p] h = rI b h' ∧ MS cl kd ly ft RL L ω0 h b h' ∧ (gi h' 165 27 = 0 → ∀ c, mkd cl u (rW h) c → cov cl kd (nW h') u.2.1 c) := by
  have D1 := (D u.2.1 R.2.1.1 R.2.1.2).1
  have hJ : ∀ w, w ∈ bnds u (rW h) → Jg u.2.2.2.1 u.2.2.2.2 w := fun w hw => bnds_J (RU_GW D R V) hw
  have hsnd : ∀ c, mkd cl u (rW h) c → tmW cl kd ly ft RL L ω0 ∨ ∀ Dm ω', cnW cl kd ly ft RL L ω0 Dm ω' → Dm u.2.1 → cov cl kd ω' u.2.1 c := by
    intro c m
    rcases I.2.2.2.1 with q | q
    · exact Or.inl q
    · exact Or.inr (mkd_snd D R hRL hL V (sdW_e (eqW_symm E) q) (otW_e (eqW_symm E) I.2.2.1) m)
  have e0 : gi h 172 (38 * p + 0) = u.1 := by rw [Int.add_zero]; exact U.2.1
  rw [f188 (by omega), b188_0, s179 (by omega) p 1 h U.1 (by omega), bk_v, b188_8, U.2.2.1, s179 (by omega) p 0 h U.1 (by omega), bk_v, b188_15, e0]
  by_cases hu : u.1 = 0
  · rw [if_pos hu, s179 (by omega) p 5 h U.1 (by omega), bk_v, b188_25, U.2.2.2.2.1]
    obtain ⟨h1, t1, t2, t3, t4, t5⟩ := s189u (d := d - 1) (by omega) D U R V
    rw [t1, bk_n]
    have loop : ∀ (l l1 : List mA) (b : Int) (H : dm_H) (w4 : Option dm_V), l1 ++ l = bnds u (rW h) → MS cl kd ly ft RL L ω0 h b H → Itr (rRl H p) (rW H) u.2.2.2.2 H l → (gi H 165 27 = 0 → ∀ w, w ∈ l1 → cov cl kd (nW H) u.2.1 (hdc cl u w)) →
        ∃ b' h', dL (d - 1) 188 28 [lR 1 11 165, lI p, lI b, lI u.2.1, w4] [] H = rI b' h' ∧ MS cl kd ly ft RL L ω0 h b' h' ∧ (gi h' 165 27 = 0 → ∀ w, w ∈ bnds u (rW h) → cov cl kd (nW h') u.2.1 (hdc cl u w)) := by
      intro l
      induction l with
      | nil =>
        intro l1 b H w4 el M IH C
        rw [List.append_nil] at el
        rw [b188_28]
        by_cases z : gi H 165 27 = 0
        · rw [if_pos z]
          obtain ⟨h', a1, a2⟩ := (s190u (d := d - 1) (by omega) D (UR_fr M.2.1 U) R (VW_fr M.2.1 V) IH).1 rfl
          rw [a1, bk_v, b188_40, if_pos rfl, b188_64, z1_p M.1]
          obtain ⟨M', en⟩ := MS_r M (frM_r a2) (fun a i q => a2.1 a i (by omega) (by omega) (by omega) (by omega))
          exact ⟨b, h', rfl, M', fun q w hw => by rw [en]; exact C z w (by rw [el]; exact hw)⟩
        · rw [if_neg z, b188_64, z1_p M.1]
          exact ⟨b, H, rfl, M, fun q => absurd q z⟩
      | cons v l ih =>
        intro l1 b H w4 el M IH C
        rw [b188_28]
        by_cases z : gi H 165 27 = 0
        case neg =>
          rw [if_neg z, b188_64, z1_p M.1]
          exact ⟨b, H, rfl, M, fun q => absurd q z⟩
        rw [if_pos z]
        obtain ⟨h2, a1, a2, a3, a4⟩ := (s190u (d := d - 1) (by omega) D (UR_fr M.2.1 U) R (VW_fr M.2.1 V) IH).2 v l rfl
        obtain ⟨M2, en⟩ := MS_r M (frM_r a2) (fun a i q => a2.1 a i (by omega) (by omega) (by omega) (by omega))
        have U2 := UR_fr M2.2.1 U
        have hv : v ∈ bnds u (rW h) := by rw [← el]; exact List.mem_append_right _ List.mem_cons_self
        have hJv := hJ v hv
        have hlast := hd_r R hJv (j := cl u.2.1 - 1) (by omega) (by omega)
        have ehd : gkv cl u v + tv v (u.2.2.1 (cl u.2.1 - 1)) * dm_unit (cl u.2.1 - 1) = hdc cl u v := (hcd_last D1).symm
        rw [a1, bk_v, b188_40, if_neg (by decide), s205k (by omega) D U2 R a3 hJv, bk_v, b188_53, s207k (by omega) D U2 R a3 hJv hlast, bk_v, b188_56, ehd]
        obtain ⟨b', h3, c1, c2, c3, c4, c5⟩ := MS_put (d := d - 1) (by omega) D M2 R.2.1 U2.2.2.2.2.2.2.2.1 U2.2.2.2.2.2.2.2.2 hL (hd_cv D R hJv).2 (hsnd _ (Or.inl ⟨hu, v, hv, rfl⟩))
        rw [c1, bk_v, b188_59]
        have e3 := frM_f (frM_N c3)
        refine ih (l1 ++ [v]) _ h3 w4 (by rw [List.append_assoc]; exact el) c2 ?_ (fun q w hw => ?_)
        · rw [eqf_R e3, eqf_W e3]
          exact Itr_cg (fun i q => c3.1 _ _ (by decide) (by decide) (by omega)) (fun a i q => c3.1 _ _ (by omega) (by omega) (by omega)) a4
        · obtain ⟨y1, y2⟩ := c5 q
          rcases List.mem_append.mp hw with hw | hw
          · exact c4 _ _ R.2.1.1 R.2.1.2 (by rw [en]; exact C z w hw)
          · rw [List.mem_singleton] at hw
            subst hw
            exact y2
    obtain ⟨M1, en⟩ := MS_r (MS_refl I) t2 t4
    obtain ⟨b', h', q1, q2, q3⟩ := loop (bnds u (rW h)) [] 0 h1 none rfl M1 (by rw [eqf_R (frM_f t2), eqf_W (frM_f t2)]; rw [eqf_R (frM_f t2), eqf_W (frM_f t2)] at t5; exact t5) (fun _ w hw => absurd hw List.not_mem_nil)
    refine ⟨b', h', q1, q2, fun z c m => ?_⟩
    rcases m with ⟨_, w, hw, rfl⟩ | ⟨m, _⟩
    · exact q3 z w hw
    · exact absurd hu m
  · rw [if_neg hu]
    have hu12 : u.1 = 1 ∨ u.1 = 2 := by have := R.1; omega
    obtain ⟨h1, l, t1, t2, t3, t4, t5, t6⟩ := s208 (d := d - 1) (by omega) D U R hu12 V
    rw [t1, bk_n, b188_71]
    obtain ⟨M1, en1⟩ := MS_r (MS_refl I) t2 t3
    have hgn := t4.1
    have hkey : ∀ x, 0 ≤ x → x < gi h1 165 34 → (∃ v, v ∈ bnds u (rW h) ∧ gkv cl u v = gi h1 188 x) ∧ vcd (cl u.2.1 - 1) (gi h1 188 x) ∧ 0 ≤ gi h1 189 x := by
      intro x x0 x1
      obtain ⟨⟨v, v1, v2⟩, v3⟩ := t4.2.2.1 x x0 x1
      refine ⟨⟨v, t5 v v1, v2⟩, ?_, ?_⟩
      · rw [← v2]
        exact (hcd_cv (n := cl u.2.1 - 1) (by omega) (fun j j0 j1 => hd_r R (hJ v (t5 v v1)) j0 (by omega))).2
      · rw [v3]
        exact (m9_r (gsm_nn (fun w hw => (gam_r D1.1 (fun i i0 i1 => hd_r R (hJ w (t5 w hw)) i0 i1)).1))).1
    have hrow : ∀ x, 0 ≤ x → x < gi h1 165 34 → vcd (cl u.2.1) (gi h1 188 x + m99 (gi h1 189 x) * dm_unit (cl u.2.1 - 1)) ∧ (∀ i, 0 ≤ i → i < cl u.2.1 - 1 → cv i (gi h1 188 x + m99 (gi h1 189 x) * dm_unit (cl u.2.1 - 1)) = cv i (gi h1 188 x)) := by
      intro x x0 x1
      obtain ⟨_, k2, k3⟩ := hkey x x0 x1
      obtain ⟨r1, r2, _⟩ := row_cv D1 k2 (m99_r k3)
      exact ⟨r1, r2⟩
    -- 33 groups are too many
    have h33 : gi h1 165 34 = 33 → ∀ ω', VW cl kd ω' → (∀ x, 0 ≤ x → x < 33 → ∃ c, cov cl kd ω' u.2.1 c ∧ vcd (cl u.2.1) c ∧ ∀ i, 0 ≤ i → i < cl u.2.1 - 1 → cv i c = cv i (gi h1 188 x)) → False := by
      intro e33 ω' V' hall
      have hall' : ∀ x : Int, ∃ c, 0 ≤ x → x ≤ 32 → cov cl kd ω' u.2.1 c ∧ vcd (cl u.2.1) c ∧ ∀ i, 0 ≤ i → i < cl u.2.1 - 1 → cv i c = cv i (gi h1 188 x) := by
        intro x
        by_cases q : 0 ≤ x ∧ x ≤ 32
        · obtain ⟨c, hc⟩ := hall x q.1 (by omega)
          exact ⟨c, fun _ _ => hc⟩
        · exact ⟨0, fun a b => absurd ⟨a, b⟩ q⟩
      have hf := fun x => (hall' x).choose_spec
      refine many2 R.2.1 V' (fun x => (hall' x).choose) (fun x y x0 xy y1 => ?_) (fun x x0 x1 => (hf x x0 x1).1)
      have hx := hf x x0 (by omega)
      have hy := hf y (by omega) y1
      have hne := t4.2.1 x y x0 xy (by omega)
      by_cases q : ∃ i, 0 ≤ i ∧ i < kwd cl kd u.2.1 ∧ cv i ((hall' x).choose) ≠ cv i ((hall' y).choose)
      · exact q
      · refine absurd (vcd_ext (hkey x x0 (by omega)).2.1 (hkey y (by omega) (by omega)).2.1 (fun i i0 i1 i2 => ?_)) hne
        rw [← hx.2.2 i i0 i1, ← hy.2.2 i i0 i1]
        by_cases w : cv i ((hall' x).choose) = cv i ((hall' y).choose)
        · exact w
        · refine absurd ⟨i, i0, ?_, w⟩ q
          unfold kwd
          split <;> omega
    have htm : gi h1 165 34 = 33 → tmW cl kd ly ft RL L ω0 := by
      intro e33
      rcases I.2.2.2.1 with q | q
      · exact q
      intro ω' cn
      refine h33 e33 ω' cn.2.1 (fun x x0 x1 => ?_)
      obtain ⟨⟨v, v1, v2⟩, k2, k3⟩ := hkey x x0 (by omega)
      have hv := (mkd_snd D R hRL hL V (sdW_e (eqW_symm E) q) (otW_e (eqW_symm E) I.2.2.1) (Or.inr ⟨hu, v, v1, rfl⟩)) _ ω' cn trivial
      have hgs : 0 ≤ gsm (gkv cl u) (gam cl u) (gkv cl u v) (bnds u (rW h)) := gsm_nn (fun w hw => (gam_r D1.1 (fun i i0 i1 => hd_r R (hJ w hw) i0 i1)).1)
      rw [← v2] at k2
      obtain ⟨r1, r2, _⟩ := row_cv D1 k2 (m99_r hgs)
      exact ⟨_, hv, r1, fun i i0 i1 => by rw [← v2]; exact r2 i i0 i1⟩
    have hgrow : gi h1 165 34 ≠ 33 → ∀ x, 0 ≤ x → x < gi h1 165 34 → gi h1 188 x + m99 (gi h1 189 x) * dm_unit (cl u.2.1 - 1) = grow cl u (rW h) (gi h1 188 x) := by
      intro e33 x x0 x1
      rw [(t4.2.2.1 x x0 x1).2, t6 (by omega), m99_m9]
      rfl
    have loop : ∀ (m : Nat) (x b : Int) (H : dm_H), 0 ≤ x → x + m = gi h1 165 34 → MS cl kd ly ft RL L ω0 h b H → (∀ a i, a = 188 ∨ a = 189 ∨ (a = 165 ∧ i = 34) → gi H a i = gi h1 a i) → (gi H 165 27 = 0 → ∀ y, 0 ≤ y → y < x → cov cl kd (nW H) u.2.1 (gi h1 188 y + m99 (gi h1 189 y) * dm_unit (cl u.2.1 - 1))) →
        ∃ b' h', dL (d - 1) 188 74 [lR 1 11 165, lI p, lI b, lI u.2.1, lI x] [] H = rI b' h' ∧ MS cl kd ly ft RL L ω0 h b' h' ∧ (gi h' 165 27 = 0 → ∀ y, 0 ≤ y → y < gi h1 165 34 → cov cl kd (nW h') u.2.1 (gi h1 188 y + m99 (gi h1 189 y) * dm_unit (cl u.2.1 - 1))) := by
      intro m
      induction m with
      | zero =>
        intro x b H x0 xm M e C
        rw [b188_74, e 165 34 (by omega), if_neg (by omega), b188_111, z1_p M.1]
        exact ⟨b, H, rfl, M, fun q y y0 y1 => C q y y0 (by omega)⟩
      | succ m ih =>
        intro x b H x0 xm M e C
        rw [b188_74, e 165 34 (by omega), if_pos (by omega)]
        by_cases z : gi H 165 27 = 0
        case neg =>
          rw [if_neg z, b188_111, z1_p M.1]
          exact ⟨b, H, rfl, M, fun q => absurd q z⟩
        have UH := UR_fr M.2.1 U
        obtain ⟨⟨v, v1, v2⟩, k2, k3⟩ := hkey x x0 (by omega)
        obtain ⟨r1, r2⟩ := hrow x x0 (by omega)
        have q8 : gi H 188 x = gi h1 188 x := e _ _ (by omega)
        have q9 : gi H 189 x = gi h1 189 x := e _ _ (by omega)
        rw [if_pos z, s210 (by omega) D UH R (g := x) (by omega) (by rw [q9]; exact k3) (by rw [q8]; exact k2.1), bk_v, b188_100, q8, q9]
        have hs : tmW cl kd ly ft RL L ω0 ∨ ∀ Dm ω', cnW cl kd ly ft RL L ω0 Dm ω' → Dm u.2.1 → cov cl kd ω' u.2.1 (gi h1 188 x + m99 (gi h1 189 x) * dm_unit (cl u.2.1 - 1)) := by
          by_cases e33 : gi h1 165 34 = 33
          · exact Or.inl (htm e33)
          · rw [hgrow e33 x x0 (by omega)]
            exact hsnd _ (Or.inr ⟨hu, v, v1, by rw [v2]⟩)
        obtain ⟨b', h3, c1, c2, c3, c4, c5⟩ := MS_put (d := d - 1) (by omega) D M R.2.1 UH.2.2.2.2.2.2.2.1 UH.2.2.2.2.2.2.2.2 hL r1 hs
        rw [c1, bk_v, b188_103, ck_p (by omega) (by omega)]
        refine ih (x + 1) _ h3 (by omega) (by omega) c2 (fun a i q => by rw [c3.1 a i (by omega) (by omega) (by omega)]; exact e a i q) (fun q y y0 y1 => ?_)
        obtain ⟨y2, y3⟩ := c5 q
        by_cases w : y = x
        · rw [w]; exact y3
        · exact c4 _ _ R.2.1.1 R.2.1.2 (C z y y0 (by omega))
    obtain ⟨b', h', q1, q2, q3⟩ := loop (gi h1 165 34).toNat 0 0 h1 (by omega) (by omega) M1 (fun a i q => rfl) (fun _ y y0 y1 => by omega)
    refine ⟨b', h', q1, q2, fun z c m => ?_⟩
    by_cases e33 : gi h1 165 34 = 33
    · exact (h33 e33 (nW h') q2.2.2.1.1 (fun x x0 x1 => ⟨_, q3 z x x0 (by omega), (hrow x x0 (by omega)).1, (hrow x x0 (by omega)).2⟩)).elim
    · rcases m with ⟨m, _⟩ | ⟨_, v, hv, rfl⟩
      · exact absurd m hu
      · obtain ⟨x, x0, x1, x2⟩ := t4.2.2.2 v (by rw [t6 (by omega)]; exact hv)
        have := q3 z x x0 x1
        rw [hgrow e33 x x0 x1, x2] at this
        exact this
end MAKE
end MK
