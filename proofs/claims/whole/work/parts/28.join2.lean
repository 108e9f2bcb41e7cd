/-! THE JOINER'S PARTS, on -/
/-- a term (no ANY) is given a number -/
def pI (v : mA) (t x : Int) : Option mA := if slot t = -1 then (if t = x then some v else none) else if v (slot t) = -1 then some (upd1 v (slot t) x) else if v (slot t) = x then some v else none
theorem b1_pI (v : mA) (t x : Int) : b1 v t x = if t = -1 then some v else pI v t x := rfl
theorem pI_nv {v w : mA} {t x : Int} (hv : nv v) (h : pI v t x = some w) : nv w ∧ lev v w := by
  unfold pI at h
  split at h
  · split at h
    · cases h; exact ⟨hv, lev_refl _⟩
    · cases h
  rename_i h2
  split at h
  · rename_i h3
    cases h
    exact ⟨nv_upd hv (slotne h2), lev_upd h3⟩
  split at h
  · cases h; exact ⟨hv, lev_refl _⟩
  · cases h
theorem s52 {d : Nat} (hd : 2 ≤ d) (t x : Int) (h : dm_H) : dF d 52 [dR 1 5 137, dI t, dI x] h = match pI (va h 138) t x with
    | some w => rI 1 (sv h 138 w)
    | none => rI 0 h := by
  rw [f52 (by omega), b52_0, s46 (by omega), bk_v, b52_4]
  unfold pI
  by_cases h1 : slot t = -1
  · simp only [if_pos h1]
    by_cases h2 : t = x
    · simp only [if_pos h2]
      rw [b52_20, z1_p (Or.inr rfl), sv_va]
    · simp only [if_neg h2]
      rw [b52_20, z1_p (Or.inl rfl)]
  have hs := slotne h1
  simp only [if_neg h1]
  rw [ix_p hs.1 hs.2, va_in hs]
  by_cases h3 : gi h 138 (slot t) = -1
  · simp only [if_pos h3]
    rw [ix_p hs.1 hs.2, b52_38, ix_p hs.1 hs.2, gi_sis, if_pos rfl, b52_53, z1_p (Or.inr rfl), si_sv hs]
  simp only [if_neg h3]
  rw [b52_38, ix_p hs.1 hs.2]
  by_cases h4 : gi h 138 (slot t) = x
  · simp only [if_pos h4]
    rw [b52_53, z1_p (Or.inr rfl), sv_va]
  · simp only [if_neg h4]
    rw [b52_53, z1_p (Or.inl rfl)]
/-- terms are given the columns of a row -/
def pH (t : Int → Int) (c : Int) : Nat → Int → mA → Option mA
  | 0, _, v => some v
  | k + 1, i, v => match pI v (t i) (cv i c) with
    | none => none
    | some v' => pH t c k (i + 1) v'
theorem pH_nv {t : Int → Int} {c : Int} : ∀ {k : Nat} {i : Int} {v w : mA}, nv v → pH t c k i v = some w → nv w ∧ lev v w
  | 0, i, v, w, hv, h => by cases h; exact ⟨hv, lev_refl _⟩
  | k + 1, i, v, w, hv, h => by
    unfold pH at h
    cases hb : pI v (t i) (cv i c) with
    | none => rw [hb] at h; cases h
    | some u =>
      rw [hb] at h
      obtain ⟨a1, a2⟩ := pI_nv hv hb
      obtain ⟨a3, a4⟩ := pH_nv a1 h
      exact ⟨a3, lev_trans a2 a4⟩
theorem s149 {d : Nat} (hd : 3 ≤ d) (n c : Int) (h : dm_H) {A : Nat} (hA : gr h 137 6 = A) (hr : ru A) (hn : 0 ≤ n ∧ n ≤ 3) (hc : 0 ≤ c ∧ c < 1000000) :
    (∀ w, pH (fun i => gi h (A + 1) i) c n.toNat 0 (va h 138) = some w → dF d 149 [dR 1 5 137, dI n, dI c] h = rI 1 (sv h 138 w)) ∧ (pH (fun i => gi h (A + 1) i) c n.toNat 0 (va h 138) = none → ∃ u, nv u ∧ dF d 149 [dR 1 5 137, dI n, dI c] h = rI 0 (sv h 138 u)) := by
  have hA1 : A + 1 ≠ 138 := by unfold ru at hr; omega
  rw [f149 (by omega), b149_0]
  have key : ∀ (m : Nat) (i : Int) (u : mA), 0 ≤ i → i + m = n → nv u →
      (∀ w, pH (fun i => gi h (A + 1) i) c m i u = some w → dL (d - 1) 149 2 [lR 1 5 137, lI n, lI c, lI i] [] (sv h 138 u) = rI 1 (sv h 138 w)) ∧ (pH (fun i => gi h (A + 1) i) c m i u = none → ∃ u', nv u' ∧ dL (d - 1) 149 2 [lR 1 5 137, lI n, lI c, lI i] [] (sv h 138 u) = rI 0 (sv h 138 u')) := by
    intro m
    induction m with
    | zero =>
      intro i u h0 hm hu
      have e : dL (d - 1) 149 2 [lR 1 5 137, lI n, lI c, lI i] [] (sv h 138 u) = rI 1 (sv h 138 u) := by rw [b149_2, if_neg (by omega)]
      refine ⟨fun w hw => ?_, fun hw => nomatch (show (some u : Option mA) = none from hw)⟩
      cases (show some u = some w from hw)
      exact e
    | succ m ih =>
      intro i u h0 hm hu
      rw [b149_2, if_pos (by omega), ix_p h0 (by omega), ix_p h0 (by omega), dv_p hc.1 (unit_pos i), dv_p (unit_div hc.1) (by omega), cv_unit ⟨h0, by omega⟩ hc, gr_sv, hA, gi_svn hA1, s52 (by omega), va_sv hu]
      show (∀ w, (match pI u (gi h (A + 1) i) (cv i c) with
        | none => none
        | some v' => pH (fun i => gi h (A + 1) i) c m (i + 1) v') = some w → _) ∧ ((match pI u (gi h (A + 1) i) (cv i c) with
        | none => none
        | some v' => pH (fun i => gi h (A + 1) i) c m (i + 1) v') = none → _)
      cases hp : pI u (gi h (A + 1) i) (cv i c) with
      | none =>
        refine ⟨fun w hw => (nomatch hw), fun _ => ⟨u, hu, ?_⟩⟩
        show dm_back _ _ _ _ _ (rI 0 (sv h 138 u)) = _
        rw [bk_v, b149_30, if_pos rfl]
      | some w =>
        obtain ⟨a1, a2⟩ := pI_nv hu hp
        have := ih (i + 1) w (by omega) (by omega) a1
        have e : dm_back (dL (d - 1) 149) dm_t149 27 [lR 1 5 137, lI n, lI c, lI i] [] (rI 1 (sv (sv h 138 u) 138 w)) = dL (d - 1) 149 2 [lR 1 5 137, lI n, lI c, lI (i + 1)] [] (sv h 138 w) := by
          rw [bk_v, b149_30, if_neg (by omega), ck_p (by omega) (by omega), sv_sv]
        show (∀ w', pH (fun i => gi h (A + 1) i) c m (i + 1) w = some w' → dm_back (dL (d - 1) 149) dm_t149 27 [lR 1 5 137, lI n, lI c, lI i] [] (rI 1 (sv (sv h 138 u) 138 w)) = _) ∧ (pH (fun i => gi h (A + 1) i) c m (i + 1) w = none → ∃ u', nv u' ∧ dm_back (dL (d - 1) 149) dm_t149 27 [lR 1 5 137, lI n, lI c, lI i] [] (rI 1 (sv (sv h 138 u) 138 w)) = _)
        rw [e]
        exact this
  have := key n.toNat 0 (va h 138) (by omega) (by omega) (nv_va h 138)
  rw [sv_va] at this
  exact this
theorem s50 {d : Nat} (hd : 3 ≤ d) (k : Int) (h : dm_H) {A : Nat} (hA : gr h 137 6 = A) (hk : 0 ≤ k ∧ k < 4) (h0 : 0 ≤ tv (va h 138) (tm h A k 0) ∧ tv (va h 138) (tm h A k 0) ≤ 99) (h1 : 0 ≤ tv (va h 138) (tm h A k 1) ∧ tv (va h 138) (tm h A k 1) ≤ 99) (h2 : slot (tm h A k 2) ≠ -1) :
    dF d 50 [dR 1 5 137, dI k] h = if va h 138 (slot (tm h A k 2)) = -1 then rI (dm_shl 1 (slot (tm h A k 2))) (sv h 138 (upd1 (va h 138) (slot (tm h A k 2)) (rck (gi h (A + 3) k) (tv (va h 138) (tm h A k 0)) (tv (va h 138) (tm h A k 1))))) else if va h 138 (slot (tm h A k 2)) = rck (gi h (A + 3) k) (tv (va h 138) (tm h A k 0)) (tv (va h 138) (tm h A k 1)) then rI 0 h else rI (-1) h := by
  have hs := slotne h2
  have e0 : tm h A k 0 = gi h (A + 5) (k * 3) := by unfold tm; rw [Int.add_zero]
  rw [f50 (by omega), b50_0, ck_p (by omega) (by omega), ix_p (by omega) (by omega), s31 (by omega), bk_v, b50_22, ck_p (by omega) (by omega), ck_p (by omega) (by omega), ix_p (by omega) (by omega), s31 (by omega), bk_v, b50_47, ck_p (by omega) (by omega), ck_p (by omega) (by omega), ix_p (by omega) (by omega), s46 (by omega), bk_v, b50_68, hA, tv_va, tv_va]
  rw [← e0, show gi h (A + 5) (k * 3 + 1) = tm h A k 1 from rfl, show gi h (A + 5) (k * 3 + 2) = tm h A k 2 from rfl]
  have hfin : ∀ (fr : Int) (y : Option dm_V), fr = bi (va h 138 (slot (tm h A k 2)) = -1) → dL (d - 1) 50 92 [lR 1 5 137, lI k, lI (tv (va h 138) (tm h A k 0)), lI (tv (va h 138) (tm h A k 1)), lI (tm h A k 2), lI (slot (tm h A k 2)), y, none] [dI fr] h = if va h 138 (slot (tm h A k 2)) = -1 then rI (dm_shl 1 (slot (tm h A k 2))) (sv h 138 (upd1 (va h 138) (slot (tm h A k 2)) (rck (gi h (A + 3) k) (tv (va h 138) (tm h A k 0)) (tv (va h 138) (tm h A k 1))))) else if va h 138 (slot (tm h A k 2)) = rck (gi h (A + 3) k) (tv (va h 138) (tm h A k 0)) (tv (va h 138) (tm h A k 1)) then rI 0 h else rI (-1) h := by
    intro fr y hfr
    rw [b50_92, ix_p hk.1 hk.2, s51 (by omega) _ _ _ _ h0 h1, bk_v, b50_111, s52 (by omega), hA]
    unfold pI
    simp only [if_neg h2]
    by_cases q : va h 138 (slot (tm h A k 2)) = -1
    · simp only [if_pos q]
      rw [bk_v, b50_114, if_neg (by omega), hfr, bi_1 q, if_neg (by omega), b50_138]
    · simp only [if_neg q]
      by_cases q2 : va h 138 (slot (tm h A k 2)) = rck (gi h (A + 3) k) (tv (va h 138) (tm h A k 0)) (tv (va h 138) (tm h A k 1))
      · simp only [if_pos q2]
        rw [bk_v, b50_114, if_neg (by omega), hfr, bi_0 q, if_pos rfl, b50_138, sv_va]
      · simp only [if_neg q2]
        rw [bk_v, b50_114, if_pos rfl, b50_138]
  rw [if_neg h2, ix_p hs.1 hs.2]
  by_cases q : gi h 138 (slot (tm h A k 2)) = -1
  · rw [if_pos q]
    exact hfin 1 _ (by rw [bi_1 (by rw [va_in hs]; exact q)])
  · rw [if_neg q, b50_91]
    exact hfin 0 _ (by rw [bi_0 (by rw [va_in hs]; exact q)])
/-- what of a row a literal looks at -/
def snr (t : Int → Int) (c : Int) : Nat → Int → Int → Int
  | 0, _, z => z
  | n + 1, i, z => snr t c n (i + 1) (if t i = -1 then z else z + cv i c * dm_unit i)
theorem s25 {d : Nat} (hd : 1 ≤ d) (A : Nat) (k c : Int) (h : dm_H) (hk : 0 ≤ k ∧ k < 4) (hw : 0 ≤ gi h (A + 4) k ∧ gi h (A + 4) k ≤ 3) (hc : 0 ≤ c ∧ c < 1000000) (hy : gi h (A + 6) k ≠ 0) : dF d 25 [dR 1 8 A, dI k, dI c] h = rI (snr (tm h A k) c (gi h (A + 4) k).toNat 0 0) h := by
  rw [f25 hd, b25_0, ix_p hk.1 hk.2, if_neg hy]
  have key : ∀ (n : Nat) (i z : Int), 0 ≤ i → i + n = gi h (A + 4) k → 0 ≤ z → z ≤ i * 1000000 → dL (d - 1) 25 16 [lR 1 8 A, lI k, lI c, lI z, lI i] [] h = rI (snr (tm h A k) c n i z) h := by
    intro n
    induction n with
    | zero =>
      intro i z h0 hn hz0 hz1
      rw [b25_16, ix_p hk.1 hk.2, if_neg (by omega)]
      rfl
    | succ n ih =>
      intro i z h0 hn hz0 hz1
      have hx := cv_r (i := i) (c := c) ⟨h0, by omega⟩ hc
      have hm : 0 ≤ cv i c * dm_unit i ∧ cv i c * dm_unit i ≤ 990000 := by
        rcases (show i = 0 ∨ i = 1 ∨ i = 2 by omega) with rfl | rfl | rfl
        · rw [dm_unit0]; omega
        · rw [dm_unit1]; omega
        · rw [dm_unit2]; omega
      rw [b25_16, ix_p hk.1 hk.2, if_pos (by omega), ck_p (by omega) (by omega), ck_p (by omega) (by omega), ix_p (by omega) (by omega)]
      show _ = rI (snr (tm h A k) c n (i + 1) (if tm h A k i = -1 then z else z + cv i c * dm_unit i)) h
      rw [show gi h (A + 5) (k * 3 + i) = tm h A k i from rfl]
      by_cases h1 : tm h A k i = -1
      · rw [if_pos h1, if_pos h1, b25_63, ck_p (by omega) (by omega)]
        exact ih (i + 1) z (by omega) (by omega) hz0 (by omega)
      · rw [if_neg h1, if_neg h1, ix_p h0 (by omega), dv_p hc.1 (unit_pos i), dv_p (unit_div hc.1) (by omega), ix_p h0 (by omega), cv_unit ⟨h0, by omega⟩ hc, ck_p (by omega) (by omega), ck_p (by omega) (by omega), b25_63, ck_p (by omega) (by omega)]
        exact ih (i + 1) _ (by omega) (by omega) (by omega) (by omega)
  exact key _ 0 0 (by omega) (by omega) (by omega) (by omega)
/-- rows that are the same to an atom -/
def alike (t : Int → Int) (w c c' : Int) : Prop := ∀ i, 0 ≤ i → i < w → t i = -1 ∨ cv i c = cv i c'
theorem snr_eq {t : Int → Int} {w c c' : Int} (hw : 0 ≤ w ∧ w ≤ 3) (hc : 0 ≤ c ∧ c < 1000000) (hc' : 0 ≤ c' ∧ c' < 1000000) : snr t c w.toNat 0 0 = snr t c' w.toNat 0 0 ↔ alike t w c c' := by
  have a0 := cv_r (i := 0) (by omega) hc
  have a1 := cv_r (i := 1) (by omega) hc
  have a2 := cv_r (i := 2) (by omega) hc
  have b0 := cv_r (i := 0) (by omega) hc'
  have b1 := cv_r (i := 1) (by omega) hc'
  have b2 := cv_r (i := 2) (by omega) hc'
  have hex : alike t w c c' ↔ (0 < w → t 0 = -1 ∨ cv 0 c = cv 0 c') ∧ (1 < w → t 1 = -1 ∨ cv 1 c = cv 1 c') ∧ (2 < w → t 2 = -1 ∨ cv 2 c = cv 2 c') := by
    constructor
    · intro h
      exact ⟨fun q => h 0 (by omega) q, fun q => h 1 (by omega) q, fun q => h 2 (by omega) q⟩
    · rintro ⟨h0, h1, h2⟩ i i0 i1
      rcases (show i = 0 ∨ i = 1 ∨ i = 2 by omega) with rfl | rfl | rfl
      · exact h0 i1
      · exact h1 i1
      · exact h2 i1
  rw [hex]
  have ev : ∀ x, snr t x w.toNat 0 0 = (if 0 < w then (if t 0 = -1 then 0 else cv 0 x * 10000) else 0) + (if 1 < w then (if t 1 = -1 then 0 else cv 1 x * 100) else 0) + (if 2 < w then (if t 2 = -1 then 0 else cv 2 x) else 0) := by
    intro x
    rcases (show w = 0 ∨ w = 1 ∨ w = 2 ∨ w = 3 by omega) with rfl | rfl | rfl | rfl
    · rfl
    · show (if t 0 = -1 then 0 else 0 + cv 0 x * dm_unit 0) = _
      rw [dm_unit0]
      split <;> simp_all
    · show (if t (0 + 1) = -1 then (if t 0 = -1 then 0 else 0 + cv 0 x * dm_unit 0) else (if t 0 = -1 then 0 else 0 + cv 0 x * dm_unit 0) + cv (0 + 1) x * dm_unit (0 + 1)) = _
      rw [dm_unit0, show (0 : Int) + 1 = 1 from rfl, dm_unit1]
      by_cases q0 : t 0 = -1 <;> by_cases q1 : t 1 = -1 <;> simp [q0, q1]
    · show (if t (0 + 1 + 1) = -1 then (if t (0 + 1) = -1 then (if t 0 = -1 then 0 else 0 + cv 0 x * dm_unit 0) else (if t 0 = -1 then 0 else 0 + cv 0 x * dm_unit 0) + cv (0 + 1) x * dm_unit (0 + 1)) else (if t (0 + 1) = -1 then (if t 0 = -1 then 0 else 0 + cv 0 x * dm_unit 0) else (if t 0 = -1 then 0 else 0 + cv 0 x * dm_unit 0) + cv (0 + 1) x * dm_unit (0 + 1)) + cv (0 + 1 + 1) x * dm_unit (0 + 1 + 1)) = _
      rw [dm_unit0, show (0 : Int) + 1 = 1 from rfl, dm_unit1, show (1 : Int) + 1 = 2 from rfl, dm_unit2]
      by_cases q0 : t 0 = -1 <;> by_cases q1 : t 1 = -1 <;> by_cases q2 : t 2 = -1 <;> simp [q0, q1, q2]
  rw [ev, ev]
  by_cases w0 : 0 < w <;> by_cases w1 : 1 < w <;> by_cases w2 : 2 < w <;> by_cases q0 : t 0 = -1 <;> by_cases q1 : t 1 = -1 <;> by_cases q2 : t 2 = -1 <;> simp [w0, w1, w2, q0, q1, q2] <;> omega
