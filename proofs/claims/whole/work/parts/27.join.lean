/-! THE JOINER'S PARTS -/
/-- the terms of the k-th literal of the rule at A -/
def tm (h : dm_H) (A : Nat) (k : Int) : Int → Int := fun i => gi h (A + 5) (k * 3 + i)
theorem cv_unit {i c : Int} (hi : 0 ≤ i ∧ i < 3) (hc : 0 ≤ c ∧ c < 1000000) : c / dm_unit i % 100 = cv i c := by
  unfold cv
  rcases (show i = 0 ∨ i = 1 ∨ i = 2 by omega) with rfl | rfl | rfl
  · rw [dm_unit0, if_pos rfl]; omega
  · rw [dm_unit1, if_neg (by omega), if_pos rfl]
  · rw [dm_unit2, if_neg (by omega), if_neg (by omega), Int.ediv_one]
theorem unit_pos (i : Int) : 0 < dm_unit i := by
  unfold dm_unit
  repeat' split
  all_goals omega
theorem cv_r {i c : Int} (hi : 0 ≤ i ∧ i < 3) (hc : 0 ≤ c ∧ c < 1000000) : 0 ≤ cv i c ∧ cv i c ≤ 99 := by
  rw [← cv_unit hi hc]
  omega
theorem unit_div {i c : Int} (hc : 0 ≤ c) : 0 ≤ c / dm_unit i := Int.ediv_nonneg hc (Int.le_of_lt (unit_pos i))
theorem slot_lt {t : Int} (h : t < 100) : slot t = -1 := if_pos h
theorem s45l {d : Nat} (hd : 2 ≤ d) (k c : Int) (h : dm_H) {A : Nat} (hA : gr h 137 6 = A) (hr : ru A) (hk : 0 ≤ k ∧ k < 4) (hw : 0 ≤ gi h (A + 4) k ∧ gi h (A + 4) k ≤ 3) (hc : 0 ≤ c ∧ c < 1000000) : ∀ (n : Nat) (i f : Int) (u : mA) (w5 w6 w7 : Option dm_V), 0 ≤ i → i + n = gi h (A + 4) k → nv u → lev (va h 138) u → fsh f (va h 138) u →
    (∀ w, bA (tm h A k) c n i u = some w → ∃ f', fsh f' (va h 138) w ∧ dL (d - 1) 45 5 [lR 1 5 137, lI k, lI c, lI f, lI i, w5, w6, w7] [] (sv h 138 u) = rI f' (sv h 138 w)) ∧ (bA (tm h A k) c n i u = none → dL (d - 1) 45 5 [lR 1 5 137, lI k, lI c, lI f, lI i, w5, w6, w7] [] (sv h 138 u) = rI (-1) h) := by
  have hA4 : A + 4 ≠ 138 := by unfold ru at hr; omega
  have hA5 : A + 5 ≠ 138 := by unfold ru at hr; omega
  intro n
  induction n with
  | zero =>
    intro i f u w5 w6 w7 h0 hn hu hl hf
    have e : dL (d - 1) 45 5 [lR 1 5 137, lI k, lI c, lI f, lI i, w5, w6, w7] [] (sv h 138 u) = rI f (sv h 138 u) := by
      rw [b45_5, gr_sv, hA, gi_svn hA4, ix_p hk.1 hk.2, if_neg (by omega)]
    refine ⟨fun w hw => ?_, fun hw => nomatch (show (some u : Option mA) = none from hw)⟩
    cases (show some u = some w from hw)
    exact ⟨f, hf, e⟩
  | succ n ih =>
    intro i f u w5 w6 w7 h0 hn hu hl hf
    have hx := cv_r (i := i) (c := c) ⟨h0, by omega⟩ hc
    have hback : ∀ (y1 y2 : Option dm_V), dL (d - 1) 45 125 [lR 1 5 137, lI k, lI c, lI f, lI i, y1, lI (cv i c), y2] [] (sv h 138 u) = rI (-1) h := by
      intro y1 y2
      rw [b45_125, s47b (by omega) f h hf hl (nv_va h 138) hu, bk_n, b45_130, sv_va]
    have hon : ∀ (f' : Int) (u' : mA) (y1 y2 y3 : Option dm_V), nv u' → lev (va h 138) u' → fsh f' (va h 138) u' → (∀ w, bA (tm h A k) c n (i + 1) u' = some w → ∃ f'', fsh f'' (va h 138) w ∧ dL (d - 1) 45 132 [lR 1 5 137, lI k, lI c, lI f', lI i, y1, y2, y3] [] (sv h 138 u') = rI f'' (sv h 138 w)) ∧ (bA (tm h A k) c n (i + 1) u' = none → dL (d - 1) 45 132 [lR 1 5 137, lI k, lI c, lI f', lI i, y1, y2, y3] [] (sv h 138 u') = rI (-1) h) := by
      intro f' u' y1 y2 y3 k1 k2 k3
      rw [b45_132, ck_p (by omega) (by omega)]
      exact ih (i + 1) f' u' y1 y2 y3 (by omega) (by omega) k1 k2 k3
    have hT : tm h A k i = gi h (A + 5) (k * 3 + i) := rfl
    rw [b45_5, gr_sv, hA, gi_svn hA4, ix_p hk.1 hk.2, if_pos (by omega), ck_p (by omega) (by omega), ck_p (by omega) (by omega), ix_p (by omega) (by omega), ix_p h0 (by omega), dv_p hc.1 (unit_pos i), dv_p (unit_div hc.1) (by omega), cv_unit ⟨h0, by omega⟩ hc, gi_svn hA5, ← hT]
    show (∀ w, (match b1 u (tm h A k i) (cv i c) with
      | none => none
      | some v' => bA (tm h A k) c n (i + 1) v') = some w → _) ∧ ((match b1 u (tm h A k i) (cv i c) with
      | none => none
      | some v' => bA (tm h A k) c n (i + 1) v') = none → _)
    generalize tm h A k i = t
    unfold b1
    by_cases h1 : t = -1
    · simp only [if_pos h1]
      exact hon _ _ _ _ _ hu hl hf
    simp only [if_neg h1]
    by_cases h2 : t = cv i c
    · simp only [if_pos h2, if_pos (slot_lt (show t < 100 by omega))]
      exact hon _ _ _ _ _ hu hl hf
    simp only [if_neg h2]
    rw [s46 (by omega), bk_v, b45_69]
    by_cases h3 : slot t = -1
    · simp only [if_pos h3]
      refine ⟨fun w hw => (nomatch hw), fun _ => ?_⟩
      rw [b45_107, if_pos h3]
      exact hback _ _
    have hs := slotne h3
    simp only [if_neg h3]
    rw [ix_p hs.1 hs.2, gi_svi hs]
    by_cases h4 : u (slot t) = -1
    · simp only [if_pos h4]
      rw [ix_p hs.1 hs.2, si_svw hu hs]
      exact hon _ _ _ _ _ (nv_upd hu hs) (lev_trans hl (lev_upd h4)) (fsh_upd hf hl hs h4 (by omega))
    simp only [if_neg h4]
    rw [b45_107, if_neg h3, ix_p hs.1 hs.2, gi_svi hs]
    by_cases h5 : u (slot t) = cv i c
    · simp only [if_pos h5]
      exact hon _ _ _ _ _ hu hl hf
    simp only [if_neg h5]
    exact ⟨fun w hw => (nomatch hw), fun _ => hback _ _⟩
theorem s45 {d : Nat} (hd : 2 ≤ d) (k c : Int) (h : dm_H) {A : Nat} (hA : gr h 137 6 = A) (hr : ru A) (hk : 0 ≤ k ∧ k < 4) (hw : 0 ≤ gi h (A + 4) k ∧ gi h (A + 4) k ≤ 3) (hc : 0 ≤ c ∧ c < 1000000) :
    (∀ w, bA (tm h A k) c (gi h (A + 4) k).toNat 0 (va h 138) = some w → ∃ f, fsh f (va h 138) w ∧ dF d 45 [dR 1 5 137, dI k, dI c] h = rI f (sv h 138 w)) ∧ (bA (tm h A k) c (gi h (A + 4) k).toNat 0 (va h 138) = none → dF d 45 [dR 1 5 137, dI k, dI c] h = rI (-1) h) := by
  have := s45l hd k c h hA hr hk hw hc (gi h (A + 4) k).toNat 0 0 (va h 138) none none none (by omega) (by omega) (nv_va h 138) (lev_refl _) (fsh_0 _)
  rw [sv_va] at this
  rw [f45 (by omega), b45_0]
  exact this
theorem fsh_ne {f : Int} {v w : mA} (h : fsh f v w) : f ≠ -1 := by
  have := h.1.1
  omega
/-- the rows of a relation, as they lie in a store -/
def rws (h : dm_H) (P : Nat) (r : Int) : Int → Int := fun p => gi h (P + 3 + r.toNat) p
def rsz (h : dm_H) (P : Nat) (r : Int) : Int := gi h (P + 1) r
def rst (h : dm_H) (P : Nat) (r : Int) : Int → Int := fun p => gi h (P + 10 + r.toNat) p
theorem rw_e {a : Nat} {x : Int} : a + 2 + 1 + Int.toNat x = a + 3 + x.toNat := by omega
theorem rw_e9 {a : Nat} {x : Int} : a + 9 + 1 + Int.toNat x = a + 10 + x.toNat := by omega
/-- whether a row fits what an atom has by now -/
def fitb (t : Int → Int) (n : Nat) (v : mA) (c : Int) : Prop := (bA t c n 0 v).isSome = true
theorem s44 {d : Nat} (hd : 3 ≤ d) (k : Int) (h : dm_H) {A P : Nat} (hA : gr h 137 6 = A) (hr : ru A) (hP : gr h 137 7 = P) (hp : rw_ P) (hk : 0 ≤ k ∧ k < 4) (hw : 0 ≤ gi h (A + 4) k ∧ gi h (A + 4) k ≤ 3) (hs : 0 ≤ gi h (A + 3) k ∧ gi h (A + 3) k < 6) (hz : 0 ≤ rsz h P (gi h (A + 3) k) ∧ rsz h P (gi h (A + 3) k) ≤ 32) (hc : ∀ p, 0 ≤ p → p < rsz h P (gi h (A + 3) k) → 0 ≤ rws h P (gi h (A + 3) k) p ∧ rws h P (gi h (A + 3) k) p < 1000000) :
    dF d 44 [dR 1 5 137, dI k] h = rI (@bi (∃ p, 0 ≤ p ∧ p < rsz h P (gi h (A + 3) k) ∧ fitb (tm h A k) (gi h (A + 4) k).toNat (va h 138) (rws h P (gi h (A + 3) k) p)) (Classical.propDecidable _)) h := by
  rw [f44 (by omega), b44_0, ix_p hk.1 hk.2, hA]
  generalize hq : gi h (A + 3) k = r at *
  have key : ∀ (n : Nat) (i : Int) (w4 : Option dm_V), 0 ≤ i → i + n = rsz h P r → (∀ p, 0 ≤ p → p < i → ¬ fitb (tm h A k) (gi h (A + 4) k).toNat (va h 138) (rws h P r p)) → dL (d - 1) 44 12 [lR 1 5 137, lI k, lI r, lI i, w4] [] h = rI (@bi (∃ p, 0 ≤ p ∧ p < rsz h P r ∧ fitb (tm h A k) (gi h (A + 4) k).toNat (va h 138) (rws h P r p)) (Classical.propDecidable _)) h := by
    intro n
    induction n with
    | zero =>
      intro i w4 h0 hn hno
      rw [b44_12, ix_p hs.1 hs.2, hP, if_neg (show ¬ i < gi h (P + 1) r by unfold rsz at hn; omega)]
      rw [@bi_0 _ (Classical.propDecidable _)]
      rintro ⟨p, p1, p2, p3⟩
      exact hno p p1 (by omega) p3
    | succ n ih =>
      intro i w4 h0 hn hno
      rw [b44_12, ix_p hs.1 hs.2, hP, if_pos (show i < gi h (P + 1) r by unfold rsz at hn; omega), ix_p hs.1 hs.2, ix_p h0 (by omega), rw_e]
      have h45 := s45 (d := d - 1) (by omega) k (gi h (P + 3 + r.toNat) i) h hA hr hk hw (hc i h0 (by omega))
      cases hb : bA (tm h A k) (gi h (P + 3 + r.toNat) i) (gi h (A + 4) k).toNat 0 (va h 138) with
      | none =>
        rw [h45.2 hb, bk_v, b44_41, if_pos rfl, ck_p (by omega) (by omega)]
        refine ih (i + 1) _ (by omega) (by omega) (fun p p1 p2 => ?_)
        by_cases e : p = i
        · subst e
          unfold fitb rws
          rw [hb]
          simp
        · exact hno p p1 (by omega)
      | some w =>
        obtain ⟨f, g1, g2⟩ := h45.1 w hb
        obtain ⟨g3, g4⟩ := bA_nv (nv_va h 138) hb
        rw [g2, bk_v, b44_41, if_neg (fsh_ne g1), s47b (by omega) f h g1 g4 (nv_va h 138) g3, bk_n, b44_55, sv_va]
        rw [@bi_1 _ (Classical.propDecidable _)]
        exact ⟨i, h0, by omega, by unfold fitb rws; rw [hb]; rfl⟩
  exact key (rsz h P r).toNat 0 none (by omega) (by omega) (fun p p1 p2 => by omega)
theorem s48 {d : Nat} (hd : 2 ≤ d) (k : Int) (h : dm_H) {A : Nat} (hA : gr h 137 6 = A) (hk : 0 ≤ k ∧ k < 4) : dF d 48 [dR 1 5 137, dI k] h = rI (bi (cmpb (gi h (A + 3) k) (tv (va h 138) (tm h A k 0)) (tv (va h 138) (tm h A k 1)) = true)) h := by
  rw [f48 (by omega), b48_0, ck_p (by omega) (by omega), ix_p (by omega) (by omega), s31 (by omega), bk_v, b48_22, ck_p (by omega) (by omega), ck_p (by omega) (by omega), ix_p (by omega) (by omega), s31 (by omega), bk_v, b48_47, ix_p hk.1 hk.2, s49 (by omega), bk_v, b48_62, z1_p (bi_01 _), tv_va, tv_va, hA]
  unfold tm
  rw [show k * 3 + 0 = k * 3 by omega]
