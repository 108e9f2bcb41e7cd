/-! THE CALLS answers and rules -/
section ANS
variable {h : dm_H} {π : Int → Int}
/-- a row answers a question -/
def mtc (a b c x : Int) : Prop := (a = -1 ∨ a = cv 0 x) ∧ (b = -1 ∨ b = cv 1 x) ∧ (c = -1 ∨ c = cv 2 x)
/-- how many of the first rows do -/
noncomputable def mct (f : Int → Int) (a b c : Int) : Nat → Int
  | 0 => 0
  | n + 1 => mct f a b c n + @ite _ (mtc a b c (f n)) (Classical.propDecidable _) 1 0
theorem mct_r (f : Int → Int) (a b c : Int) : ∀ n : Nat, 0 ≤ mct f a b c n ∧ mct f a b c n ≤ n
  | 0 => ⟨Int.le_refl _, Int.le_refl _⟩
  | n + 1 => by
    have := mct_r f a b c n
    show 0 ≤ mct f a b c n + @ite _ (mtc a b c (f n)) (Classical.propDecidable _) 1 0 ∧ mct f a b c n + @ite _ (mtc a b c (f n)) (Classical.propDecidable _) 1 0 ≤ ((n + 1 : Nat) : Int)
    split <;> omega
theorem mct_s {f : Int → Int} {a b c x : Int} (x0 : 0 ≤ x) : mct f a b c (x + 1).toNat = mct f a b c x.toNat + @ite _ (mtc a b c (f x)) (Classical.propDecidable _) 1 0 := by
  rw [show (x + 1).toNat = x.toNat + 1 by omega]
  show mct f a b c x.toNat + @ite _ (mtc a b c (f (x.toNat : Int))) (Classical.propDecidable _) 1 0 = _
  rw [show (x.toNat : Int) = x by omega]
theorem mct_cg {f g : Int → Int} {a b c : Int} : ∀ n : Nat, (∀ x : Int, 0 ≤ x → x < n → f x = g x) → mct f a b c n = mct g a b c n
  | 0, _ => rfl
  | n + 1, e => by
    show mct f a b c n + @ite _ (mtc a b c (f n)) (Classical.propDecidable _) 1 0 = mct g a b c n + @ite _ (mtc a b c (g n)) (Classical.propDecidable _) 1 0
    rw [mct_cg n (fun x x0 x1 => e x x0 (by omega)), e n (by omega) (by omega)]
theorem s139c {d : Nat} (hd : 2 ≤ d) {P : Nat} (eP : gr h 1 8 = P) {r a b c : Int} (hr : 0 ≤ r ∧ r < 6) (hz : 0 ≤ rsz h P r ∧ rsz h P r ≤ 32) (hc : ∀ x, 0 ≤ x → x < rsz h P r → 0 ≤ rws h P r x ∧ rws h P r x < 1000000) : dL (d - 1) 139 9 [lR 1 10 1, lI r, lI a, lI b, lI c, none, none, none] [] h = rI (mct (rws h P r) a b c (rsz h P r).toNat) h := by
  have loop : ∀ (m : Nat) (x : Int) (w7 : Option dm_V), 0 ≤ x → x + m = rsz h P r → dL (d - 1) 139 15 [lR 1 10 1, lI r, lI a, lI b, lI c, lI (mct (rws h P r) a b c x.toNat), lI x, w7] [] h = rI (mct (rws h P r) a b c (rsz h P r).toNat) h := by
    intro m
    induction m with
    | zero =>
      intro x w7 x0 xm
      rw [b139_15, ix_p hr.1 hr.2, eP, if_neg (by show ¬ x < rsz h P r; omega), show x = rsz h P r by omega]
    | succ m ih =>
      intro x w7 x0 xm
      have e : gi h (P + 2 + 1 + Int.toNat r) x = rws h P r x := by
        show _ = gi h (P + 3 + r.toNat) x
        rw [show P + 2 + 1 + r.toNat = P + 3 + r.toNat by omega]
      have hx := hc x x0 (by omega)
      have mr := mct_r (rws h P r) a b c x.toNat
      have ms := mct_s (f := rws h P r) (a := a) (b := b) (c := c) x0
      have no : ¬ mtc a b c (rws h P r x) → ∀ w7, dL (d - 1) 139 87 [lR 1 10 1, lI r, lI a, lI b, lI c, lI (mct (rws h P r) a b c x.toNat), lI x, w7] [] h = rI (mct (rws h P r) a b c (rsz h P r).toNat) h := by
        intro hn w7
        rw [if_neg hn, Int.add_zero] at ms
        rw [b139_87, ck_p (by omega) (by omega), ← ms]
        exact ih (x + 1) w7 (by omega) (by omega)
      rw [b139_15, ix_p hr.1 hr.2, eP, if_pos (by show x < rsz h P r; omega), ix_p hr.1 hr.2, ix_p x0 (by omega), e, if_pos (by omega), s141 (by omega), bk_v, b139_53]
      by_cases z1 : a = -1 ∨ a = rws h P r x / 10000
      case neg => rw [bi_0 z1, if_pos rfl]; exact no (fun q => z1 q.1) _
      rw [bi_1 z1, if_neg (by decide), if_pos (by omega), if_pos (by omega), s141 (by omega), bk_v, b139_68]
      by_cases z2 : b = -1 ∨ b = rws h P r x / 100 % 100
      case neg => rw [bi_0 z2, if_pos rfl]; exact no (fun q => z2 q.2.1) _
      rw [bi_1 z2, if_neg (by decide), if_pos (by omega), s141 (by omega), bk_v, b139_81]
      by_cases z3 : c = -1 ∨ c = rws h P r x % 100
      case neg => rw [bi_0 z3, if_pos rfl]; exact no (fun q => z3 q.2.2) _
      rw [if_pos (show mtc a b c (rws h P r x) from ⟨z1, z2, z3⟩)] at ms
      rw [bi_1 z3, if_neg (by decide), ck_p (by omega) (by omega), b139_87, ck_p (by omega) (by omega), ← ms]
      exact ih (x + 1) _ (by omega) (by omega)
  rw [b139_9]
  exact loop (rsz h P r).toNat 0 none (by omega) (by omega)
theorem s248c {d : Nat} (hd : 2 ≤ d) {H : dm_H} (h0 : gi H 165 0 = 0) {r a b c : Int} (hr : 0 ≤ r ∧ r < 6) (hz : 0 ≤ gi H 178 r ∧ gi H 178 r ≤ 32) (hc : ∀ x, 0 ≤ x → x < gi H 178 r → 0 ≤ gi H 177 (40 * r + x) ∧ gi H 177 (40 * r + x) < 1000000) (w7 w8 : Option dm_V) : dL (d - 1) 248 39 [lR 1 11 165, lI r, lI a, lI b, lI c, lI 0, lI 0, w7, w8] [] H = rI (mct (fun x => gi H 177 (40 * r + x)) a b c (gi H 178 r).toNat) H := by
  have loop : ∀ (m : Nat) (x : Int) (w7 w8 : Option dm_V), 0 ≤ x → x + m = gi H 178 r → dL (d - 1) 248 39 [lR 1 11 165, lI r, lI a, lI b, lI c, lI (mct (fun x => gi H 177 (40 * r + x)) a b c x.toNat), lI x, w7, w8] [] H = rI (mct (fun x => gi H 177 (40 * r + x)) a b c (gi H 178 r).toNat) H := by
    intro m
    induction m with
    | zero =>
      intro x w7 w8 x0 xm
      rw [b248_39, if_pos h0, ix_p hr.1 hr.2, if_neg (by omega), b248_146, show x = gi H 178 r by omega]
    | succ m ih =>
      intro x w7 w8 x0 xm
      have hx := hc x x0 (by omega)
      have mr := mct_r (fun x => gi H 177 (40 * r + x)) a b c x.toNat
      have ms := mct_s (f := fun x => gi H 177 (40 * r + x)) (a := a) (b := b) (c := c) x0
      have no : ¬ mtc a b c (gi H 177 (40 * r + x)) → ∀ w7 w8, dL (d - 1) 248 122 [lR 1 11 165, lI r, lI a, lI b, lI c, lI (mct (fun x => gi H 177 (40 * r + x)) a b c x.toNat), lI x, w7, w8] [] H = rI (mct (fun x => gi H 177 (40 * r + x)) a b c (gi H 178 r).toNat) H := by
        intro hn w7 w8
        rw [if_neg hn, Int.add_zero] at ms
        rw [b248_122, b248_123, if_pos rfl, b248_137, ck_p (by omega) (by omega), ck_p (by omega) (by omega), Int.add_zero, ← ms]
        exact ih (x + 1) _ _ (by omega) (by omega)
      have yes : mtc a b c (gi H 177 (40 * r + x)) → ∀ w7 w8, dL (d - 1) 248 118 [lR 1 11 165, lI r, lI a, lI b, lI c, lI (mct (fun x => gi H 177 (40 * r + x)) a b c x.toNat), lI x, w7, w8] [] H = rI (mct (fun x => gi H 177 (40 * r + x)) a b c (gi H 178 r).toNat) H := by
        intro hy w7 w8
        rw [if_pos hy] at ms
        rw [b248_118, b248_123, if_neg (by decide), b248_137, ck_p (by omega) (by omega), ck_p (by omega) (by omega), ← ms]
        exact ih (x + 1) _ _ (by omega) (by omega)
      -- from the third on, from the second on
      have t3 : (a = -1 ∨ a = cv 0 (gi H 177 (40 * r + x))) → (b = -1 ∨ b = cv 1 (gi H 177 (40 * r + x))) → ∀ w8, dL (d - 1) 248 101 [lR 1 11 165, lI r, lI a, lI b, lI c, lI (mct (fun x => gi H 177 (40 * r + x)) a b c x.toNat), lI x, lI (gi H 177 (40 * r + x)), w8] [] H = rI (mct (fun x => gi H 177 (40 * r + x)) a b c (gi H 178 r).toNat) H := by
        intro q1 q2 w8
        rw [b248_101]
        by_cases z : c = -1
        · rw [if_pos z]; exact yes ⟨q1, q2, Or.inl z⟩ _ _
        · rw [if_neg z, s197 (by omega) _ _ _ hx.1, bk_v, b248_115]
          by_cases y : c = cv 2 (gi H 177 (40 * r + x))
          · rw [if_pos y]; exact yes ⟨q1, q2, Or.inr y⟩ _ _
          · rw [if_neg y]; exact no (fun q => q.2.2.elim z y) _ _
      have t2 : (a = -1 ∨ a = cv 0 (gi H 177 (40 * r + x))) → ∀ w8, dL (d - 1) 248 86 [lR 1 11 165, lI r, lI a, lI b, lI c, lI (mct (fun x => gi H 177 (40 * r + x)) a b c x.toNat), lI x, lI (gi H 177 (40 * r + x)), w8] [] H = rI (mct (fun x => gi H 177 (40 * r + x)) a b c (gi H 178 r).toNat) H := by
        intro q1 w8
        rw [b248_86]
        by_cases z : b = -1
        · rw [if_pos z]; exact t3 q1 (Or.inl z) _
        · rw [if_neg z, s197 (by omega) _ _ _ hx.1, bk_v, b248_98]
          by_cases y : b = cv 1 (gi H 177 (40 * r + x))
          · rw [if_pos y]; exact t3 q1 (Or.inr y) _
          · rw [if_neg y]; exact no (fun q => q.2.1.elim z y) _ _
      rw [b248_39, if_pos h0, ix_p hr.1 hr.2, if_pos (by omega), ck_p (by omega) (by omega), ck_p (by omega) (by omega), ix_p (by omega) (by omega)]
      by_cases z : a = -1
      · rw [if_pos z]; exact t2 (Or.inl z) _
      · rw [if_neg z, s197 (by omega) _ _ _ hx.1, bk_v, b248_83]
        by_cases y : a = cv 0 (gi H 177 (40 * r + x))
        · rw [if_pos y]; exact t2 (Or.inr y) _
        · rw [if_neg y]; exact no (fun q => q.1.elim z y) _ _
  exact loop (gi H 178 r).toNat 0 w7 w8 (by omega) (by omega)
theorem op_answers {d : Nat} (hd : 6 ≤ d) (I : IN0 π h) (r a b c : Int) : ∃ k h1 v h2, dF d 138 [dR 1 10 1, dI r, dI a, dI b, dI c, dR 4 1 196] h = rI k h1 ∧ dF d 248 [dR 1 11 165, dI r, dI a, dI b, dI c] h1 = rI v h2 ∧ gi h2 165 0 = k ∧ (k = 0 → gl h2 0 = v) ∧ IN0 π h2 ∧ frZ h h2 ∧ rm h h2 := by
  have n6 := I.1.1.1
  have nr := I.1.2.1
  obtain ⟨a1, a2, a3⟩ := thr_all I 1
  obtain ⟨b1, b2, b3⟩ := thr_all I 2
  have wr : ∀ (x : dm_O), dF (d - 1) 139 [dR 1 10 1, dI r, dI a, dI b, dI c] h = x → (∀ v h', x = rI v h' → dF d 138 [dR 1 10 1, dI r, dI a, dI b, dI c, dR 4 1 196] h = rI 0 (sl h' 0 v)) ∧ (∀ h', x = rX 0 h' → dF d 138 [dR 1 10 1, dI r, dI a, dI b, dI c, dR 4 1 196] h = rI 1 h') ∧ ∀ h', x = rX 1 h' → dF d 138 [dR 1 10 1, dI r, dI a, dI b, dI c, dR 4 1 196] h = rI 2 h' := by
    intro x e
    rw [f138 (by omega), b138_0, e]
    refine ⟨fun v h' ex => ?_, fun h' ex => ?_, fun h' ex => ?_⟩
    · rw [ex, bk_v, b138_12, ix_p (by omega) (by omega)]
    · rw [ex, bk_c (g := 17) (j := 6) (n := 2) (L' := [lR 1 10 1, lI r, lI a, lI b, lI c, lR 4 1 196, none]) rfl (fun f => rfl)]
      exact b138_19 _ _ _ _ _ _ _ _ _
    · rw [ex, bk_c (g := 21) (j := 6) (n := 2) (L' := [lR 1 10 1, lI r, lI a, lI b, lI c, lR 4 1 196, none]) rfl (fun f => rfl)]
      exact b138_23 _ _ _ _ _ _ _ _ _
  obtain ⟨w1, w2, w3⟩ := wr _ rfl
  have st : ∀ (H : dm_H), (∀ a i, gi H a i = gi h a i) → dF d 248 [dR 1 11 165, dI r, dI a, dI b, dI c] H = if 0 ≤ r ∧ r < gi h 2 0 then (if wit (gi h 3 r) (-1) 99 a b c then dL (d - 1) 248 30 [lR 1 11 165, lI r, lI a, lI b, lI c, none, none, none, none] [dI 0, dR 1 11 165] H else dL (d - 1) 248 30 [lR 1 11 165, lI r, lI a, lI b, lI c, none, none, none, none] [dI 2, dR 1 11 165] H) else dL (d - 1) 248 30 [lR 1 11 165, lI r, lI a, lI b, lI c, none, none, none, none] [dI 1, dR 1 11 165] H := by
    intro H e
    rw [f248 (by omega), b248_0, s170 (by omega) r H (by rw [e, nr]; exact n6), e, nr, bk_v, b248_6]
    by_cases y : 0 ≤ r ∧ r < gi h 2 0
    · have hc := (cK_c I.1.1 y.1 y.2).2.1
      have e3 : gi H 166 r = gi h 3 r := by rw [e]; exact (I.1.2.2.1 r).1
      rw [bi_1 y, if_neg (by decide), if_pos y, s249 (by omega) r a b c H (by omega) (by rw [e3]; exact hc), e3, bk_v, b248_22]
      by_cases w : wit (gi h 3 r) (-1) 99 a b c
      · rw [bi_1 w, if_neg (by decide), if_pos w]
      · rw [bi_0 w, if_pos rfl, if_neg w]
    · rw [bi_0 y, if_pos rfl, if_neg y]
  rcases s140 (h := h) (d := d - 1 - 1) (by omega) r a b c n6 with ⟨y, e⟩ | ⟨y, y2, e⟩ | ⟨y, y2, e⟩
  · have c0 : dF (d - 1) 139 [dR 1 10 1, dI r, dI a, dI b, dI c] h = rX 0 (sg h 6) := by rw [f139 (by omega), b139_0, e, bk_x rfl]
    refine ⟨1, _, 0, _, w2 _ c0, ?_, thr0, fun q => by omega, a1, a2, a3⟩
    rw [st (sg h 6) (fun _ _ => rfl), if_neg y, b248_30, b248_39, if_neg (by rw [thr0]; omega), b248_146]
  · have c0 : dF (d - 1) 139 [dR 1 10 1, dI r, dI a, dI b, dI c] h = rX 1 (sg h 6) := by rw [f139 (by omega), b139_0, e, bk_x rfl]
    refine ⟨2, _, 0, _, w3 _ c0, ?_, thr0, fun q => by omega, b1, b2, b3⟩
    rw [st (sg h 6) (fun _ _ => rfl), if_pos y, if_neg y2, b248_30, b248_39, if_neg (by rw [thr0]; omega), b248_146]
  · obtain ⟨z1, z2, z3⟩ := rows_z I r y.1 (by omega)
    have hr6 : 0 ≤ r ∧ r < 6 := by omega
    have V : VW (cK h) (gi h 4) (cW h (gr h 1 8)) := I.2.2.2.2.2.2.2.2.2.2.2.2.2.2.2.1
    have hc : ∀ x, 0 ≤ x → x < rsz h (gr h 1 8) r → 0 ≤ rws h (gr h 1 8) r x ∧ rws h (gr h 1 8) r x < 1000000 := fun x x0 x1 => ((V r hr6.1 hr6.2).2.1 x x0 x1).1
    have c0 : dF (d - 1) 139 [dR 1 10 1, dI r, dI a, dI b, dI c] h = rI (mct (rws h (gr h 1 8) r) a b c (rsz h (gr h 1 8) r).toNat) h := by
      rw [f139 (by omega), b139_0, e, bk_n, s139c (by omega) rfl hr6 (by omega) hc]
    generalize eV : mct (rws h (gr h 1 8) r) a b c (rsz h (gr h 1 8) r).toNat = v at c0
    have s := same_all (h' := si (sl h 0 v) 165 0 0) I (fun a i p _ => gi_t a i p) (fun _ _ => rfl)
    have e7 : ∀ i, gi (si (sl h 0 v) 165 0 0) 177 i = gi h 177 i := fun i => gi_t _ _ (by omega)
    have e8 : ∀ i, gi (si (sl h 0 v) 165 0 0) 178 i = gi h 178 i := fun i => gi_t _ _ (by omega)
    refine ⟨0, _, v, _, w1 v _ c0, ?_, thr0, fun _ => by rw [gl_si, gl_sl, if_pos rfl], s.1, s.2, rm_0 _ 0⟩
    rw [st (sl h 0 v) (fun _ _ => rfl), if_pos y, if_pos y2, b248_30, s248c (by omega) thr0 hr6 (by rw [e8]; exact z1) (fun x x0 x1 => by
      rw [e8] at x1
      rw [e7, z3 x x0 x1]; exact hc x x0 (by omega))]
    refine congrArg (fun x => rI x _) ?_
    rw [e8, z2]
    refine Eq.trans ?_ eV
    exact mct_cg _ (fun x x0 x1 => by rw [e7]; exact z3 x x0 (by omega))
end ANS
