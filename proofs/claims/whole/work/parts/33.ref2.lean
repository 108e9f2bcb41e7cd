/-! THE REFERENCE TAKES ROWS -/
/-- what is known of literal k, an atom, of the rule in place p -/
def RA (h : dm_H) (p k r w n : Int) : Prop := (0 ≤ p ∧ p ≤ 10) ∧ (0 ≤ k ∧ k < 4) ∧ lq h p k 1 = r ∧ (0 ≤ r ∧ r < 6) ∧ gi h 166 r = w ∧ (0 ≤ w ∧ w ≤ 3) ∧ (∀ i, 0 ≤ i → i < 3 → -1 ≤ lt h p k i ∧ lt h p k i ≤ 107) ∧ gi h 178 r = n ∧ (0 ≤ n ∧ n ≤ 32) ∧ ∀ x, 0 ≤ x → x < n → 0 ≤ gi h 177 (40 * r + x) ∧ gi h 177 (40 * r + x) < 1000000
theorem lq_tk {h : dm_H} {k' : Int} {u : mA} (p k w : Int) : lq (tk h k' u) p k w = lq h p k w := gi_tkn (by omega) (by omega)
theorem s198 {d : Nat} (hd : 3 ≤ d) (h : dm_H) {p k r w n : Int} (K : RA h p k r w n) (c : Int) (hc : 0 ≤ c ∧ c < 1000000) :
    (∀ u, bA (lt h p k) c w.toNat 0 (va h 185) = some u → dF d 198 [dR 1 11 165, dI p, dI k, dI c] h = rI 1 (tk h k u)) ∧ (bA (lt h p k) c w.toNat 0 (va h 185) = none → ∃ u, nv u ∧ lev (va h 185) u ∧ dF d 198 [dR 1 11 165, dI p, dI k, dI c] h = rI 0 (tk h k u)) := by
  obtain ⟨hp, hk, hr, hr6, hw, hw3, ht, -, -, -⟩ := K
  rw [f198 (by omega), b198_0, s181 (by omega) p k 1 h hp hk (by omega), bk_v, b198_7, hr]
  have key : ∀ (m : Nat) (i : Int) (u : mA) (w6 w7 : Option dm_V), 0 ≤ i → i + m = w → nv u → lev (va h 185) u →
      (∀ u', bA (lt h p k) c m i u = some u' → dL (d - 1) 198 12 [lR 1 11 165, lI p, lI k, lI c, lI r, lI i, w6, w7] [] (tk h k u) = rI 1 (tk h k u')) ∧ (bA (lt h p k) c m i u = none → ∃ u', nv u' ∧ lev (va h 185) u' ∧ dL (d - 1) 198 12 [lR 1 11 165, lI p, lI k, lI c, lI r, lI i, w6, w7] [] (tk h k u) = rI 0 (tk h k u')) := by
    intro m
    induction m with
    | zero =>
      intro i u w6 w7 h0 hm hu hl
      have e : dL (d - 1) 198 12 [lR 1 11 165, lI p, lI k, lI c, lI r, lI i, w6, w7] [] (tk h k u) = rI 1 (tk h k u) := by
        rw [b198_12, ix_p hr6.1 hr6.2, gi_tkn (by omega) (by omega), if_neg (by omega)]
      refine ⟨fun u' hu' => ?_, fun hq => nomatch (show (some u : Option mA) = none from hq)⟩
      cases (show some u = some u' from hu')
      exact e
    | succ m ih =>
      intro i u w6 w7 h0 hm hu hl
      have hx := cv_r (i := i) (c := c) ⟨h0, by omega⟩ hc
      have hti := ht i h0 (by omega)
      have hon : ∀ (u' : mA) (y1 y2 : Option dm_V), nv u' → lev (va h 185) u' → (∀ u'', bA (lt h p k) c m (i + 1) u' = some u'' → dL (d - 1) 198 99 [lR 1 11 165, lI p, lI k, lI c, lI r, lI i, y1, y2] [] (tk h k u') = rI 1 (tk h k u'')) ∧ (bA (lt h p k) c m (i + 1) u' = none → ∃ u'', nv u'' ∧ lev (va h 185) u'' ∧ dL (d - 1) 198 99 [lR 1 11 165, lI p, lI k, lI c, lI r, lI i, y1, y2] [] (tk h k u') = rI 0 (tk h k u'')) := by
        intro u' y1 y2 k1 k2
        rw [b198_99, ck_p (by omega) (by omega)]
        exact ih (i + 1) u' y1 y2 (by omega) (by omega) k1 k2
      rw [b198_12, ix_p hr6.1 hr6.2, gi_tkn (by omega) (by omega), if_pos (by omega), ck_p (by omega) (by omega), s181 (by omega) p k (3 + i) _ hp hk (by omega), bk_v, b198_34, lq_tk]
      show (∀ u', (match b1 u (lt h p k i) (cv i c) with
        | none => none
        | some v' => bA (lt h p k) c m (i + 1) v') = some u' → _) ∧ ((match b1 u (lt h p k i) (cv i c) with
        | none => none
        | some v' => bA (lt h p k) c m (i + 1) v') = none → _)
      rw [show lq h p k (3 + i) = lt h p k i from rfl]
      generalize lt h p k i = t at *
      unfold b1
      by_cases h1 : t = -1
      · simp only [if_pos h1]
        exact hon _ _ _ hu hl
      simp only [if_neg h1]
      rw [s199 (by omega) t _ (by omega), bk_v, b198_48, va_tk hu]
      by_cases h2 : t < 100
      · have e1 : slot t = -1 := if_pos h2
        have e2 : tv u t = t := if_pos h2
        simp only [if_pos e1, e2, if_neg h1]
        rw [s197 (by omega) c i _ hc.1, bk_v, b198_94]
        by_cases h3 : t = cv i c
        · simp only [if_pos h3]
          exact hon _ _ _ hu hl
        · simp only [if_neg h3]
          exact ⟨fun u' hu' => (nomatch hu'), fun _ => ⟨u, hu, hl, rfl⟩⟩
      · have e1 : slot t = t - 100 := by unfold slot; rw [if_neg h2, if_neg (by omega)]
        have e2 : tv u t = u (t - 100) := by unfold tv; rw [if_neg h2, if_neg (by omega)]
        have e3 : ¬ (t - 100 = -1) := by omega
        simp only [e1, e2, if_neg e3]
        by_cases h3 : u (t - 100) = -1
        · simp only [if_pos h3]
          rw [ck_p (by omega) (by omega), s197 (by omega) c i _ hc.1, bk_v, b198_71, ix_p (by omega) (by omega), ck_p (by omega) (by omega), ix_p (by omega) (by omega), tk_set (by omega) hl h3 (by omega)]
          exact hon _ _ _ (nv_upd hu (by omega)) (lev_trans hl (lev_upd h3))
        · simp only [if_neg h3]
          rw [s197 (by omega) c i _ hc.1, bk_v, b198_94]
          by_cases h4 : u (t - 100) = cv i c
          · simp only [if_pos h4]
            exact hon _ _ _ hu hl
          · simp only [if_neg h4]
            exact ⟨fun u' hu' => (nomatch hu'), fun _ => ⟨u, hu, hl, rfl⟩⟩
  have := key w.toNat 0 (va h 185) none none (by omega) (by omega) (nv_va h 185) (lev_refl _)
  rw [tk_va] at this
  exact this
/-- a row fits numbers that are known -/
def ftk (t : Int → Int) (w : Int) (v : mA) (c : Int) : Prop := ∀ i, 0 ≤ i → i < w → t i = -1 ∨ tv v (t i) = cv i c
theorem s202 {d : Nat} (hd : 3 ≤ d) (h : dm_H) {p k r w n : Int} (K : RA h p k r w n) (c : Int) (hc : 0 ≤ c) : dF d 202 [dR 1 11 165, dI p, dI k, dI c] h = rI (@bi (ftk (lt h p k) w (va h 185) c) (Classical.propDecidable _)) h := by
  obtain ⟨hp, hk, hr, hr6, hw, hw3, ht, -, -, -⟩ := K
  rw [f202 (by omega), b202_0]
  have key : ∀ (m : Nat) (i b : Int) (w6 : Option dm_V), 0 ≤ i → i + m = w → (b = 0 ∨ b = 1) → (b = 1 ↔ ∀ j, 0 ≤ j → j < i → lt h p k j = -1 ∨ tv (va h 185) (lt h p k j) = cv j c) → dL (d - 1) 202 6 [lR 1 11 165, lI p, lI k, lI c, lI b, lI i, w6] [] h = rI (@bi (ftk (lt h p k) w (va h 185) c) (Classical.propDecidable _)) h := by
    intro m
    induction m with
    | zero =>
      intro i b w6 h0 hm hb01 hb
      rw [b202_6, s181 (by omega) p k 1 h hp hk (by omega), bk_v, b202_19, hr, ix_p hr6.1 hr6.2, if_neg (by omega), z1_p hb01]
      have hi : i = w := by omega
      rw [hi] at hb
      by_cases q : ftk (lt h p k) w (va h 185) c
      · rw [@bi_1 _ (Classical.propDecidable _) q, hb.mpr q]
      · rw [@bi_0 _ (Classical.propDecidable _) q]
        rcases hb01 with e | e
        · rw [e]
        · exact absurd (hb.mp e) q
    | succ m ih =>
      intro i b w6 h0 hm hb01 hb
      have hti := ht i h0 (by omega)
      have hT : ∀ (b' : Int), (b' = 1 ↔ b = 1 ∧ (lt h p k i = -1 ∨ tv (va h 185) (lt h p k i) = cv i c)) → (b' = 1 ↔ ∀ j, 0 ≤ j → j < i + 1 → lt h p k j = -1 ∨ tv (va h 185) (lt h p k j) = cv j c) := by
        intro b' hb'
        rw [hb', hb]
        constructor
        · rintro ⟨z1, z2⟩ j j0 j1
          by_cases e : j = i
          · rw [e]; exact z2
          · exact z1 j j0 (by omega)
        · intro z
          exact ⟨fun j j0 j1 => z j j0 (by omega), z i h0 (by omega)⟩
      rw [b202_6, s181 (by omega) p k 1 h hp hk (by omega), bk_v, b202_19, hr, ix_p hr6.1 hr6.2, if_pos (by omega), ck_p (by omega) (by omega), s181 (by omega) p k (3 + i) h hp hk (by omega), bk_v, b202_33, show lq h p k (3 + i) = lt h p k i from rfl]
      by_cases e : b = 0
      · rw [if_pos e, b202_65, b202_66, ck_p (by omega) (by omega)]
        exact ih (i + 1) 0 _ (by omega) (by omega) (Or.inl rfl) (hT 0 (by omega))
      have eb : b = 1 := by omega
      rw [if_neg e]
      by_cases e2 : lt h p k i = -1
      · rw [if_pos e2, b202_61, b202_66, ck_p (by omega) (by omega)]
        exact ih (i + 1) 1 _ (by omega) (by omega) (Or.inr rfl) (hT 1 ⟨fun _ => ⟨eb, Or.inl e2⟩, fun _ => rfl⟩)
      rw [if_neg e2, s199 (by omega) _ _ (by omega), bk_v, b202_52, s197 (by omega) c i h hc, bk_v, b202_58]
      by_cases e3 : tv (va h 185) (lt h p k i) = cv i c
      · rw [if_pos e3, b202_61, b202_66, ck_p (by omega) (by omega)]
        exact ih (i + 1) 1 _ (by omega) (by omega) (Or.inr rfl) (hT 1 ⟨fun _ => ⟨eb, Or.inr e3⟩, fun _ => rfl⟩)
      · rw [if_neg e3, b202_65, b202_66, ck_p (by omega) (by omega)]
        exact ih (i + 1) 0 _ (by omega) (by omega) (Or.inl rfl) (hT 0 ⟨fun z => by omega, fun z => by rcases z.2 with z | z; exact absurd z e2; exact absurd z e3⟩)
  exact key w.toNat 0 1 none (by omega) (by omega) (Or.inr rfl) ⟨fun _ j j0 j1 => by omega, fun _ => rfl⟩
/-- the reference's rows of a relation -/
def rrw (h : dm_H) (r : Int) : Int → Int := fun x => gi h 177 (40 * r + x)
theorem s201 {d : Nat} (hd : 4 ≤ d) (h : dm_H) {p k r w n : Int} (K : RA h p k r w n) : dF d 201 [dR 1 11 165, dI p, dI k] h = rI (@bi (∃ x, 0 ≤ x ∧ x < n ∧ ftk (lt h p k) w (va h 185) (rrw h r x)) (Classical.propDecidable _)) h := by
  have K0 := K
  obtain ⟨hp, hk, hr, hr6, hw, hw3, ht, hn, hn32, hc⟩ := K0
  rw [f201 (by omega), b201_0, s181 (by omega) p k 1 h hp hk (by omega), bk_v, b201_7, hr]
  have key : ∀ (m : Nat) (i b : Int), 0 ≤ i → i + m = n → (b = 0 ∨ b = 1) → (b = 1 ↔ ∃ x, 0 ≤ x ∧ x < i ∧ ftk (lt h p k) w (va h 185) (rrw h r x)) → dL (d - 1) 201 14 [lR 1 11 165, lI p, lI k, lI r, lI b, lI i] [] h = rI (@bi (∃ x, 0 ≤ x ∧ x < n ∧ ftk (lt h p k) w (va h 185) (rrw h r x)) (Classical.propDecidable _)) h := by
    intro m
    induction m with
    | zero =>
      intro i b h0 hm hb01 hb
      rw [b201_14, ix_p hr6.1 hr6.2, if_neg (by omega), z1_p hb01]
      have hi : i = n := by omega
      rw [hi] at hb
      by_cases q : ∃ x, 0 ≤ x ∧ x < n ∧ ftk (lt h p k) w (va h 185) (rrw h r x)
      · rw [@bi_1 _ (Classical.propDecidable _) q, hb.mpr q]
      · rw [@bi_0 _ (Classical.propDecidable _) q]
        rcases hb01 with e | e
        · rw [e]
        · exact absurd (hb.mp e) q
    | succ m ih =>
      intro i b h0 hm hb01 hb
      have hT : ∀ (b' : Int), (b' = 1 ↔ b = 1 ∨ ftk (lt h p k) w (va h 185) (rrw h r i)) → (b' = 1 ↔ ∃ x, 0 ≤ x ∧ x < i + 1 ∧ ftk (lt h p k) w (va h 185) (rrw h r x)) := by
        intro b' hb'
        rw [hb', hb]
        constructor
        · rintro (⟨x, x0, x1, x2⟩ | z)
          · exact ⟨x, x0, by omega, x2⟩
          · exact ⟨i, h0, by omega, z⟩
        · rintro ⟨x, x0, x1, x2⟩
          by_cases e : x = i
          · right; rw [← e]; exact x2
          · exact Or.inl ⟨x, x0, by omega, x2⟩
      rw [b201_14, ix_p hr6.1 hr6.2, if_pos (by omega)]
      by_cases e : b = 0
      · rw [if_pos e, ck_p (by omega) (by omega), ck_p (by omega) (by omega), ix_p (by omega) (by omega), s202 (by omega) h K _ (hc i h0 (by omega)).1, bk_v, b201_48]
        by_cases q : ftk (lt h p k) w (va h 185) (gi h 177 (40 * r + i))
        · rw [@bi_1 _ (Classical.propDecidable _) q, if_neg (by omega), b201_51, b201_56, ck_p (by omega) (by omega)]
          exact ih (i + 1) 1 (by omega) (by omega) (Or.inr rfl) (hT 1 ⟨fun _ => Or.inr q, fun _ => rfl⟩)
        · rw [@bi_0 _ (Classical.propDecidable _) q, if_pos rfl, b201_56, ck_p (by omega) (by omega)]
          exact ih (i + 1) 0 (by omega) (by omega) (Or.inl rfl) (hT 0 ⟨fun z => by omega, fun z => by rcases z with z | z; omega; exact absurd z q⟩)
      · rw [if_neg e, b201_51, b201_56, ck_p (by omega) (by omega)]
        exact ih (i + 1) 1 (by omega) (by omega) (Or.inr rfl) (hT 1 ⟨fun _ => Or.inl (by omega), fun _ => rfl⟩)
  exact key n.toNat 0 0 (by omega) (by omega) (Or.inl rfl) ⟨fun z => by omega, fun ⟨x, x0, x1, _⟩ => by omega⟩
/-- options from the place p on -/
noncomputable def opS (t : Int → Int) (w : Int) (c : Int → Int) (v : mA) (n : Nat) (p : Nat) : List mA := (List.range' p (n - p)).flatMap (fun q : Nat => one t w c v (q : Int))
theorem opS_0 (t : Int → Int) (w : Int) (c : Int → Int) (v : mA) (n : Nat) : opS t w c v n 0 = opA t w c v n := by
  unfold opS opA
  rw [Nat.sub_zero, ← List.range_eq_range']
theorem opS_e {t : Int → Int} {w : Int} {c : Int → Int} {v : mA} {n p : Nat} (h : n ≤ p) : opS t w c v n p = [] := by
  unfold opS
  rw [show n - p = 0 by omega]
  rfl
theorem opS_s {t : Int → Int} {w : Int} {c : Int → Int} {v : mA} {n p : Nat} (h : p < n) : opS t w c v n p = one t w c v p ++ opS t w c v n (p + 1) := by
  unfold opS
  rw [show n - p = (n - (p + 1)) + 1 by omega, List.range'_succ]
  rfl
theorem tk_si {h : dm_H} {k : Int} {u : mA} {a : Nat} {i x : Int} (h1 : a ≠ 185) (h2 : a ≠ 186) : tk (si h a i x) k u = si (tk h k u) a i x := by
  unfold tk si
  congr 1
  funext b j
  by_cases q : b = a ∧ j = i
  · obtain ⟨rfl, rfl⟩ := q
    simp [h1, h2]
  · simp only [if_neg q]
    have e : ¬ (185 = a ∧ j = i) := fun z => h1 z.1.symm
    simp only [if_neg e]
/-- forgetting what was just taken -/
theorem fg_tk {h : dm_H} {k : Int} {u : mA} (hl : lev (va h 185) u) (hck : ∀ s, 0 ≤ s → s < 8 → gi h 186 s ≠ k) (hci : ∀ s, 0 ≤ s → s < 8 → gi h 185 s = -1 → gi h 186 s = -1) : fg (tk h k u) k = h := by
  rcases h with ⟨h1, h2⟩
  unfold fg
  congr 1
  funext b j
  show (if (b = 185 ∨ b = 186) ∧ 0 ≤ j ∧ j < 8 ∧ gi (tk (h1, h2) k u) 186 j = k then -1 else gi (tk (h1, h2) k u) b j) = h1 b j
  rw [gi_tk, gi_tk]
  by_cases hj : 0 ≤ j ∧ j < 8
  · have c1 := hck j hj.1 hj.2
    have c2 := hci j hj.1 hj.2
    have c3 := hl j
    rw [va_in hj] at c3
    by_cases q : gi (h1, h2) 185 j = -1 ∧ u j ≠ -1
    · have e1 : (186 = 186 ∧ 0 ≤ j ∧ j < 8 ∧ gi (h1, h2) 185 j = -1 ∧ u j ≠ -1) := ⟨rfl, hj.1, hj.2, q⟩
      rw [if_neg (show ¬ (186 = 185 ∧ 0 ≤ j ∧ j < 8) by omega), if_pos e1]
      by_cases hb : b = 185 ∨ b = 186
      · rw [if_pos ⟨hb, hj.1, hj.2, rfl⟩]
        rcases hb with rfl | rfl
        · exact q.1.symm
        · exact (c2 q.1).symm
      · rw [if_neg (fun z => hb z.1), if_neg (fun z => hb (Or.inl z.1)), if_neg (fun z => hb (Or.inr z.1))]
        rfl
    · have e1 : ¬ (186 = 186 ∧ 0 ≤ j ∧ j < 8 ∧ gi (h1, h2) 185 j = -1 ∧ u j ≠ -1) := fun z => q z.2.2.2
      rw [if_neg (show ¬ (186 = 185 ∧ 0 ≤ j ∧ j < 8) by omega), if_neg e1, if_neg (fun z => c1 z.2.2.2)]
      by_cases hb : b = 185
      · subst hb
        rw [if_pos ⟨rfl, hj⟩]
        by_cases q2 : gi (h1, h2) 185 j = -1
        · by_cases q3 : u j = -1
          · rw [q3]; exact q2.symm
          · exact absurd ⟨q2, q3⟩ q
        · exact c3 q2
      · rw [if_neg (fun z => hb z.1), if_neg]
        · rfl
        · rintro ⟨-, z2, z3, z4⟩
          exact q z4
  · rw [if_neg (show ¬ (b = 186 ∧ 0 ≤ j ∧ j < 8 ∧ gi (h1, h2) 185 j = -1 ∧ u j ≠ -1) from fun z => hj ⟨z.2.1, z.2.2.1⟩), if_neg (show ¬ (b = 185 ∧ 0 ≤ j ∧ j < 8) from fun z => hj z.2), if_neg (show ¬ ((b = 185 ∨ b = 186) ∧ 0 ≤ j ∧ j < 8 ∧ _) from fun z => hj ⟨z.2.1, z.2.2.1⟩)]
    rfl
theorem RA_si {h : dm_H} {p k r w n : Int} (K : RA h p k r w n) (i x : Int) : RA (si h 187 i x) p k r w n := by
  obtain ⟨hp, hk, hr, hr6, hw, hw3, ht, hn, hn32, hc⟩ := K
  have e : ∀ a, a ≠ 187 → ∀ j, gi (si h 187 i x) a j = gi h a j := fun a ha j => gi_sin ha
  refine ⟨hp, hk, ?_, hr6, by rw [e _ (by omega)]; exact hw, hw3, fun j j0 j1 => ?_, by rw [e _ (by omega)]; exact hn, hn32, fun y y0 y1 => by rw [e _ (by omega)]; exact hc y y0 y1⟩
  · unfold lq; rw [e _ (by omega)]; exact hr
  · unfold lt lq; rw [e _ (by omega)]; exact ht j j0 j1
theorem s194 {d : Nat} (hd : 4 ≤ d) {p k r w n : Int} (v : mA) : ∀ (m : Nat) (h : dm_H), RA h p k r w n → va h 185 = v → (∀ s, 0 ≤ s → s < 8 → gi h 186 s ≠ k) → (∀ s, 0 ≤ s → s < 8 → gi h 185 s = -1 → gi h 186 s = -1) → (¬ (lq h p k 3 = -1 ∨ lq h p k 4 = -1 ∨ lq h p k 5 = -1) → dst (rrw h r) n w) → 0 ≤ gi h 187 k → gi h 187 k + m = n → ∀ (w5 w6 w7 : Option dm_V),
    (opS (lt h p k) w (rrw h r) v n.toNat (gi h 187 k).toNat = [] → dL (d - 1) 194 16 [lR 1 11 165, lI p, lI k, lI r, lI (bi (lq h p k 3 = -1 ∨ lq h p k 4 = -1 ∨ lq h p k 5 = -1)), w5, w6, w7] [] h = rI 0 (si h 187 k n)) ∧ (∀ u l, opS (lt h p k) w (rrw h r) v n.toNat (gi h 187 k).toNat = u :: l → ∃ c, gi h 187 k < c ∧ c ≤ n ∧ opS (lt h p k) w (rrw h r) v n.toNat c.toNat = l ∧ dL (d - 1) 194 16 [lR 1 11 165, lI p, lI k, lI r, lI (bi (lq h p k 3 = -1 ∨ lq h p k 4 = -1 ∨ lq h p k 5 = -1)), w5, w6, w7] [] h = rI 1 (tk (si h 187 k c) k u)) := by
  intro m
  induction m with
  | zero =>
    intro h K hva hck hci hds hc0 hcn w5 w6 w7
    obtain ⟨hp, hk, hr, hr6, hw, hw3, ht, hn, hn32, hc⟩ := K
    have e : opS (lt h p k) w (rrw h r) v n.toNat (gi h 187 k).toNat = [] := opS_e (by omega)
    refine ⟨fun _ => ?_, fun u l hul => by rw [e] at hul; cases hul⟩
    have hself : si h 187 k n = h := by
      rcases h with ⟨h1, h2⟩
      unfold si
      congr 1
      funext b j
      split
      · rename_i q
        rw [q.1, q.2]
        have : gi (h1, h2) 187 k = n := by omega
        exact this.symm
      · rfl
    rw [b194_16, ix_p hk.1 (by omega), ix_p hr6.1 hr6.2, if_neg (by omega), hself]
  | succ m ih =>
    intro h K hva hck hci hds hc0 hcn w5 w6 w7
    have K0 := K
    obtain ⟨hp, hk, hr, hr6, hw, hw3, ht, hn, hn32, hc⟩ := K0
    have hcur := hc (gi h 187 k) hc0 (by omega)
    have e1 := opS_s (t := lt h p k) (w := w) (c := rrw h r) (v := v) (n := n.toNat) (p := (gi h 187 k).toNat) (by omega)
    rw [show (((gi h 187 k).toNat : Nat) : Int) = gi h 187 k by omega, show (gi h 187 k).toNat + 1 = (gi h 187 k + 1).toNat by omega] at e1
    generalize hcu : gi h 187 k = cu at *
    have hva1 : va (si h 187 k (cu + 1)) 185 = v := by
      rw [← hva]; funext s; unfold va; rw [gi_sin (by omega)]
    have hck1 : ∀ s, 0 ≤ s → s < 8 → gi (si h 187 k (cu + 1)) 186 s ≠ k := fun s s0 s1 => by rw [gi_sin (by omega)]; exact hck s s0 s1
    have hci1 : ∀ s, 0 ≤ s → s < 8 → gi (si h 187 k (cu + 1)) 185 s = -1 → gi (si h 187 k (cu + 1)) 186 s = -1 := fun s s0 s1 => by rw [gi_sin (by omega), gi_sin (by omega)]; exact hci s s0 s1
    have el : lt (si h 187 k (cu + 1)) p k = lt h p k := by
      funext i; unfold lt lq; rw [gi_sin (by omega)]
    have er : rrw (si h 187 k (cu + 1)) r = rrw h r := by
      funext x; unfold rrw; rw [gi_sin (by omega)]
    have eq9 : ∀ z, lq (si h 187 k (cu + 1)) p k z = lq h p k z := fun z => by unfold lq; rw [gi_sin (by omega)]
    have hih := ih (si h 187 k (cu + 1)) (RA_si K k (cu + 1)) hva1 hck1 hci1 (by rw [eq9, eq9, eq9, er]; exact hds) (by rw [gi_sis]; omega) (by rw [gi_sis]; omega)
    rw [el, er, eq9, eq9, eq9, gi_sis] at hih
    -- the next row, if this one is none
    have hnext : ∀ (h9 : dm_H) (w5 w6 w7 : Option dm_V), fg h9 k = si h 187 k (cu + 1) → one (lt h p k) w (rrw h r) v cu = [] →
        (opS (lt h p k) w (rrw h r) v n.toNat cu.toNat = [] → dL (d - 1) 194 140 [lR 1 11 165, lI p, lI k, lI r, lI (bi (lq h p k 3 = -1 ∨ lq h p k 4 = -1 ∨ lq h p k 5 = -1)), w5, w6, w7] [] h9 = rI 0 (si h 187 k n)) ∧ (∀ u l, opS (lt h p k) w (rrw h r) v n.toNat cu.toNat = u :: l → ∃ c, cu < c ∧ c ≤ n ∧ opS (lt h p k) w (rrw h r) v n.toNat c.toNat = l ∧ dL (d - 1) 194 140 [lR 1 11 165, lI p, lI k, lI r, lI (bi (lq h p k 3 = -1 ∨ lq h p k 4 = -1 ∨ lq h p k 5 = -1)), w5, w6, w7] [] h9 = rI 1 (tk (si h 187 k c) k u)) := by
      intro h9 w5 w6 w7 hfg hone
      rw [e1, hone, List.nil_append, b194_140, s191 (by omega) k h9 (by omega), bk_n, b194_145, hfg]
      obtain ⟨i1, i2⟩ := hih w5 w6 w7
      have hss : ∀ c, si (si h 187 k (cu + 1)) 187 k c = si h 187 k c := by
        intro c
        unfold si
        congr 1
        funext b j
        by_cases q : b = 187 ∧ j = k
        · rw [if_pos q, if_pos q]
        · rw [if_neg q, if_neg q]
          show (if b = 187 ∧ j = k then cu + 1 else h.1 b j) = _
          rw [if_neg q]
      refine ⟨fun hq => by rw [i1 hq, hss], fun u l hul => ?_⟩
      obtain ⟨c, c1, c2, c3, c4⟩ := i2 u l hul
      exact ⟨c, by omega, c2, c3, by rw [c4, hss]⟩
    rw [b194_16, ix_p hk.1 (by omega), ix_p hr6.1 hr6.2, hn, hcu, if_pos (by omega), ck_p (by omega) (by omega), ix_p hk.1 (by omega), ck_p (by omega) (by omega), ix_p (by omega) (by omega)]
    -- behind the look for an elder like it
    have htake : ∀ (isN : Int) (w7 : Option dm_V), (isN = 0 ∨ isN = 1) → (isN = 1 ↔ ¬ ∃ e, 0 ≤ e ∧ e < cu ∧ alike (lt h p k) w (rrw h r e) (rrw h r cu)) →
        (opS (lt h p k) w (rrw h r) v n.toNat cu.toNat = [] → dL (d - 1) 194 112 [lR 1 11 165, lI p, lI k, lI r, lI (bi (lq h p k 3 = -1 ∨ lq h p k 4 = -1 ∨ lq h p k 5 = -1)), lI (gi h 177 (40 * r + cu)), lI isN, w7] [] h = rI 0 (si h 187 k n)) ∧ (∀ u l, opS (lt h p k) w (rrw h r) v n.toNat cu.toNat = u :: l → ∃ c, cu < c ∧ c ≤ n ∧ opS (lt h p k) w (rrw h r) v n.toNat c.toNat = l ∧ dL (d - 1) 194 112 [lR 1 11 165, lI p, lI k, lI r, lI (bi (lq h p k 3 = -1 ∨ lq h p k 4 = -1 ∨ lq h p k 5 = -1)), lI (gi h 177 (40 * r + cu)), lI isN, w7] [] h = rI 1 (tk (si h 187 k c) k u)) := by
      intro isN w7 h01 hN
      rw [b194_112, ix_p hk.1 (by omega), hcu, ck_p (by omega) (by omega), ix_p hk.1 (by omega)]
      by_cases q : isN = 0
      · rw [if_pos q]
        have hex : ∃ e, 0 ≤ e ∧ e < cu ∧ alike (lt h p k) w (rrw h r e) (rrw h r cu) := by
          by_cases z : ∃ e, 0 ≤ e ∧ e < cu ∧ alike (lt h p k) w (rrw h r e) (rrw h r cu)
          · exact z
          · have := hN.mpr z; omega
        refine hnext _ _ _ _ ?_ (one_none (Or.inl hex))
        have := fg_tk (h := si h 187 k (cu + 1)) (k := k) (u := va (si h 187 k (cu + 1)) 185) (lev_refl _) hck1 hci1
        rwa [tk_va] at this
      · rw [if_neg q]
        have hno := hN.mp (h01.resolve_left q)
        have h198 := s198 (d := d - 1) (by omega) (si h 187 k (cu + 1)) (RA_si K k (cu + 1)) (gi h 177 (40 * r + cu)) hcur
        rw [el, hva1] at h198
        cases hb : bA (lt h p k) (gi h 177 (40 * r + cu)) w.toNat 0 v with
        | some u =>
          rw [h198.1 u hb, bk_v, b194_135, if_neg (by omega)]
          have hone : one (lt h p k) w (rrw h r) v cu = [u] := one_some hno hb
          rw [e1, hone]
          refine ⟨fun z => (nomatch z), fun u' l hul => ?_⟩
          cases hul
          exact ⟨cu + 1, by omega, by omega, rfl, rfl⟩
        | none =>
          obtain ⟨u, u1, u2, u3⟩ := h198.2 hb
          rw [u3, bk_v, b194_135, if_pos rfl]
          exact hnext _ _ _ _ (fg_tk (by rw [hva1]; exact u2) hck1 hci1) (one_none (Or.inr hb))
    by_cases hwide : lq h p k 3 = -1 ∨ lq h p k 4 = -1 ∨ lq h p k 5 = -1
    · have hsc : ∀ (m2 : Nat) (i isN : Int), 0 ≤ i → i + m2 = cu → (isN = 0 ∨ isN = 1) → (isN = 1 ↔ ¬ ∃ e, 0 ≤ e ∧ e < i ∧ alike (lt h p k) w (rrw h r e) (rrw h r cu)) → ∃ (isN' : Int) (w7' : Option dm_V), (isN' = 0 ∨ isN' = 1) ∧ (isN' = 1 ↔ ¬ ∃ e, 0 ≤ e ∧ e < cu ∧ alike (lt h p k) w (rrw h r e) (rrw h r cu)) ∧ dL (d - 1) 194 55 [lR 1 11 165, lI p, lI k, lI r, lI (bi (lq h p k 3 = -1 ∨ lq h p k 4 = -1 ∨ lq h p k 5 = -1)), lI (gi h 177 (40 * r + cu)), lI isN, lI i] [] h = dL (d - 1) 194 112 [lR 1 11 165, lI p, lI k, lI r, lI (bi (lq h p k 3 = -1 ∨ lq h p k 4 = -1 ∨ lq h p k 5 = -1)), lI (gi h 177 (40 * r + cu)), lI isN', w7'] [] h := by
        intro m2
        induction m2 with
        | zero =>
          intro i isN i0 im h01 hN
          have : i = cu := by omega
          subst this
          refine ⟨isN, lI i, h01, hN, ?_⟩
          rw [b194_55, ix_p hk.1 (by omega), hcu, if_neg (by omega)]
        | succ m2 ih2 =>
          intro i isN i0 im h01 hN
          have hci9 := hc i i0 (by omega)
          have hstep : ∀ b : Int, (b = 0 ∨ b = 1) → (b = 1 ↔ isN = 1 ∧ ¬ alike (lt h p k) w (rrw h r i) (rrw h r cu)) → (b = 1 ↔ ¬ ∃ e, 0 ≤ e ∧ e < i + 1 ∧ alike (lt h p k) w (rrw h r e) (rrw h r cu)) := by
            intro b _ hb
            rw [hb, hN]
            constructor
            · rintro ⟨z1, z2⟩ ⟨e, y0, y1, y2⟩
              by_cases q : e = i
              · rw [q] at y2; exact z2 y2
              · exact z1 ⟨e, y0, by omega, y2⟩
            · intro z
              exact ⟨fun ⟨e, y0, y1, y2⟩ => z ⟨e, y0, by omega, y2⟩, fun y => z ⟨i, i0, by omega, y⟩⟩
          rw [b194_55, ix_p hk.1 (by omega), hcu, if_pos (by omega), bi_1 hwide, if_neg (by omega)]
          by_cases q : isN = 0
          · rw [if_pos q, b194_103, b194_104, ck_p (by omega) (by omega)]
            have := ih2 (i + 1) 0 (by omega) (by omega) (Or.inl rfl) (hstep 0 (Or.inl rfl) (by omega))
            rwa [bi_1 hwide] at this
          · rw [if_neg q, ck_p (by omega) (by omega), ck_p (by omega) (by omega), ix_p (by omega) (by omega), s196 (by omega) p k _ _ h hp hk (by omega) (by rw [hr]; omega) hcur.1 hci9.1, bk_v, b194_96, hr, hw]
            by_cases q2 : alike (lt h p k) w (gi h 177 (40 * r + cu)) (gi h 177 (40 * r + i))
            · have q3 : alike (lt h p k) w (rrw h r i) (rrw h r cu) := fun j j0 j1 => (q2 j j0 j1).imp id Eq.symm
              rw [@bi_1 _ (Classical.propDecidable _) q2, if_neg (by omega), b194_103, b194_104, ck_p (by omega) (by omega)]
              have := ih2 (i + 1) 0 (by omega) (by omega) (Or.inl rfl) (hstep 0 (Or.inl rfl) ⟨fun z => by omega, fun z => absurd q3 z.2⟩)
              rwa [bi_1 hwide] at this
            · have q3 : ¬ alike (lt h p k) w (rrw h r i) (rrw h r cu) := fun z => q2 (fun j j0 j1 => (z j j0 j1).imp id Eq.symm)
              rw [@bi_0 _ (Classical.propDecidable _) q2, if_pos rfl, b194_104, ck_p (by omega) (by omega)]
              have := ih2 (i + 1) 1 (by omega) (by omega) (Or.inr rfl) (hstep 1 (Or.inr rfl) ⟨fun _ => ⟨h01.resolve_left q, q3⟩, fun _ => rfl⟩)
              rwa [bi_1 hwide] at this
      obtain ⟨isN', w7', x1, x2, x3⟩ := hsc cu.toNat 0 1 (by omega) (by omega) (Or.inr rfl) ⟨fun _ ⟨e, y0, y1, _⟩ => by omega, fun _ => rfl⟩
      rw [x3]
      exact htake isN' w7' x1 x2
    · have hno : ¬ ∃ e, 0 ≤ e ∧ e < cu ∧ alike (lt h p k) w (rrw h r e) (rrw h r cu) := by
        rintro ⟨e, y0, y1, y2⟩
        obtain ⟨i, i0, i1, i2⟩ := hds hwide e cu y0 y1 (by omega)
        rcases y2 i i0 i1 with z | z
        · have hz : lq h p k (3 + i) = -1 := z
          rcases (show i = 0 ∨ i = 1 ∨ i = 2 by omega) with rfl | rfl | rfl
          · exact hwide (Or.inl hz)
          · exact hwide (Or.inr (Or.inl hz))
          · exact hwide (Or.inr (Or.inr hz))
        · exact i2 z
      have e55 : dL (d - 1) 194 55 [lR 1 11 165, lI p, lI k, lI r, lI (bi (lq h p k 3 = -1 ∨ lq h p k 4 = -1 ∨ lq h p k 5 = -1)), lI (gi h 177 (40 * r + cu)), lI 1, lI 0] [] h = dL (d - 1) 194 112 [lR 1 11 165, lI p, lI k, lI r, lI (bi (lq h p k 3 = -1 ∨ lq h p k 4 = -1 ∨ lq h p k 5 = -1)), lI (gi h 177 (40 * r + cu)), lI 1, lI 0] [] h := by
        rw [b194_55, ix_p hk.1 (by omega), hcu, bi_0 hwide]
        by_cases q : 0 < cu
        · rw [if_pos q, if_pos rfl]
        · rw [if_neg q]
      rw [e55]
      exact htake 1 _ (Or.inr rfl) ⟨fun _ => hno, fun _ => rfl⟩
