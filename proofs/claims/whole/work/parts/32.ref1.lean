/-! THE REFERENCE'S SMALL METHODS of bindings -/
/-- a literal's number, of the rule in place p -/
def lq (h : dm_H) (p k w : Int) : Int := gi h 172 (38 * p + 6 + 8 * k + w)
theorem s181 {d : Nat} (hd : 1 ≤ d) (p k w : Int) (h : dm_H) (hp : 0 ≤ p ∧ p ≤ 10) (hk : 0 ≤ k ∧ k < 4) (hw : 0 ≤ w ∧ w < 8) : dF d 181 [dR 1 11 165, dI p, dI k, dI w] h = rI (lq h p k w) h := by
  rw [f181 hd]
  simp (disch := omega) only [b181_0, ix_p, ck_p, z1_p, bk_v, bk_n, Nat.reduceAdd, Int.reduceEq, Int.reduceLT, Int.reduceNeg, if_true, if_false, eq_self]
  rfl
theorem s179 {d : Nat} (hd : 1 ≤ d) (p w : Int) (h : dm_H) (hp : 0 ≤ p ∧ p ≤ 10) (hw : 0 ≤ w ∧ w < 38) : dF d 179 [dR 1 11 165, dI p, dI w] h = rI (gi h 172 (38 * p + w)) h := by
  rw [f179 hd]
  simp (disch := omega) only [b179_0, ix_p, ck_p, z1_p, bk_v, bk_n, Nat.reduceAdd, Int.reduceEq, Int.reduceLT, Int.reduceNeg, if_true, if_false, eq_self]
theorem s200 {d : Nat} (hd : 1 ≤ d) (t : Int) (h : dm_H) : dF d 200 [dI t] h = rI (bi (100 ≤ t)) h := by
  rw [f200 hd, b200_0]
  by_cases h1 : t < 100
  · rw [if_pos h1, b200_11, z1_p (Or.inl rfl), bi_0 (by omega)]
  · rw [if_neg h1, b200_11, z1_p (Or.inr rfl), bi_1 (by omega)]
theorem s199 {d : Nat} (hd : 2 ≤ d) (t : Int) (h : dm_H) (ht : t ≤ 107) : dF d 199 [dR 1 11 165, dI t] h = rI (tv (va h 185) t) h := by
  rw [f199 (by omega), b199_0, s200 (by omega), bk_v, b199_4, ← tv_va]
  unfold tv
  by_cases h1 : t < 100
  · rw [bi_0 (by omega), if_pos rfl, b199_20, if_pos h1]
  · rw [bi_1 (by omega), if_neg (by omega), ck_p (by omega) (by omega), ix_p (by omega) (by omega), b199_20, if_neg h1, if_neg (by omega)]
theorem s197 {d : Nat} (hd : 1 ≤ d) (c i : Int) (h : dm_H) (hc : 0 ≤ c) : dF d 197 [dI c, dI i] h = rI (cv i c) h := by
  rw [f197 hd, b197_0]
  unfold cv
  by_cases h1 : i = 0
  · rw [if_pos h1, dv_p hc (by omega), b197_31, if_pos h1]
  rw [if_neg h1, if_neg h1]
  by_cases h2 : i = 1
  · rw [if_pos h2, dv_p hc (by omega), dv_p (by omega) (by omega), b197_31, if_pos h2]
  · rw [if_neg h2, dv_p hc (by omega), b197_31, if_neg h2]
theorem s203 {d : Nat} (hd : 1 ≤ d) (x0 x1 x2 : Int) (h : dm_H) : dF d 203 [dI x0, dI x1, dI x2] h = rI (bi (cmpb x0 x1 x2 = true)) h := by
  rw [f203 hd, b203_0]
  unfold cmpb
  (repeat' (first | split | simp (disch := omega) only [ix_p, ck_p, z1_p, bk_v, bk_n, Nat.reduceAdd, Int.reduceEq, Int.reduceLT, Int.reduceNeg, if_true, if_false, eq_self, b203_63])) <;> first | (rw [bi_1 (by simp; omega)]) | (rw [bi_0 (by simp; omega)])
theorem s204 {d : Nat} (hd : 1 ≤ d) (x0 x1 x2 : Int) (h : dm_H) (h1 : 0 ≤ x1 ∧ x1 ≤ 99) (h2 : 0 ≤ x2 ∧ x2 ≤ 99) : dF d 204 [dI x0, dI x1, dI x2] h = rI (rck x0 x1 x2) h := by
  have hm := mul99 h1 h2
  have hc : ∀ z, dL (d - 1) 204 79 [lI x0, lI x1, lI x2, none] [dI z] h = rI (clamp z) h := by
    intro z
    rw [b204_79]
    unfold clamp
    by_cases q1 : z < 0
    · rw [if_pos q1, if_pos q1, b204_100]
    rw [if_neg q1, if_neg q1]
    by_cases q2 : 99 < z
    · rw [if_pos q2, if_pos q2, b204_100]
    · rw [if_neg q2, if_neg q2, b204_100]
  rw [f204 hd, b204_0]
  unfold rck
  by_cases e0 : x0 = 0
  · rw [if_pos e0, if_pos e0, ck_p (by omega) (by omega), hc]
  rw [if_neg e0, if_neg e0]
  by_cases e1 : x0 = 1
  · rw [if_pos e1, if_pos e1, ck_p (by omega) (by omega), hc]
  rw [if_neg e1, if_neg e1]
  by_cases e2 : x0 = 2
  · rw [if_pos e2, if_pos e2, ck_p (by omega) (by omega), hc]
  rw [if_neg e2, if_neg e2]
  by_cases e3 : x0 = 3
  · rw [if_pos e3, if_pos e3]
    by_cases q : x1 < x2
    · rw [if_pos q, if_pos q, hc]
    · rw [if_neg q, if_neg q, hc]
  rw [if_neg e3, if_neg e3]
  by_cases e4 : x0 = 4
  · rw [if_pos e4, if_pos e4]
    by_cases q : x2 < x1
    · rw [if_pos q, if_neg (by omega), hc]
    · rw [if_neg q, hc]
      by_cases q2 : x1 < x2
      · rw [if_pos q2]
      · rw [if_neg q2, show x1 = x2 by omega]
  rw [if_neg e4, if_neg e4]
  by_cases e5 : x2 = 0
  · rw [if_pos e5, if_pos e5, hc]
  · rw [if_neg e5, if_neg e5, dv_p (by omega) (by omega), hc]
theorem s180 {d : Nat} (hd : 2 ≤ d) (p k : Int) (h : dm_H) (hp : 0 ≤ p ∧ p ≤ 10) (hk : 0 ≤ k ∧ k < 4) : dF d 180 [dR 1 11 165, dI p, dI k] h = rI (bi (lq h p k 0 = 0)) h := by
  rw [f180 (by omega), b180_0, s181 (by omega) p k 0 h hp hk (by omega), bk_v, b180_7]
  by_cases h1 : lq h p k 0 = 0
  · rw [if_pos h1, b180_15, z1_p (Or.inr rfl), bi_1 h1]
  · rw [if_neg h1, b180_15, z1_p (Or.inl rfl), bi_0 h1]
theorem s193 {d : Nat} (hd : 3 ≤ d) (p k : Int) (h : dm_H) (hp : 0 ≤ p ∧ p ≤ 10) (hk : 0 ≤ k ∧ k < 4) : dF d 193 [dR 1 11 165, dI p, dI k] h = rI (bi (lq h p k 0 = 0 ∧ lq h p k 2 = 0)) h := by
  rw [f193 (by omega), b193_0, s180 (by omega) p k h hp hk, bk_v, b193_6]
  by_cases h1 : lq h p k 0 = 0
  · rw [bi_1 h1, if_neg (by omega), s181 (by omega) p k 2 h hp hk (by omega), bk_v, b193_16]
    by_cases h2 : lq h p k 2 = 0
    · rw [if_pos h2, b193_24, z1_p (Or.inr rfl), bi_1 ⟨h1, h2⟩]
    · rw [if_neg h2, b193_23, b193_24, z1_p (Or.inl rfl), bi_0 (fun q => h2 q.2)]
  · rw [bi_0 h1, if_pos rfl, b193_23, b193_24, z1_p (Or.inl rfl), bi_0 (fun q => h1 q.1)]
theorem s195 {d : Nat} (hd : 2 ≤ d) (p k : Int) (h : dm_H) (hp : 0 ≤ p ∧ p ≤ 10) (hk : 0 ≤ k ∧ k < 4) : dF d 195 [dR 1 11 165, dI p, dI k] h = rI (bi (lq h p k 3 = -1 ∨ lq h p k 4 = -1 ∨ lq h p k 5 = -1)) h := by
  rw [f195 (by omega), b195_0, s181 (by omega) p k 3 h hp hk (by omega), bk_v, b195_7]
  by_cases h1 : lq h p k 3 = -1
  · rw [if_pos h1, b195_33, b195_38, z1_p (Or.inr rfl), bi_1 (Or.inl h1)]
  rw [if_neg h1, s181 (by omega) p k 4 h hp hk (by omega), bk_v, b195_18]
  by_cases h2 : lq h p k 4 = -1
  · rw [if_pos h2, b195_33, b195_38, z1_p (Or.inr rfl), bi_1 (Or.inr (Or.inl h2))]
  rw [if_neg h2, s181 (by omega) p k 5 h hp hk (by omega), bk_v, b195_29]
  by_cases h3 : lq h p k 5 = -1
  · rw [if_pos h3, b195_33, b195_38, z1_p (Or.inr rfl), bi_1 (Or.inr (Or.inr h3))]
  · rw [if_neg h3, b195_38, z1_p (Or.inl rfl), bi_0 (by omega)]
/-- the terms of an atom -/
def lt (h : dm_H) (p k : Int) : Int → Int := fun i => lq h p k (3 + i)
theorem s196 {d : Nat} (hd : 2 ≤ d) (p k c c' : Int) (h : dm_H) (hp : 0 ≤ p ∧ p ≤ 10) (hk : 0 ≤ k ∧ k < 4) (hr : 0 ≤ lq h p k 1 ∧ lq h p k 1 < 6) (hw : 0 ≤ gi h 166 (lq h p k 1) ∧ gi h 166 (lq h p k 1) ≤ 3) (hc : 0 ≤ c) (hc' : 0 ≤ c') : dF d 196 [dR 1 11 165, dI p, dI k, dI c, dI c'] h = rI (@bi (alike (lt h p k) (gi h 166 (lq h p k 1)) c c') (Classical.propDecidable _)) h := by
  rw [f196 (by omega), b196_0]
  have key : ∀ (n : Nat) (i : Int) (X : Prop) (b : Int), 0 ≤ i → i + n = gi h 166 (lq h p k 1) → (b = 0 ∨ b = 1) → (b = 1 ↔ ∀ j, 0 ≤ j → j < i → lt h p k j = -1 ∨ cv j c = cv j c') → dL (d - 1) 196 6 [lR 1 11 165, lI p, lI k, lI c, lI c', lI b, lI i] [] h = rI (@bi (alike (lt h p k) (gi h 166 (lq h p k 1)) c c') (Classical.propDecidable _)) h := by
    intro n
    induction n with
    | zero =>
      intro i X b h0 hn hb01 hb
      rw [b196_6, s181 (by omega) p k 1 h hp hk (by omega), bk_v, b196_19, ix_p hr.1 hr.2, if_neg (by omega), z1_p hb01]
      have hi : i = gi h 166 (lq h p k 1) := by omega
      rw [hi] at hb
      by_cases q : alike (lt h p k) (gi h 166 (lq h p k 1)) c c'
      · rw [@bi_1 _ (Classical.propDecidable _) q, hb.mpr q]
      · rw [@bi_0 _ (Classical.propDecidable _) q]
        rcases hb01 with e | e
        · rw [e]
        · exact absurd (hb.mp e) q
    | succ n ih =>
      intro i X b h0 hn hb01 hb
      have hT : ∀ (b' : Int), (b' = 0 ∨ b' = 1) → (b' = 1 ↔ b = 1 ∧ (lt h p k i = -1 ∨ cv i c = cv i c')) → (b' = 1 ↔ ∀ j, 0 ≤ j → j < i + 1 → lt h p k j = -1 ∨ cv j c = cv j c') := by
        intro b' _ hb'
        rw [hb', hb]
        constructor
        · rintro ⟨z1, z2⟩ j j0 j1
          by_cases e : j = i
          · rw [e]; exact z2
          · exact z1 j j0 (by omega)
        · intro z
          exact ⟨fun j j0 j1 => z j j0 (by omega), z i h0 (by omega)⟩
      rw [b196_6, s181 (by omega) p k 1 h hp hk (by omega), bk_v, b196_19, ix_p hr.1 hr.2, if_pos (by omega)]
      by_cases e : b = 0
      · rw [if_pos e, b196_62, b196_63, ck_p (by omega) (by omega)]
        exact ih (i + 1) True 0 (by omega) (by omega) (Or.inl rfl) (hT 0 (Or.inl rfl) (by omega))
      rw [if_neg e, ck_p (by omega) (by omega), s181 (by omega) p k (3 + i) h hp hk (by omega), bk_v, b196_38]
      have eb : b = 1 := by omega
      rw [show lq h p k (3 + i) = lt h p k i from rfl]
      by_cases e2 : lt h p k i = -1
      · rw [if_pos e2, b196_58, b196_63, ck_p (by omega) (by omega)]
        exact ih (i + 1) True 1 (by omega) (by omega) (Or.inr rfl) (hT 1 (Or.inr rfl) ⟨fun _ => ⟨eb, Or.inl e2⟩, fun _ => rfl⟩)
      rw [if_neg e2, s197 (by omega) c i h hc, bk_v, b196_48, s197 (by omega) c' i h hc', bk_v, b196_55]
      by_cases e3 : cv i c = cv i c'
      · rw [if_pos e3, b196_58, b196_63, ck_p (by omega) (by omega)]
        exact ih (i + 1) True 1 (by omega) (by omega) (Or.inr rfl) (hT 1 (Or.inr rfl) ⟨fun _ => ⟨eb, Or.inr e3⟩, fun _ => rfl⟩)
      · rw [if_neg e3, b196_62, b196_63, ck_p (by omega) (by omega)]
        exact ih (i + 1) True 0 (by omega) (by omega) (Or.inl rfl) (hT 0 (Or.inl rfl) ⟨fun z => by omega, fun z => by rcases z.2 with z | z; exact absurd z e2; exact absurd z e3⟩)
  exact key (gi h 166 (lq h p k 1)).toNat 0 True 1 (by omega) (by omega) (Or.inr rfl) ⟨fun _ j j0 j1 => by omega, fun _ => rfl⟩
/-- what literal k has taken: values u at 185, and who has given them at 186 -/
def tk (h : dm_H) (k : Int) (u : mA) : dm_H := (fun b j => if b = 185 ∧ 0 ≤ j ∧ j < 8 then u j else if b = 186 ∧ 0 ≤ j ∧ j < 8 ∧ h.1 185 j = -1 ∧ u j ≠ -1 then k else h.1 b j, h.2)
theorem gi_tk (h : dm_H) (k : Int) (u : mA) (b : Nat) (j : Int) : gi (tk h k u) b j = if b = 185 ∧ 0 ≤ j ∧ j < 8 then u j else if b = 186 ∧ 0 ≤ j ∧ j < 8 ∧ gi h 185 j = -1 ∧ u j ≠ -1 then k else gi h b j := rfl
theorem gi_tkn {h : dm_H} {k : Int} {u : mA} {b : Nat} {j : Int} (h1 : b ≠ 185) (h2 : b ≠ 186) : gi (tk h k u) b j = gi h b j := by
  rw [gi_tk, if_neg (fun q => h1 q.1), if_neg (fun q => h2 q.1)]
theorem va_tk {h : dm_H} {k : Int} {u : mA} (hu : nv u) : va (tk h k u) 185 = u := by
  funext s
  unfold va
  by_cases hs : 0 ≤ s ∧ s < 8
  · rw [if_pos hs, gi_tk, if_pos ⟨rfl, hs⟩]
  · rw [if_neg hs, hu s hs]
theorem tk_va {h : dm_H} {k : Int} : tk h k (va h 185) = h := by
  rcases h with ⟨h1, h2⟩
  unfold tk
  congr 1
  funext b j
  by_cases q : b = 185 ∧ 0 ≤ j ∧ j < 8
  · rw [if_pos q, va_in q.2, q.1]
    rfl
  · rw [if_neg q, if_neg]
    rintro ⟨q1, q2, q3, q4, q5⟩
    rw [va_in ⟨q2, q3⟩] at q5
    exact q5 q4
/-- one number more -/
theorem tk_set {h : dm_H} {k s x : Int} {u : mA} (hs : 0 ≤ s ∧ s < 8) (hl : lev (va h 185) u) (hu : u s = -1) (hx : x ≠ -1) : si (si (tk h k u) 185 s x) 186 s k = tk h k (upd1 u s x) := by
  have hv : gi h 185 s = -1 := by
    by_cases q : va h 185 s = -1
    · rw [va_in hs] at q; exact q
    · have := hl s q
      rw [hu] at this
      exact absurd this.symm q
  unfold si tk upd1
  congr 1
  funext b j
  by_cases hb : b = 185
  · subst hb
    by_cases hj : j = s
    · subst hj
      simp [hs]
    · by_cases hr : 0 ≤ j ∧ j < 8
      · simp [hj, hr]
      · have : ¬ (0 ≤ j ∧ j < 8) := hr
        simp [hj, this]
  · by_cases hb2 : b = 186
    · subst hb2
      by_cases hj : j = s
      · subst hj
        have hv' : h.1 185 j = -1 := hv
        simp [hs, hv', hx]
      · simp [hj]
    · simp [hb, hb2]
/-- what literal k has given is forgotten -/
def fg (h : dm_H) (k : Int) : dm_H := (fun b j => if (b = 185 ∨ b = 186) ∧ 0 ≤ j ∧ j < 8 ∧ h.1 186 j = k then -1 else h.1 b j, h.2)
theorem gi_fg (h : dm_H) (k : Int) (b : Nat) (j : Int) : gi (fg h k) b j = if (b = 185 ∨ b = 186) ∧ 0 ≤ j ∧ j < 8 ∧ gi h 186 j = k then -1 else gi h b j := rfl
theorem s191 {d : Nat} (hd : 1 ≤ d) (k : Int) (h : dm_H) (hk : k ≠ -1) : dF d 191 [dR 1 11 165, dI k] h = rV (fg h k) := by
  rw [f191 hd, b191_0]
  have key : ∀ (n : Nat) (i : Int), 0 ≤ i → i + n = 8 → dL (d - 1) 191 2 [lR 1 11 165, lI k, lI i] [] (fun b j => if (b = 185 ∨ b = 186) ∧ 0 ≤ j ∧ j < i ∧ h.1 186 j = k then -1 else h.1 b j, h.2) = rV (fg h k) := by
    intro n
    induction n with
    | zero =>
      intro i h0 hn
      have : i = 8 := by omega
      subst this
      rw [b191_2, if_neg (by omega)]
      rfl
    | succ n ih =>
      intro i h0 hn
      have hg : gi (fun b j => if (b = 185 ∨ b = 186) ∧ 0 ≤ j ∧ j < i ∧ h.1 186 j = k then -1 else h.1 b j, h.2) 186 i = gi h 186 i := by
        show (if (186 = 185 ∨ 186 = 186) ∧ 0 ≤ i ∧ i < i ∧ h.1 186 i = k then -1 else h.1 186 i) = _
        rw [if_neg (by omega)]
        rfl
      rw [b191_2, if_pos (by omega), ix_p h0 (by omega), hg]
      have hnext : ∀ (H : dm_H), H = (fun b j => if (b = 185 ∨ b = 186) ∧ 0 ≤ j ∧ j < i + 1 ∧ h.1 186 j = k then -1 else h.1 b j, h.2) → dL (d - 1) 191 32 [lR 1 11 165, lI k, lI i] [] H = rV (fg h k) := by
        intro H hH
        rw [b191_32, ck_p (by omega) (by omega), hH]
        exact ih (i + 1) (by omega) (by omega)
      by_cases e : gi h 186 i = k
      · rw [if_pos e, ix_p h0 (by omega), ix_p h0 (by omega)]
        refine hnext _ ?_
        unfold si
        congr 1
        funext b j
        have e' : h.1 186 i = k := e
        by_cases hj : j = i
        · subst hj
          by_cases hb : b = 186
          · subst hb; simp [h0, e', show j < j + 1 by omega]
          · by_cases hb2 : b = 185
            · subst hb2; simp [h0, e', show j < j + 1 by omega]
            · simp [hb, hb2]
        · have e1 : (j < i + 1) ↔ (j < i) := by omega
          simp [hj, e1]
      · rw [if_neg e]
        refine hnext _ ?_
        congr 1
        funext b j
        have e' : ¬ h.1 186 i = k := e
        by_cases hj : j = i
        · subst hj
          simp [e']
        · have e1 : (j < i + 1) ↔ (j < i) := by omega
          simp [e1]
  have e0 : (fun b j => if (b = 185 ∨ b = 186) ∧ 0 ≤ j ∧ j < (0 : Int) ∧ h.1 186 j = k then -1 else h.1 b j, h.2) = h := by
    rcases h with ⟨h1, h2⟩
    congr 1
    funext b j
    rw [if_neg (by omega)]
  have := key 8 0 (by omega) (by omega)
  rw [e0] at this
  exact this
