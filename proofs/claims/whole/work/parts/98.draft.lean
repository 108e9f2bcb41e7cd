/-! THE DRAFT: begun, and a literal more -/
/-- how many atoms there are among the first literals -/
def atc (ρ : mR) : Nat → Int
  | 0 => 0
  | n + 1 => atc ρ n + (if ρ.1 (n : Int) = 0 ∨ ρ.1 (n : Int) = 1 then 1 else 0)
theorem atc_r (ρ : mR) : ∀ n : Nat, 0 ≤ atc ρ n ∧ atc ρ n ≤ n
  | 0 => ⟨Int.le_refl _, Int.le_refl _⟩
  | n + 1 => by
    have := atc_r ρ n
    show 0 ≤ atc ρ n + (if ρ.1 (n : Int) = 0 ∨ ρ.1 (n : Int) = 1 then 1 else 0) ∧ atc ρ n + (if ρ.1 (n : Int) = 0 ∨ ρ.1 (n : Int) = 1 then 1 else 0) ≤ ((n + 1 : Nat) : Int)
    split <;> omega
theorem atc_cg {ρ ρ' : mR} : ∀ n : Nat, (∀ k : Int, 0 ≤ k → k < n → ρ'.1 k = ρ.1 k) → atc ρ' n = atc ρ n
  | 0, _ => rfl
  | n + 1, h => by
    show atc ρ' n + (if ρ'.1 (n : Int) = 0 ∨ ρ'.1 (n : Int) = 1 then 1 else 0) = atc ρ n + (if ρ.1 (n : Int) = 0 ∨ ρ.1 (n : Int) = 1 then 1 else 0)
    rw [atc_cg n (fun k k0 k1 => h k k0 (by omega)), h n (by omega) (by omega)]
theorem atc_all {ρ : mR} : ∀ n : Nat, (∀ k : Int, 0 ≤ k → k < n → ρ.1 k = 0 ∨ ρ.1 k = 1) → atc ρ n = n
  | 0, _ => rfl
  | n + 1, h => by
    show atc ρ n + (if ρ.1 (n : Int) = 0 ∨ ρ.1 (n : Int) = 1 then 1 else 0) = ((n + 1 : Nat) : Int)
    rw [atc_all n (fun k k0 k1 => h k k0 (by omega)), if_pos (h n (by omega) (by omega))]
    rfl
section DRF
variable {h : dm_H} {A : Nat}
/-- only the rule A is another one -/
def frA (A : Nat) (h h' : dm_H) : Prop := (∀ a i, ¬ (A ≤ a ∧ a ≤ A + 7) → gi h' a i = gi h a i) ∧ (∀ a i, gr h' a i = gr h a i) ∧ h'.2.2 = h.2.2
theorem frA_refl (A : Nat) (h : dm_H) : frA A h h := ⟨fun _ _ _ => rfl, fun _ _ => rfl, rfl⟩
theorem s93 {d : Nat} (hd : 1 ≤ d) (kd rl cols a b c : Int) : ∃ h', dF d 93 [dR 1 8 A, dI kd, dI rl, dI cols, dI a, dI b, dI c] h = rV h' ∧ frA A h h' ∧ gi h' A 0 = gi h A 0 ∧ gi h' A 1 = kd ∧ gi h' A 2 = rl ∧ gi h' A 3 = cols ∧ gi h' A 4 = 0 ∧ gi h' A 5 = 0 ∧ gi h' A 6 = -1 ∧ gi h' (A + 1) 0 = a ∧ gi h' (A + 1) 1 = b ∧ gi h' (A + 1) 2 = c := by
  rw [f93 (by omega), b93_0, ix_p (by omega) (by omega), ix_p (by omega) (by omega), ix_p (by omega) (by omega)]
  refine ⟨_, rfl, ⟨fun x i hx => ?_, fun _ _ => rfl, rfl⟩, ?_⟩
  · rw [gi_sin (by omega), gi_sin (by omega), gi_sin (by omega), gi_sin (by omega), gi_sin (by omega), gi_sin (by omega), gi_sin (by omega), gi_sin (by omega), gi_sin (by omega), gi_sin (by omega)]
  · have n1 : ¬ A = A + 1 := by omega
    have n2 : ¬ A + 1 = A := by omega
    refine ⟨?_, ?_, ?_, ?_, ?_, ?_, ?_, ?_, ?_, ?_⟩ <;> simp [gi_si]
/-- what is there behind append -/
def AP (A : Nat) (s j w a b c : Int) (h h' : dm_H) : Prop := frA A h h' ∧ (∀ i, i ≤ 3 → gi h' A i = gi h A i) ∧ gi h' A 4 = gi h A 4 + 1 ∧ (∀ i, gi h' (A + 1) i = gi h (A + 1) i) ∧
  (gi h' A 5 = gi h A 5 + (if s = 0 ∨ s = 1 then 1 else 0) ∧ gi h' A 6 = if s = 0 ∨ s = 1 then gi h A 4 else gi h A 6) ∧
  (∀ k, k ≠ gi h A 4 → gi h' (A + 2) k = gi h (A + 2) k ∧ gi h' (A + 3) k = gi h (A + 3) k ∧ gi h' (A + 4) k = gi h (A + 4) k ∧ gi h' (A + 6) k = gi h (A + 6) k ∧ ∀ i, 0 ≤ i → i < 3 → tm h' A k i = tm h A k i) ∧
  gi h' (A + 2) (gi h A 4) = s ∧ gi h' (A + 3) (gi h A 4) = j ∧ gi h' (A + 4) (gi h A 4) = w ∧ (gi h' (A + 6) (gi h A 4) = 0 → a ≠ -1 ∧ b ≠ -1 ∧ c ≠ -1) ∧ tm h' A (gi h A 4) 0 = a ∧ tm h' A (gi h A 4) 1 = b ∧ tm h' A (gi h A 4) 2 = c
theorem s97 {d : Nat} (hd : 2 ≤ d) (hN : 0 ≤ gi h A 4 ∧ gi h A 4 < 4) (h5 : 0 ≤ gi h A 5 ∧ gi h A 5 ≤ 4) (s j w a b c : Int) : ∃ h', dF d 97 [dR 1 8 A, dI s, dI j, dI w, dI a, dI b, dI c] h = rV h' ∧ AP A s j w a b c h h' := by
  obtain ⟨N, eN⟩ : ∃ N, gi h A 4 = N := ⟨_, rfl⟩
  rw [eN] at hN
  have e2 : ∀ (H : dm_H) (i v : Int), gi (si H (A + 2) i v) A 4 = gi H A 4 := fun H i v => gi_sin (by omega)
  have e3 : ∀ (H : dm_H) (i v : Int), gi (si H (A + 3) i v) A 4 = gi H A 4 := fun H i v => gi_sin (by omega)
  have e4 : ∀ (H : dm_H) (i v : Int), gi (si H (A + 4) i v) A 4 = gi H A 4 := fun H i v => gi_sin (by omega)
  have e5 : ∀ (H : dm_H) (i v : Int), gi (si H (A + 5) i v) A 4 = gi H A 4 := fun H i v => gi_sin (by omega)
  have e6 : ∀ (H : dm_H) (i v : Int), gi (si H (A + 6) i v) A 4 = gi H A 4 := fun H i v => gi_sin (by omega)
  obtain ⟨H1, eH1⟩ : ∃ H1, H1 = si (si (si (si (si (si h (A + 2) N s) (A + 3) N j) (A + 4) N w) (A + 5) (N * 3) a) (A + 5) (N * 3 + 1) b) (A + 5) (N * 3 + 2) c := ⟨_, rfl⟩
  have h14 : gi H1 A 4 = N := by rw [eH1]; simp only [e2, e3, e4, e5, eN]
  have h15 : gi H1 A 5 = gi h A 5 := by
    rw [eH1, gi_sin (by omega), gi_sin (by omega), gi_sin (by omega), gi_sin (by omega), gi_sin (by omega), gi_sin (by omega)]
  -- the flag is known
  have tl : ∀ (v : Int), (v = 0 ∨ v = 1) → (v = 0 → a ≠ -1 ∧ b ≠ -1 ∧ c ≠ -1) → ∃ h', dL (d - 1) 97 113 [lR 1 8 A, lI s, lI j, lI w, lI a, lI b, lI c] [dI v, dI N, dR 3 4 (A + 6)] H1 = rV h' ∧ AP A s j w a b c h h' := by
    intro v v01 hv
    have h24 : gi (si H1 (A + 6) N v) A 4 = N := by rw [e6, h14]
    have h25 : gi (si H1 (A + 6) N v) A 5 = gi h A 5 := by rw [gi_sin (by omega), h15]
    have h22 : gi (si H1 (A + 6) N v) (A + 2) N = s := by
      rw [gi_sin (by omega), eH1, gi_sin (by omega), gi_sin (by omega), gi_sin (by omega), gi_sin (by omega), gi_sin (by omega), gi_si, if_pos ⟨rfl, rfl⟩]
    rw [b97_113, ix_p hN.1 hN.2, z1_p v01, h24, s39 (by omega) A N _ hN, bk_v, b97_122, h22]
    have fin : ∀ (H2 : dm_H), H2 = (if s = 0 ∨ s = 1 then si (si (si H1 (A + 6) N v) A 5 (gi h A 5 + 1)) A 6 N else si H1 (A + 6) N v) → ∃ h', dL (d - 1) 97 143 [lR 1 8 A, lI s, lI j, lI w, lI a, lI b, lI c] [] H2 = rV h' ∧ AP A s j w a b c h h' := by
      intro H2 eH2
      have h34 : gi H2 A 4 = N := by
        rw [eH2]
        split
        · rw [gi_si, if_neg (by omega), gi_si, if_neg (by omega), h24]
        · exact h24
      rw [b97_143, h34, ck_p (by omega) (by omega)]
      -- away from A itself
      have o : ∀ x i, x ≠ A → gi (si H2 A 4 (N + 1)) x i = gi (si H1 (A + 6) N v) x i := by
        intro x i hx
        rw [gi_sin hx, eH2]
        split
        · rw [gi_sin hx, gi_sin hx]
        · rfl
      have oA : ∀ i, gi (si H1 (A + 6) N v) A i = gi h A i := by
        intro i
        rw [gi_sin (by omega), eH1, gi_sin (by omega), gi_sin (by omega), gi_sin (by omega), gi_sin (by omega), gi_sin (by omega), gi_sin (by omega)]
      have o5 : ∀ i, gi (si H2 A 4 (N + 1)) (A + 5) i = if i = N * 3 + 2 then c else if i = N * 3 + 1 then b else if i = N * 3 then a else gi h (A + 5) i := by
        intro i
        rw [o _ _ (by omega), gi_sin (by omega), eH1, gi_si, gi_si, gi_si, gi_sin (by omega), gi_sin (by omega), gi_sin (by omega)]
        simp
      have oq : ∀ i, gi (si H2 A 4 (N + 1)) (A + 2) i = (if i = N then s else gi h (A + 2) i) ∧ gi (si H2 A 4 (N + 1)) (A + 3) i = (if i = N then j else gi h (A + 3) i) ∧ gi (si H2 A 4 (N + 1)) (A + 4) i = (if i = N then w else gi h (A + 4) i) ∧ gi (si H2 A 4 (N + 1)) (A + 6) i = (if i = N then v else gi h (A + 6) i) ∧ gi (si H2 A 4 (N + 1)) (A + 1) i = gi h (A + 1) i := by
        intro i
        rw [o _ _ (by omega), o _ _ (by omega), o _ _ (by omega), o _ _ (by omega), o _ _ (by omega)]
        refine ⟨?_, ?_, ?_, ?_, ?_⟩
        · rw [gi_sin (by omega), eH1, gi_sin (by omega), gi_sin (by omega), gi_sin (by omega), gi_sin (by omega), gi_sin (by omega), gi_si]; simp
        · rw [gi_sin (by omega), eH1, gi_sin (by omega), gi_sin (by omega), gi_sin (by omega), gi_sin (by omega), gi_si, gi_sin (by omega)]; simp
        · rw [gi_sin (by omega), eH1, gi_sin (by omega), gi_sin (by omega), gi_sin (by omega), gi_si, gi_sin (by omega), gi_sin (by omega)]; simp
        · rw [gi_si, eH1, gi_sin (by omega), gi_sin (by omega), gi_sin (by omega), gi_sin (by omega), gi_sin (by omega), gi_sin (by omega)]; simp
        · rw [gi_sin (by omega), eH1, gi_sin (by omega), gi_sin (by omega), gi_sin (by omega), gi_sin (by omega), gi_sin (by omega), gi_sin (by omega)]
      have oo : ∀ i, gi (si H2 A 4 (N + 1)) A i = if i = 4 then N + 1 else if s = 0 ∨ s = 1 then (if i = 6 then N else if i = 5 then gi h A 5 + 1 else gi h A i) else gi h A i := by
        intro i
        rw [gi_si]
        by_cases z : i = 4
        · rw [if_pos ⟨rfl, z⟩, if_pos z]
        · rw [if_neg (fun y => z y.2), if_neg z, eH2]
          by_cases z2 : s = 0 ∨ s = 1
          · rw [if_pos z2, if_pos z2, gi_si, gi_si, oA]; simp
          · rw [if_neg z2, if_neg z2, oA]
      refine ⟨_, rfl, ⟨fun x i hx => ?_, fun x i => ?_, ?_⟩, fun i hi => ?_, ?_, fun i => (oq i).2.2.2.2, ⟨?_, ?_⟩, fun k hk => ?_, ?_, ?_, ?_, ?_, ?_, ?_, ?_⟩
      · rw [o _ _ (by omega), gi_sin (by omega), eH1, gi_sin (by omega), gi_sin (by omega), gi_sin (by omega), gi_sin (by omega), gi_sin (by omega), gi_sin (by omega)]
      · rw [gr_si, eH2]
        split <;> (rw [eH1]; rfl)
      · rw [eH2]
        split <;> (rw [eH1]; rfl)
      · rw [oo, if_neg (by omega)]
        split
        · rw [if_neg (by omega), if_neg (by omega)]
        · rfl
      · rw [oo, if_pos rfl, eN]
      · rw [oo, if_neg (by omega)]
        split
        · rw [if_neg (by omega), if_pos rfl]
        · omega
      · rw [oo, if_neg (by omega), eN]
        split
        · rw [if_pos rfl]
        · rfl
      · rw [eN] at hk
        obtain ⟨q1, q2, q3, q4, _⟩ := oq k
        rw [q1, q2, q3, q4, if_neg hk, if_neg hk, if_neg hk, if_neg hk]
        refine ⟨rfl, rfl, rfl, rfl, fun i i0 i1 => ?_⟩
        show gi _ (A + 5) (k * 3 + i) = gi h (A + 5) (k * 3 + i)
        rw [o5, if_neg (by omega), if_neg (by omega), if_neg (by omega)]
      · rw [eN, (oq N).1, if_pos rfl]
      · rw [eN, (oq N).2.1, if_pos rfl]
      · rw [eN, (oq N).2.2.1, if_pos rfl]
      · rw [eN, (oq N).2.2.2.1, if_pos rfl]; exact hv
      · show gi _ (A + 5) (gi h A 4 * 3 + 0) = a
        rw [eN, o5, if_neg (by omega), if_neg (by omega), if_pos (by omega)]
      · show gi _ (A + 5) (gi h A 4 * 3 + 1) = b
        rw [eN, o5, if_neg (by omega), if_pos rfl]
      · show gi _ (A + 5) (gi h A 4 * 3 + 2) = c
        rw [eN, o5, if_pos rfl]
    by_cases z : s = 0 ∨ s = 1
    · rw [bi_1 z, if_neg (by decide), h25, ck_p (by omega) (by omega)]
      have e64 : gi (si (si H1 (A + 6) N v) A 5 (gi h A 5 + 1)) A 4 = N := by rw [gi_si, if_neg (by omega), h24]
      rw [e64]
      exact fin _ (by rw [if_pos z])
    · rw [bi_0 z, if_pos rfl]
      exact fin _ (by rw [if_neg z])
  rw [f97 (by omega), b97_0, if_pos (by omega), ix_p (by omega) (by omega)]
  simp only [e2, e3, e4, e5, eN]
  rw [ix_p hN.1 hN.2, ix_p hN.1 hN.2, ck_p (by omega) (by omega), ix_p (by omega) (by omega), ck_p (by omega) (by omega), ck_p (by omega) (by omega), ix_p (by omega) (by omega), ck_p (by omega) (by omega), ck_p (by omega) (by omega), ix_p (by omega) (by omega), ← eH1]
  by_cases za : a = -1
  · rw [if_pos za, b97_108]; exact tl 1 (Or.inr rfl) (fun y => by omega)
  rw [if_neg za]
  by_cases zb : b = -1
  · rw [if_pos zb, b97_108]; exact tl 1 (Or.inr rfl) (fun y => by omega)
  rw [if_neg zb]
  by_cases zc : c = -1
  · rw [if_pos zc, b97_108]; exact tl 1 (Or.inr rfl) (fun y => by omega)
  rw [if_neg zc]
  exact tl 0 (Or.inl rfl) (fun _ => ⟨za, zb, zc⟩)
/-- the reference's draft: one cell -/
theorem s222 {d : Nat} (hd : 1 ≤ d) (w v : Int) (hw : 0 ≤ w ∧ w < 38) : dF d 222 [dR 1 11 165, dI w, dI v] h = rV (si h 172 (380 + w) v) := by
  rw [f222 (by omega), b222_0, ck_p (by omega) (by omega), ix_p (by omega) (by omega)]
/-- what is there behind adds -/
def APr (s x y a b c : Int) (h h' : dm_H) : Prop := (∀ a i, a ≠ 172 → gi h' a i = gi h a i) ∧ (∀ a i, gr h' a i = gr h a i) ∧ h'.2.2 = h.2.2 ∧ gi h' 172 385 = gi h 172 385 + 1 ∧ (∀ i, i ≠ 385 → ¬ (386 + 8 * gi h 172 385 ≤ i ∧ i ≤ 391 + 8 * gi h 172 385) → gi h' 172 i = gi h 172 i) ∧
  lq h' 10 (gi h 172 385) 0 = s ∧ lq h' 10 (gi h 172 385) 1 = x ∧ lq h' 10 (gi h 172 385) 2 = y ∧ lq h' 10 (gi h 172 385) 3 = a ∧ lq h' 10 (gi h 172 385) 4 = b ∧ lq h' 10 (gi h 172 385) 5 = c
theorem s225 {d : Nat} (hd : 2 ≤ d) (hN : 0 ≤ gi h 172 385 ∧ gi h 172 385 < 4) (s x y a b c : Int) : ∃ h', dF d 225 [dR 1 11 165, dI s, dI x, dI y, dI a, dI b, dI c] h = rI (gi h 172 385 + 1) h' ∧ APr s x y a b c h h' := by
  obtain ⟨N, eN⟩ : ∃ N, gi h 172 385 = N := ⟨_, rfl⟩
  rw [eN] at hN
  have e0 : ∀ (H : dm_H), dF (d - 1) 179 [dR 1 11 165, dI 10, dI 5] H = rI (gi H 172 385) H := fun H => s179 (by omega) 10 5 H (by omega) (by omega)
  rw [f225 (by omega), b225_0, e0, bk_v, b225_11, eN, ck_p (by omega) (by omega), ck_p (by omega) (by omega), s222 (by omega) _ _ (by omega), bk_n, b225_22, ck_p (by omega) (by omega), s222 (by omega) _ _ (by omega), bk_n, b225_31, ck_p (by omega) (by omega), s222 (by omega) _ _ (by omega), bk_n, b225_40, ck_p (by omega) (by omega), s222 (by omega) _ _ (by omega), bk_n, b225_50, ck_p (by omega) (by omega), s222 (by omega) _ _ (by omega), bk_n, b225_60, ck_p (by omega) (by omega), s222 (by omega) _ _ (by omega), bk_n, b225_70, e0, bk_v, b225_79]
  have c5 : gi (si (si (si (si (si (si h 172 (380 + (6 + 8 * N)) s) 172 (380 + (6 + 8 * N + 1)) x) 172 (380 + (6 + 8 * N + 2)) y) 172 (380 + (6 + 8 * N + 3)) a) 172 (380 + (6 + 8 * N + 4)) b) 172 (380 + (6 + 8 * N + 5)) c) 172 385 = N := by
    rw [gi_si, if_neg (by omega), gi_si, if_neg (by omega), gi_si, if_neg (by omega), gi_si, if_neg (by omega), gi_si, if_neg (by omega), gi_si, if_neg (by omega), eN]
  rw [c5, ck_p (by omega) (by omega), s222 (by omega) _ _ (by omega), bk_n, b225_84, e0, bk_v, b225_91]
  refine ⟨_, congrArg (fun z => rI z _) (by rw [gi_si, if_pos ⟨rfl, by omega⟩]), fun x i hx => ?_, fun x i => rfl, rfl, ?_, fun i h1 h2 => ?_, ?_, ?_, ?_, ?_, ?_, ?_⟩
  · rw [gi_sin hx, gi_sin hx, gi_sin hx, gi_sin hx, gi_sin hx, gi_sin hx, gi_sin hx]
  · rw [gi_si, if_pos ⟨rfl, by omega⟩, eN]
  · rw [eN] at h2
    rw [gi_si, if_neg (by omega), gi_si, if_neg (by omega), gi_si, if_neg (by omega), gi_si, if_neg (by omega), gi_si, if_neg (by omega), gi_si, if_neg (by omega), gi_si, if_neg (by omega)]
  all_goals
    unfold lq
    rw [eN]
  · rw [gi_si, if_neg (by omega), gi_si, if_neg (by omega), gi_si, if_neg (by omega), gi_si, if_neg (by omega), gi_si, if_neg (by omega), gi_si, if_neg (by omega), gi_si, if_pos ⟨rfl, by omega⟩]
  · rw [gi_si, if_neg (by omega), gi_si, if_neg (by omega), gi_si, if_neg (by omega), gi_si, if_neg (by omega), gi_si, if_neg (by omega), gi_si, if_pos ⟨rfl, by omega⟩]
  · rw [gi_si, if_neg (by omega), gi_si, if_neg (by omega), gi_si, if_neg (by omega), gi_si, if_neg (by omega), gi_si, if_pos ⟨rfl, by omega⟩]
  · rw [gi_si, if_neg (by omega), gi_si, if_neg (by omega), gi_si, if_neg (by omega), gi_si, if_pos ⟨rfl, by omega⟩]
  · rw [gi_si, if_neg (by omega), gi_si, if_neg (by omega), gi_si, if_pos ⟨rfl, by omega⟩]
  · rw [gi_si, if_neg (by omega), gi_si, if_pos ⟨rfl, by omega⟩]
end DRF
