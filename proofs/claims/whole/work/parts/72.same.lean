/-! ONE RULE WRITTEN TWICE: class and reference -/
/-- the same literals, as far as they are looked at -/
def simR (ρ ρ' : mR) (N : Int) : Prop := ∀ k, 0 ≤ k → k < N → ρ'.1 k = ρ.1 k ∧ ρ'.2.1 k = ρ.2.1 k ∧ ρ'.2.2.1 k = ρ.2.2.1 k ∧ ∀ i, 0 ≤ i → i < 3 → ρ'.2.2.2 k i = ρ.2.2.2 k i
theorem bA_cg {t t' : Int → Int} {c : Int} : ∀ {n : Nat} {i : Int} {v : mA}, (∀ j, i ≤ j → j < i + n → t' j = t j) → bA t' c n i v = bA t c n i v
  | 0, _, _, _ => rfl
  | n + 1, i, v, h => by
    unfold bA
    rw [h i (by omega) (by omega)]
    cases b1 v (t i) (cv i c) with
    | none => rfl
    | some u => exact bA_cg (fun j j0 j1 => h j (by omega) (by omega))
theorem alike_cg {t t' : Int → Int} {w c c' : Int} (h : ∀ j, 0 ≤ j → j < w → t' j = t j) : alike t' w c c' ↔ alike t w c c' := by
  unfold alike
  constructor
  · intro a i i0 i1
    rw [← h i i0 i1]; exact a i i0 i1
  · intro a i i0 i1
    rw [h i i0 i1]; exact a i i0 i1
theorem opA_cg {t t' : Int → Int} {w : Int} {c : Int → Int} {v : mA} {n : Nat} (hw : 0 ≤ w) (h : ∀ j, 0 ≤ j → j < w → t' j = t j) : opA t' w c v n = opA t w c v n := by
  unfold opA
  have e : (fun p : Nat => one t' w c v (p : Int)) = fun p : Nat => one t w c v (p : Int) := by
    funext p
    unfold one
    rw [bA_cg (t := t) (t' := t') (fun j j0 j1 => h j j0 (by omega))]
    by_cases q : ∃ e, 0 ≤ e ∧ e < (p : Int) ∧ alike t w (c e) (c p)
    · rw [if_pos q, if_pos]
      obtain ⟨e, e0, e1, e2⟩ := q
      exact ⟨e, e0, e1, (alike_cg h).mpr e2⟩
    · rw [if_neg q, if_neg]
      rintro ⟨e, e0, e1, e2⟩
      exact q ⟨e, e0, e1, (alike_cg h).mp e2⟩
  rw [e]
theorem opt_cg {ρ ρ' : mR} {ω : mW} {N k : Int} {v : mA} (e : simR ρ ρ' N) (k0 : 0 ≤ k) (k1 : k < N) (hw : ρ.1 k = 0 ∨ ρ.1 k = 1 → 0 ≤ ρ.2.2.1 k ∧ ρ.2.2.1 k ≤ 3) : opt ρ' ω k v = opt ρ ω k v := by
  obtain ⟨e1, e2, e3, e4⟩ := e k k0 k1
  unfold opt
  rw [e1, e2, e3, e4 0 (by omega) (by omega), e4 1 (by omega) (by omega), e4 2 (by omega) (by omega)]
  by_cases q0 : ρ.1 k = 0
  · rw [if_pos q0, if_pos q0]
    have w := hw (Or.inl q0)
    exact opA_cg w.1 (fun j j0 j1 => e4 j j0 (by omega))
  rw [if_neg q0, if_neg q0]
  by_cases q1 : ρ.1 k = 1
  · rw [if_pos q1, if_pos q1]
    have w := hw (Or.inr q1)
    have hf : fitE (ρ'.2.2.2 k) (ρ.2.2.1 k) (ω.2 (ρ.2.1 k)) (ω.1 (ρ.2.1 k)) v ↔ fitE (ρ.2.2.2 k) (ρ.2.2.1 k) (ω.2 (ρ.2.1 k)) (ω.1 (ρ.2.1 k)) v := by
      unfold fitE fitb
      constructor
      · rintro ⟨p, p0, p1, p2⟩
        refine ⟨p, p0, p1, ?_⟩
        rw [← bA_cg (t := ρ.2.2.2 k) (t' := ρ'.2.2.2 k) (fun j j0 j1 => e4 j j0 (by omega))]
        exact p2
      · rintro ⟨p, p0, p1, p2⟩
        refine ⟨p, p0, p1, ?_⟩
        rw [bA_cg (t := ρ.2.2.2 k) (t' := ρ'.2.2.2 k) (fun j j0 j1 => e4 j j0 (by omega))]
        exact p2
    by_cases q : fitE (ρ.2.2.2 k) (ρ.2.2.1 k) (ω.2 (ρ.2.1 k)) (ω.1 (ρ.2.1 k)) v
    · rw [if_pos q, if_pos (hf.mpr q)]
    · rw [if_neg q, if_neg (fun z => q (hf.mp z))]
  · rw [if_neg q1, if_neg q1]
theorem bnd_sim {ρ ρ' : mR} {ω : mW} {N : Int} (e : simR ρ ρ' N) (hw : ∀ k, 0 ≤ k → k < N → ρ.1 k = 0 ∨ ρ.1 k = 1 → 0 ≤ ρ.2.2.1 k ∧ ρ.2.2.1 k ≤ 3) : ∀ (n : Nat) (k : Int) (v : mA), 0 ≤ k → k + n ≤ N → bnd ρ' ω n k v = bnd ρ ω n k v
  | 0, _, _, _, _ => rfl
  | n + 1, k, v, k0, k1 => by
    show (opt ρ' ω k v).flatMap (fun w => bnd ρ' ω n (k + 1) w) = (opt ρ ω k v).flatMap (fun w => bnd ρ ω n (k + 1) w)
    rw [opt_cg e k0 (by omega) (hw k k0 (by omega))]
    congr 1
    funext w
    exact bnd_sim e hw n (k + 1) w (by omega) (by omega)
theorem kng_sim {ρ ρ' : mR} {N : Int} (e : simR ρ ρ' N) (hw : ∀ k, 0 ≤ k → k < N → ρ.1 k = 0 ∨ ρ.1 k = 1 → 0 ≤ ρ.2.2.1 k ∧ ρ.2.2.1 k ≤ 3) {k s : Int} (k1 : k ≤ N) : kng ρ' k s ↔ kng ρ k s := by
  unfold kng
  constructor
  · rintro ⟨j, j0, j1, j2⟩
    obtain ⟨e1, e2, e3, e4⟩ := e j j0 (by omega)
    refine ⟨j, j0, j1, ?_⟩
    rw [e1, e3, e4 2 (by omega) (by omega)] at j2
    rcases j2 with ⟨a, i, i0, i1, i2⟩ | j2
    · have w := hw j j0 (by omega) (Or.inl a)
      rw [e4 i i0 (by omega)] at i2
      exact Or.inl ⟨a, i, i0, i1, i2⟩
    · exact Or.inr j2
  · rintro ⟨j, j0, j1, j2⟩
    obtain ⟨e1, e2, e3, e4⟩ := e j j0 (by omega)
    refine ⟨j, j0, j1, ?_⟩
    rw [e1, e3, e4 2 (by omega) (by omega)]
    rcases j2 with ⟨a, i, i0, i1, i2⟩ | j2
    · have w := hw j j0 (by omega) (Or.inl a)
      exact Or.inl ⟨a, i, i0, i1, by rw [e4 i i0 (by omega)]; exact i2⟩
    · exact Or.inr j2
theorem GW_wd {ρ : mR} {ω : mW} {N : Int} (G : GW ρ ω N) : ∀ k, 0 ≤ k → k < N → ρ.1 k = 0 ∨ ρ.1 k = 1 → 0 ≤ ρ.2.2.1 k ∧ ρ.2.2.1 k ≤ 3 := by
  intro k k0 k1 q
  rcases G.2 k k0 k1 with g | g | g
  · exact g.2.2.1
  · exact g.2.2.1
  · omega
theorem GW_sim {ρ ρ' : mR} {ω : mW} {N : Int} (e : simR ρ ρ' N) (G : GW ρ ω N) : GW ρ' ω N := by
  refine ⟨G.1, fun k k0 k1 => ?_⟩
  obtain ⟨e1, e2, e3, e4⟩ := e k k0 k1
  have hk : ∀ s, kng ρ' k s ↔ kng ρ k s := fun s => kng_sim e (GW_wd G) (by omega)
  rw [e1, e2, e3, e4 2 (by omega) (by omega)]
  rcases G.2 k k0 k1 with ⟨g1, g2, g3, g4, g5⟩ | ⟨g1, g2, g3, g4, g5, g6, g7⟩ | ⟨g1, g2⟩
  · exact Or.inl ⟨g1, g2, g3, fun i i0 i1 => by rw [e4 i i0 i1]; exact g4 i i0 i1, g5⟩
  · refine Or.inr (Or.inl ⟨g1, g2, g3, fun i i0 i1 => by rw [e4 i i0 i1]; exact g4 i i0 i1, g5, g6, fun i i0 i1 => ?_⟩)
    rw [e4 i i0 (by omega), hk]
    exact g7 i i0 i1
  · refine Or.inr (Or.inr ⟨g1, fun i hi => ?_⟩)
    rw [e4 i (by omega) (by omega), hk]
    exact g2 i hi
/-- rows that are the same, as far as there are any, give the same bindings -/
theorem opA_eqW {t : Int → Int} {w : Int} {c c' : Int → Int} {v : mA} : ∀ {n : Nat}, (∀ x : Int, 0 ≤ x → x < n → c' x = c x) → opA t w c' v n = opA t w c v n
  | 0, _ => rfl
  | n + 1, h => by
    rw [opA_s, opA_s, opA_eqW (fun x x0 x1 => h x x0 (by omega))]
    congr 1
    unfold one
    rw [h n (by omega) (by omega)]
    by_cases q : ∃ e, 0 ≤ e ∧ e < (n : Int) ∧ alike t w (c e) (c n)
    · rw [if_pos q, if_pos]
      obtain ⟨e, e0, e1, e2⟩ := q
      exact ⟨e, e0, e1, by rw [h e e0 (by omega)]; exact e2⟩
    · rw [if_neg q, if_neg]
      rintro ⟨e, e0, e1, e2⟩
      exact q ⟨e, e0, e1, by rw [← h e e0 (by omega)]; exact e2⟩
theorem opt_eqW {ρ : mR} {ω ω' : mW} {k : Int} {v : mA} (e : eqW ω ω') (hs : ρ.1 k = 0 ∨ ρ.1 k = 1 → 0 ≤ ρ.2.1 k ∧ ρ.2.1 k < 6) : opt ρ ω' k v = opt ρ ω k v := by
  unfold opt
  by_cases q0 : ρ.1 k = 0
  · rw [if_pos q0, if_pos q0]
    obtain ⟨s0, s1⟩ := hs (Or.inl q0)
    obtain ⟨a1, a2⟩ := e _ s0 s1
    rw [a1]
    exact opA_eqW (fun x x0 x1 => a2 x x0 (by omega))
  rw [if_neg q0, if_neg q0]
  by_cases q1 : ρ.1 k = 1
  · rw [if_pos q1, if_pos q1]
    obtain ⟨s0, s1⟩ := hs (Or.inr q1)
    obtain ⟨a1, a2⟩ := e _ s0 s1
    have hf : fitE (ρ.2.2.2 k) (ρ.2.2.1 k) (ω'.2 (ρ.2.1 k)) (ω'.1 (ρ.2.1 k)) v ↔ fitE (ρ.2.2.2 k) (ρ.2.2.1 k) (ω.2 (ρ.2.1 k)) (ω.1 (ρ.2.1 k)) v := by
      unfold fitE
      rw [a1]
      constructor
      · rintro ⟨p, p0, p1, p2⟩
        exact ⟨p, p0, p1, by rw [← a2 p p0 p1]; exact p2⟩
      · rintro ⟨p, p0, p1, p2⟩
        exact ⟨p, p0, p1, by rw [a2 p p0 p1]; exact p2⟩
    by_cases q : fitE (ρ.2.2.2 k) (ρ.2.2.1 k) (ω.2 (ρ.2.1 k)) (ω.1 (ρ.2.1 k)) v
    · rw [if_pos q, if_pos (hf.mpr q)]
    · rw [if_neg q, if_neg (fun z => q (hf.mp z))]
  · rw [if_neg q1, if_neg q1]
theorem bnd_eqW {ρ : mR} {ω ω' : mW} {N : Int} (e : eqW ω ω') (hs : ∀ k, 0 ≤ k → k < N → ρ.1 k = 0 ∨ ρ.1 k = 1 → 0 ≤ ρ.2.1 k ∧ ρ.2.1 k < 6) : ∀ (n : Nat) (k : Int) (v : mA), 0 ≤ k → k + n ≤ N → bnd ρ ω' n k v = bnd ρ ω n k v
  | 0, _, _, _, _ => rfl
  | n + 1, k, v, k0, k1 => by
    show (opt ρ ω' k v).flatMap (fun w => bnd ρ ω' n (k + 1) w) = (opt ρ ω k v).flatMap (fun w => bnd ρ ω n (k + 1) w)
    rw [opt_eqW e (hs k k0 (by omega))]
    congr 1
    funext w
    exact bnd_eqW e hs n (k + 1) w (by omega) (by omega)
/-- the rule in place p of the reference is the class's at A -/
def SR (h : dm_H) (A : Nat) (p : Int) : Prop := (0 ≤ p ∧ p ≤ 10) ∧ gi h 172 (38 * p) = gi h A 1 ∧ gi h 172 (38 * p + 1) = gi h A 2 ∧ (∀ i, 0 ≤ i → i < 3 → gi h 172 (38 * p + (2 + i)) = gi h (A + 1) i) ∧ gi h 172 (38 * p + 5) = gi h A 4 ∧ simR (cR h A) (rRl h p) (gi h A 4) ∧ ∀ k, 0 ≤ k → k < gi h A 4 → lq h p k 0 = 0 ∨ lq h p k 0 = 1 ∨ lq h p k 0 = 2
theorem SR_RF {h : dm_H} {A : Nat} {p : Int} (s : SR h A p) : RF h p (gi h A 4) := ⟨s.1, s.2.2.2.2.2.2⟩
theorem dm_w_in {x : Int} (h0 : 0 ≤ x) (h1 : x < 2147483648) : dm_w x = x := by
  unfold dm_w
  rw [Int.bmod_def]
  omega
theorem s172 {d : Nat} (hd : 1 ≤ d) (h : dm_H) {a b c : Int} (ha : 0 ≤ a ∧ a ≤ 99) (hb : 0 ≤ b ∧ b ≤ 99) (hc : 0 ≤ c ∧ c ≤ 99) : dF d 172 [dI a, dI b, dI c] h = rI (10000 * a + 100 * b + c) h := by
  rw [f172 hd, b172_0, dm_w_in (x := 10000 * a) (by omega) (by omega), dm_w_in (x := 100 * b) (by omega) (by omega), dm_w_in (x := 10000 * a + 100 * b) (by omega) (by omega), dm_w_in (by omega) (by omega)]
/-- heads of the reference -/
theorem s206 {d : Nat} (hd : 2 ≤ d) {h : dm_H} {p n : Int} (hp : 0 ≤ p ∧ p ≤ 10) (hk : gi h 172 (38 * p) ≠ 3) (hr : 0 ≤ gi h 172 (38 * p + 1) ∧ gi h 172 (38 * p + 1) < 6) (hn : gi h 166 (gi h 172 (38 * p + 1)) = n) : dF d 206 [dR 1 11 165, dI p] h = rI n h := by
  rw [f206 (by omega), b206_0, s179 (by omega) p 0 h hp (by omega), bk_v, b206_6, Int.add_zero, if_neg hk, s179 (by omega) p 1 h hp (by omega), bk_v, b206_24, ix_p hr.1 hr.2, b206_25, hn]
theorem s205 {d : Nat} (hd : 3 ≤ d) {h : dm_H} {p n : Int} (hp : 0 ≤ p ∧ p ≤ 10) (hk : gi h 172 (38 * p) ≠ 3) (hr : 0 ≤ gi h 172 (38 * p + 1) ∧ gi h 172 (38 * p + 1) < 6) (hn : gi h 166 (gi h 172 (38 * p + 1)) = n) (n13 : 1 ≤ n ∧ n ≤ 3) (ht : gi h 172 (38 * p + (2 + (n - 1))) ≤ 107) : dF d 205 [dR 1 11 165, dI p] h = rI (tv (va h 185) (gi h 172 (38 * p + (2 + (n - 1))))) h := by
  rw [f205 (by omega), b205_0, s206 (by omega) hp hk hr hn, bk_v, b205_9, ck_p (by omega) (by omega), ck_p (by omega) (by omega), show 2 + n - 1 = 2 + (n - 1) by omega, s179 (by omega) p _ h hp (by omega), bk_v, b205_15, s199 (by omega) _ h ht, bk_v, b205_18]
theorem hcd_1 {t : Int → Int} {v : mA} : hcd t v 1 0 0 = 10000 * tv v (t 0) := by
  show (0 : Int) + dm_unit 0 * tv v (t 0) = _
  rw [dm_unit0]; omega
theorem hcd_2 {t : Int → Int} {v : mA} : hcd t v 2 0 0 = 10000 * tv v (t 0) + 100 * tv v (t 1) := by
  show (0 : Int) + dm_unit 0 * tv v (t 0) + dm_unit (0 + 1) * tv v (t (0 + 1)) = _
  rw [dm_unit0, show ((0 : Int) + 1) = 1 from rfl, dm_unit1]; omega
theorem hcd_3 {t : Int → Int} {v : mA} : hcd t v 3 0 0 = 10000 * tv v (t 0) + 100 * tv v (t 1) + tv v (t 2) := by
  show (0 : Int) + dm_unit 0 * tv v (t 0) + dm_unit (0 + 1) * tv v (t (0 + 1)) + dm_unit (0 + 1 + 1) * tv v (t (0 + 1 + 1)) = _
  rw [dm_unit0, show ((0 : Int) + 1) = 1 from rfl, dm_unit1, show ((1 : Int) + 1) = 2 from rfl, dm_unit2]; omega
theorem s207 {d : Nat} (hd : 3 ≤ d) {h : dm_H} {p n last : Int} (hp : 0 ≤ p ∧ p ≤ 10) (hk : gi h 172 (38 * p) ≠ 3) (hr : 0 ≤ gi h 172 (38 * p + 1) ∧ gi h 172 (38 * p + 1) < 6) (hn : gi h 166 (gi h 172 (38 * p + 1)) = n) (n13 : 1 ≤ n ∧ n ≤ 3) {t : Int → Int} (et : ∀ i, 0 ≤ i → i < 3 → gi h 172 (38 * p + (2 + i)) = t i) (ht : ∀ i, 0 ≤ i → i < n - 1 → t i ≤ 107 ∧ 0 ≤ tv (va h 185) (t i) ∧ tv (va h 185) (t i) ≤ 99) (hl : 0 ≤ last ∧ last ≤ 99) : dF d 207 [dR 1 11 165, dI p, dI last] h = rI (hcd t (va h 185) (n - 1).toNat 0 0 + last * dm_unit (n - 1)) h := by
  have t0 := et 0 (by omega) (by omega)
  have t1 := et 1 (by omega) (by omega)
  rw [Int.add_zero] at t0
  rw [show (2 : Int) + 1 = 3 from rfl] at t1
  rw [f207 (by omega), b207_0, s206 (by omega) hp hk hr hn, bk_v, b207_5]
  rcases (show n = 1 ∨ n = 2 ∨ n = 3 by omega) with rfl | rfl | rfl
  · rw [if_pos rfl, b207_25, if_pos (by omega), b207_55, if_pos (by omega), b207_71, s172 (by omega) h hl (by omega) (by omega), bk_v, b207_74]
    refine congrArg (fun x => rI x h) ?_
    show 10000 * last + 100 * 0 + 0 = 0 + last * dm_unit (1 - 1)
    rw [show (1 : Int) - 1 = 0 from rfl, dm_unit0]; omega
  · obtain ⟨h1, h2⟩ := ht 0 (by omega) (by omega)
    rw [if_neg (by omega), s179 (by omega) p 2 h hp (by omega), bk_v, b207_22, t0, s199 (by omega) _ h h1, bk_v, b207_25, if_neg (by omega), if_pos rfl, b207_55, if_pos (by omega), b207_71, s172 (by omega) h h2 hl (by omega), bk_v, b207_74]
    refine congrArg (fun x => rI x h) ?_
    show 10000 * tv (va h 185) (t 0) + 100 * last + 0 = hcd t (va h 185) 1 0 0 + last * dm_unit (2 - 1)
    rw [show (2 : Int) - 1 = 1 from rfl, dm_unit1, hcd_1]; omega
  · obtain ⟨h1, h2⟩ := ht 0 (by omega) (by omega)
    obtain ⟨h3, h4⟩ := ht 1 (by omega) (by omega)
    rw [if_neg (by omega), s179 (by omega) p 2 h hp (by omega), bk_v, b207_22, t0, s199 (by omega) _ h h1, bk_v, b207_25, if_neg (by omega), if_neg (by omega), s179 (by omega) p 3 h hp (by omega), bk_v, b207_52, t1, s199 (by omega) _ h h3, bk_v, b207_55, if_neg (by omega), b207_71, s172 (by omega) h h2 h4 hl, bk_v, b207_74]
    refine congrArg (fun x => rI x h) ?_
    show 10000 * tv (va h 185) (t 0) + 100 * tv (va h 185) (t 1) + last = hcd t (va h 185) 2 0 0 + last * dm_unit (3 - 1)
    rw [show (3 : Int) - 1 = 2 from rfl, dm_unit2, hcd_2]; omega
/-- all of a head is its key and its last term -/
theorem hcd_last {t : Int → Int} {v : mA} {n : Int} (n13 : 1 ≤ n ∧ n ≤ 3) : hcd t v n.toNat 0 0 = hcd t v (n - 1).toNat 0 0 + tv v (t (n - 1)) * dm_unit (n - 1) := by
  rcases (show n = 1 ∨ n = 2 ∨ n = 3 by omega) with rfl | rfl | rfl
  · show hcd t v 1 0 0 = 0 + tv v (t 0) * dm_unit 0
    rw [hcd_1, dm_unit0]; omega
  · show hcd t v 2 0 0 = hcd t v 1 0 0 + tv v (t 1) * dm_unit 1
    rw [hcd_2, hcd_1, dm_unit1]; omega
  · show hcd t v 3 0 0 = hcd t v 2 0 0 + tv v (t 2) * dm_unit 2
    rw [hcd_3, hcd_2, dm_unit2]; omega
