/-! IS A RULE SAFE: the reference -/
section RSF
variable {h : dm_H} {p : Int}
theorem s232 {d : Nat} (hd : 2 ≤ d) {K x : Int} {q : Int → Prop} (hK : bst K q) (hx : x ≤ 107) : ∃ b, dF d 232 [dI K, dI x] h = rI b h ∧ (b = 0 ∨ b = 1) ∧ (b = 1 ↔ slot x = -1 ∨ q (slot x)) := by
  rw [f232 (by omega), b232_0, s200 (by omega), bk_v, b232_4]
  by_cases z : 100 ≤ x
  · have es := slot_v ⟨z, hx⟩
    have g := bt_1 (k := 8) (s := K) (j := x - 100) (by omega) hK.1 (by omega)
    have g2 := hK.2 (x - 100) (by omega) (by omega)
    rw [bi_1 z, if_neg (by decide), ck_p (by omega) (by omega), es]
    by_cases y : dm_and (dm_shr K (x - 100)) 1 = 1
    · rw [if_pos y, b232_19, b232_24, z1_p (Or.inr rfl)]
      exact ⟨1, rfl, Or.inr rfl, fun _ => Or.inr (g2.mp (g.mp y)), fun _ => rfl⟩
    · rw [if_neg y, b232_24, z1_p (Or.inl rfl)]
      refine ⟨0, rfl, Or.inl rfl, fun q => by omega, fun w => ?_⟩
      rcases w with w | w
      · omega
      · exact absurd (g.mpr (g2.mpr w)) y
  · rw [bi_0 z, if_pos rfl, b232_19, b232_24, z1_p (Or.inr rfl)]
    exact ⟨1, rfl, Or.inr rfl, fun _ => Or.inl (slot_lt (by omega)), fun _ => rfl⟩
/-- how many columns a head has -/
def hcl (h : dm_H) (p : Int) : Int := if gi h 172 (38 * p) = 3 then 0 else gi h 166 (gi h 172 (38 * p + 1))
theorem s206g {d : Nat} (hd : 2 ≤ d) (hp : 0 ≤ p ∧ p ≤ 10) (hr : gi h 172 (38 * p) ≠ 3 → 0 ≤ gi h 172 (38 * p + 1) ∧ gi h 172 (38 * p + 1) < 6) : dF d 206 [dR 1 11 165, dI p] h = rI (hcl h p) h := by
  unfold hcl
  by_cases z : gi h 172 (38 * p) = 3
  · rw [f206 (by omega), b206_0, s179 (by omega) p 0 h hp (by omega), bk_v, b206_6, Int.add_zero, if_pos z, b206_25, if_pos z]
  · rw [s206 hd hp z (hr z) rfl, if_neg z]
theorem s231 {d : Nat} (hd : 4 ≤ d) {N : Int} (hp : 0 ≤ p ∧ p ≤ 10) (hN : 0 ≤ N ∧ N ≤ 4) (e5 : gi h 172 (38 * p + 5) = N) (hk : 0 ≤ gi h 172 (38 * p) ∧ gi h 172 (38 * p) ≤ 3) (hr : gi h 172 (38 * p) ≠ 3 → 0 ≤ gi h 172 (38 * p + 1) ∧ gi h 172 (38 * p + 1) < 6) (hc : 0 ≤ hcl h p ∧ hcl h p ≤ 3) (h13 : gi h 172 (38 * p) = 1 → 1 ≤ hcl h p) {cl : Int → Int} {n : Int} (hL : ∀ k, 0 ≤ k → k < N → LSH cl n (rRl h p) k) (F : RF h p N) (hX : ∀ k, 0 ≤ k → k < N → lq h p k 0 = 2 → lq h p k 5 = 0) (hh : ∀ i, 0 ≤ i → i < 3 → gi h 172 (38 * p + (2 + i)) ≤ 107) :
    ∃ b, dF d 231 [dR 1 11 165, dI p] h = rI b h ∧ (b = 0 ∨ b = 1) ∧ (b = 0 ↔ SAFE (rRl h p) N (gi h 172 (38 * p)) (hcl h p) (fun i => gi h 172 (38 * p + (2 + i)))) := by
  have h206 := s206g (d := d - 1) (by omega) hp hr
  -- what is known of a literal
  have hlit : ∀ k, 0 ≤ k → k < N → (∀ i, 0 ≤ i → i < 3 → lq h p k (3 + i) ≤ 107 ∧ (slot (lq h p k (3 + i)) ≠ -1 ↔ i < (rRl h p).2.2.1 k ∧ slot ((rRl h p).2.2.2 k i) ≠ -1) ∧ (i < (rRl h p).2.2.1 k → (rRl h p).2.2.2 k i = lq h p k (3 + i))) ∧ (lq h p k 0 = 2 ↔ (rRl h p).1 k = 3) ∧ ((lq h p k 0 = 0 ∧ lq h p k 2 = 0) ↔ (rRl h p).1 k = 0) ∧ (lq h p k 0 = 2 → (rRl h p).2.2.2 k 2 = lq h p k 1 ∧ 100 ≤ lq h p k 1 ∧ lq h p k 1 ≤ 107) := by
    intro k k0 k1
    have L := hL k k0 k1
    have s0 : slot 0 = -1 := by decide
    have esrt : (rRl h p).1 k = if lq h p k 0 = 0 then (if lq h p k 2 = 0 then 0 else 1) else if lq h p k 0 = 1 then 2 else 3 := rfl
    have etrm : ∀ i, (rRl h p).2.2.2 k i = if lq h p k 0 = 2 ∧ i = 2 then lq h p k 1 else lq h p k (3 + i) := fun i => rfl
    have F0 := F.2 k k0 k1
    have e1 : lq h p k 0 = 2 ↔ (rRl h p).1 k = 3 := by
      rw [esrt]
      rcases F0 with q | q | q
      · rw [if_pos q]; split <;> omega
      · rw [if_neg (by omega), if_pos q]; omega
      · rw [if_neg (by omega), if_neg (by omega)]; omega
    refine ⟨fun i i0 i1 => ?_, e1, ?_, fun q => ?_⟩
    · by_cases z : lq h p k 0 = 2 ∧ i = 2
      · have L3 := e1.mp z.1
        rcases L with ⟨q, _⟩ | ⟨q, _⟩ | ⟨_, _, l3, l4, l5⟩
        · omega
        · omega
        · have x0 := hX k k0 k1 z.1
          rw [z.2, show (3 : Int) + 2 = 5 from rfl, x0, s0, l3]
          exact ⟨by omega, ⟨fun w => absurd rfl w, fun w => absurd w.1 (by omega)⟩, fun w => by omega⟩
      · have et : (rRl h p).2.2.2 k i = lq h p k (3 + i) := by rw [etrm, if_neg z]
        rw [← et]
        rcases L with ⟨l1, l2, l3, l4, l5, l6⟩ | ⟨l1, l2, l3, l4, l5⟩ | ⟨l1, l2, l3, l4, l5⟩
        · refine ⟨(l5 i i0 i1).2, ⟨fun w => ⟨?_, w⟩, fun w => w.2⟩, fun _ => rfl⟩
          by_cases y : i < (rRl h p).2.2.1 k
          · exact y
          · rw [l6 i (by omega) i1, s0] at w
            exact absurd rfl w
        · by_cases y : i < 2
          · exact ⟨(l4 i i0 y).2, ⟨fun w => ⟨by omega, w⟩, fun w => w.2⟩, fun _ => rfl⟩
          · rw [show i = 2 by omega, l5, s0]
            exact ⟨by omega, ⟨fun w => absurd rfl w, fun w => absurd rfl w.2⟩, fun _ => rfl⟩
        · by_cases y : i < 2
          · exact ⟨(l4 i i0 y).2, ⟨fun w => ⟨by omega, w⟩, fun w => w.2⟩, fun _ => rfl⟩
          · exact absurd ⟨e1.mpr l1, by omega⟩ z
    · rw [esrt]
      rcases F0 with q | q | q
      · rw [if_pos q]; split <;> omega
      · rw [if_neg (by omega), if_pos q]; omega
      · rw [if_neg (by omega), if_neg (by omega)]; omega
    · have L3 := e1.mp q
      rcases L with ⟨w, _⟩ | ⟨w, _⟩ | ⟨_, _, l3, l4, l5⟩
      · omega
      · omega
      · have et : (rRl h p).2.2.2 k 2 = lq h p k 1 := by rw [etrm, if_pos ⟨q, rfl⟩]
        exact ⟨et, by rw [← et]; exact l5⟩
  -- one literal's terms
  have inner : ∀ (k K : Int), 0 ≤ k → k < N → bst K (kng (rRl h p) k) → ∀ (m : Nat) (i is M : Int) (B : Prop) (w7 : Option dm_V), 0 ≤ i → i + m = 3 → (is = 0 ∨ is = 1) → (is = 1 ↔ B ∨ ((rRl h p).1 k ≠ 0 ∧ ∃ j, 0 ≤ j ∧ j < i ∧ slot (lq h p k (3 + j)) ≠ -1 ∧ ¬ kng (rRl h p) k (slot (lq h p k (3 + j))))) → bst M (fun s => (rRl h p).1 k = 0 ∧ ∃ j, 0 ≤ j ∧ j < i ∧ slot (lq h p k (3 + j)) = s) →
      ∃ is' M' w7', dL (d - 1) 231 55 [lR 1 11 165, lI p, lI K, lI is, lI k, lI M, lI i, w7] [] h = dL (d - 1) 231 144 [lR 1 11 165, lI p, lI K, lI is', lI k, lI M', lI 3, w7'] [dI (lq h p k 0)] h ∧ (is' = 0 ∨ is' = 1) ∧ (is' = 1 ↔ B ∨ ((rRl h p).1 k ≠ 0 ∧ ∃ s, s ≠ -1 ∧ vrs (rRl h p) k s ∧ ¬ kng (rRl h p) k s)) ∧ bst M' (fun s => (rRl h p).1 k = 0 ∧ vrs (rRl h p) k s) := by
    intro k K k0 k1 hK m
    obtain ⟨t1, t2, t3, t4⟩ := hlit k k0 k1
    have hw := LSH_w (hL k k0 k1)
    induction m with
    | zero =>
      intro i is M B w7 i0 im i01 hB hM
      have ei : i = 3 := by omega
      rw [b231_55, if_neg (by omega), s181 (by omega) p k 0 h hp (by omega) (by omega), bk_v, ei]
      rw [ei] at hB hM
      refine ⟨is, M, w7, rfl, i01, ?_, bst_c hM (fun s s0 s1 => ?_)⟩
      · rw [hB]
        constructor
        · rintro (q | ⟨q1, j, j0, j1, j2, j3⟩)
          · exact Or.inl q
          · obtain ⟨y1, y2⟩ := ((t1 j j0 j1).2.1).mp j2
            exact Or.inr ⟨q1, _, y2, ⟨j, j0, y1, rfl⟩, by rw [(t1 j j0 j1).2.2 y1]; exact j3⟩
        · rintro (q | ⟨q1, s, s0, ⟨j, j0, j1, j2⟩, j3⟩)
          · exact Or.inl q
          · have e := (t1 j j0 (by omega)).2.2 j1
            rw [e] at j2
            exact Or.inr ⟨q1, j, j0, by omega, by rw [j2]; exact s0, by rw [j2]; exact j3⟩
      · constructor
        · rintro ⟨q, j, j0, j1, j2⟩
          have e := (t1 j j0 (by omega)).2.2 j1
          rw [e] at j2
          exact ⟨q, j, j0, by omega, j2⟩
        · rintro ⟨q, j, j0, j1, j2⟩
          obtain ⟨y1, y2⟩ := ((t1 j j0 j1).2.1).mp (by omega)
          exact ⟨q, j, j0, y1, by rw [(t1 j j0 j1).2.2 y1]; exact j2⟩
    | succ m ih =>
      intro i is M B w7 i0 im i01 hB hM
      obtain ⟨u1, u2, u3⟩ := t1 i i0 (by omega)
      have hnext : ∀ is' M' w7', dL (d - 1) 231 130 [lR 1 11 165, lI p, lI K, lI is', lI k, lI M', lI i, w7'] [] h = dL (d - 1) 231 55 [lR 1 11 165, lI p, lI K, lI is', lI k, lI M', lI (i + 1), w7'] [] h := fun is' M' w7' => by rw [b231_130, ck_p (by omega) (by omega)]
      rw [b231_55, if_pos (by omega), ck_p (by omega) (by omega), s181 (by omega) p k (3 + i) h hp (by omega) (by omega), bk_v, b231_72, s193 (by omega) p k h hp (by omega), bk_v, b231_81]
      by_cases c0 : (rRl h p).1 k = 0
      · rw [bi_1 (t3.mpr c0), if_neg (by decide), s200 (by omega), bk_v, b231_91]
        have hB' : is = 1 ↔ B ∨ ((rRl h p).1 k ≠ 0 ∧ ∃ j, 0 ≤ j ∧ j < i + 1 ∧ slot (lq h p k (3 + j)) ≠ -1 ∧ ¬ kng (rRl h p) k (slot (lq h p k (3 + j)))) := by
          rw [hB]
          exact ⟨fun q => q.imp id (fun w => absurd c0 w.1), fun q => q.imp id (fun w => absurd c0 w.1)⟩
        have hM2 : bst (dm_or M (bitO (lq h p k (3 + i)))) (fun s => (rRl h p).1 k = 0 ∧ ∃ j, 0 ≤ j ∧ j < i + 1 ∧ slot (lq h p k (3 + j)) = s) := by
          refine bst_or hM (bst_b _) (fun s s0 s1 => ?_)
          constructor
          · rintro ⟨q, j, j0, j1, j2⟩
            by_cases z : j = i
            · rw [z] at j2; exact Or.inr j2
            · exact Or.inl ⟨q, j, j0, by omega, j2⟩
          · rintro (⟨q, j, j0, j1, j2⟩ | z)
            · exact ⟨q, j, j0, by omega, j2⟩
            · exact ⟨c0, i, i0, by omega, z⟩
        by_cases z : 100 ≤ lq h p k (3 + i)
        · have es := slot_v ⟨z, u1⟩
          have eb : dm_shl 1 (lq h p k (3 + i) - 100) = bitO (lq h p k (3 + i)) := by unfold bitO; rw [if_neg (by omega), es]
          rw [bi_1 z, if_neg (by decide), ck_p (by omega) (by omega), b231_105, eb, hnext]
          exact ih (i + 1) is _ B _ (by omega) (by omega) i01 hB' hM2
        · have es : bitO (lq h p k (3 + i)) = 0 := by unfold bitO; rw [if_pos (slot_lt (by omega))]
          rw [es] at hM2
          rw [bi_0 z, if_pos rfl, b231_105, hnext]
          exact ih (i + 1) is _ B _ (by omega) (by omega) i01 hB' hM2
      · rw [bi_0 (fun z => c0 (t3.mp z)), if_pos rfl]
        have hM' : bst M (fun s => (rRl h p).1 k = 0 ∧ ∃ j, 0 ≤ j ∧ j < i + 1 ∧ slot (lq h p k (3 + j)) = s) := bst_c hM (fun s _ _ => ⟨fun q => absurd q.1 c0, fun q => absurd q.1 c0⟩)
        have step : ∀ P, ((B ∨ ((rRl h p).1 k ≠ 0 ∧ ∃ j, 0 ≤ j ∧ j < i ∧ slot (lq h p k (3 + j)) ≠ -1 ∧ ¬ kng (rRl h p) k (slot (lq h p k (3 + j))))) ∨ P) → (P → slot (lq h p k (3 + i)) ≠ -1 ∧ ¬ kng (rRl h p) k (slot (lq h p k (3 + i)))) → B ∨ ((rRl h p).1 k ≠ 0 ∧ ∃ j, 0 ≤ j ∧ j < i + 1 ∧ slot (lq h p k (3 + j)) ≠ -1 ∧ ¬ kng (rRl h p) k (slot (lq h p k (3 + j)))) := by
          rintro P ((q | ⟨q, j, j0, j1, j2⟩) | q) hP
          · exact Or.inl q
          · exact Or.inr ⟨q, j, j0, by omega, j2⟩
          · exact Or.inr ⟨c0, i, i0, by omega, hP q⟩
        have back : B ∨ ((rRl h p).1 k ≠ 0 ∧ ∃ j, 0 ≤ j ∧ j < i + 1 ∧ slot (lq h p k (3 + j)) ≠ -1 ∧ ¬ kng (rRl h p) k (slot (lq h p k (3 + j)))) → is = 1 ∨ (slot (lq h p k (3 + i)) ≠ -1 ∧ ¬ kng (rRl h p) k (slot (lq h p k (3 + i)))) := by
          rintro (q | ⟨q, j, j0, j1, j2⟩)
          · exact Or.inl (hB.mpr (Or.inl q))
          · by_cases z : j = i
            · rw [z] at j2; exact Or.inr j2
            · exact Or.inl (hB.mpr (Or.inr ⟨q, j, j0, by omega, j2⟩))
        rcases i01 with rfl | rfl
        · rw [if_pos rfl]
          obtain ⟨b, v1, v2, v3⟩ := s232 (d := d - 1) (h := h) (by omega) hK u1
          rw [v1, bk_v, b231_121]
          rcases v2 with rfl | rfl
          · rw [if_pos rfl, b231_124, b231_129, hnext]
            have nk : slot (lq h p k (3 + i)) ≠ -1 ∧ ¬ kng (rRl h p) k (slot (lq h p k (3 + i))) := ⟨fun z => by have := v3.mpr (Or.inl z); omega, fun z => by have := v3.mpr (Or.inr z); omega⟩
            exact ih (i + 1) 1 M B _ (by omega) (by omega) (Or.inr rfl) ⟨fun _ => step True (Or.inr trivial) (fun _ => nk), fun _ => rfl⟩ hM'
          · rw [if_neg (by decide), b231_129, hnext]
            refine ih (i + 1) 0 M B _ (by omega) (by omega) (Or.inl rfl) ⟨fun z => by omega, fun z => ?_⟩ hM'
            rcases back z with y | ⟨y1, y2⟩
            · omega
            · exact absurd (v3.mp rfl) (fun w => w.elim y1 y2)
        · rw [if_neg (by decide), b231_124, b231_129, hnext]
          exact ih (i + 1) 1 M B _ (by omega) (by omega) (Or.inr rfl) ⟨fun _ => step False (Or.inl (hB.mp rfl)) (fun q => q.elim), fun _ => rfl⟩ hM'
  -- all literals
  have hnotS : ∀ k, ¬ SAFL (rRl h p) k ↔ ((rRl h p).1 k ≠ 0 ∧ ∃ s, s ≠ -1 ∧ vrs (rRl h p) k s ∧ ¬ kng (rRl h p) k s) ∨ ((rRl h p).1 k = 3 ∧ kng (rRl h p) k (slot ((rRl h p).2.2.2 k 2))) := by
    intro k
    constructor
    · intro hn
      by_cases a : (rRl h p).1 k ≠ 0 ∧ ∃ s, s ≠ -1 ∧ vrs (rRl h p) k s ∧ ¬ kng (rRl h p) k s
      · exact Or.inl a
      · by_cases b : (rRl h p).1 k = 3 ∧ kng (rRl h p) k (slot ((rRl h p).2.2.2 k 2))
        · exact Or.inr b
        · refine absurd (fun q => ⟨fun s s0 s1 => ?_, fun w z => b ⟨w, z⟩⟩) hn
          by_cases c : kng (rRl h p) k s
          · exact c
          · exact absurd ⟨q, s, s0, s1, c⟩ a
    · rintro (⟨a, s, s0, s1, s2⟩ | ⟨a, b⟩) hS
      · exact s2 ((hS a).1 s s0 s1)
      · exact (hS (by omega)).2 a b
  have heads : ∀ (K : Int), bst K (kng (rRl h p) N) → ∀ (m : Nat) (i is : Int) (B : Prop) (w5 w6 w7 : Option dm_V), 0 ≤ i → i + m = hcl h p → (is = 0 ∨ is = 1) → (is = 1 ↔ B ∨ ∃ j, 0 ≤ j ∧ j < i ∧ slot (gi h 172 (38 * p + (2 + j))) ≠ -1 ∧ ¬ kng (rRl h p) N (slot (gi h 172 (38 * p + (2 + j))))) →
      ∃ b, dL (d - 1) 231 205 [lR 1 11 165, lI p, lI K, lI is, lI i, w5, w6, w7] [] h = rI b h ∧ (b = 0 ∨ b = 1) ∧ (b = 1 ↔ B ∨ ∃ j, 0 ≤ j ∧ j < hcl h p ∧ slot (gi h 172 (38 * p + (2 + j))) ≠ -1 ∧ ¬ kng (rRl h p) N (slot (gi h 172 (38 * p + (2 + j))))) := by
    intro K hK m
    induction m with
    | zero =>
      intro i is B w5 w6 w7 i0 im i01 hB
      rw [b231_205, h206, bk_v, b231_212, if_neg (by omega), z1_p i01]
      rw [show i = hcl h p by omega] at hB
      exact ⟨is, rfl, i01, hB⟩
    | succ m ih =>
      intro i is B w5 w6 w7 i0 im i01 hB
      have hnext : ∀ is', dL (d - 1) 231 240 [lR 1 11 165, lI p, lI K, lI is, lI i, w5, w6, w7] [dI is'] h = dL (d - 1) 231 205 [lR 1 11 165, lI p, lI K, lI is', lI (i + 1), w5, w6, w7] [] h := fun is' => by rw [b231_240, ck_p (by omega) (by omega)]
      have grow : ∀ P : Prop, (P ↔ is = 1 ∨ (slot (gi h 172 (38 * p + (2 + i))) ≠ -1 ∧ ¬ kng (rRl h p) N (slot (gi h 172 (38 * p + (2 + i)))))) → (P ↔ B ∨ ∃ j, 0 ≤ j ∧ j < i + 1 ∧ slot (gi h 172 (38 * p + (2 + j))) ≠ -1 ∧ ¬ kng (rRl h p) N (slot (gi h 172 (38 * p + (2 + j))))) := by
        intro P hP
        rw [hP, hB]
        constructor
        · rintro ((q | ⟨j, j0, j1, j2⟩) | q)
          · exact Or.inl q
          · exact Or.inr ⟨j, j0, by omega, j2⟩
          · exact Or.inr ⟨i, i0, by omega, q⟩
        · rintro (q | ⟨j, j0, j1, j2⟩)
          · exact Or.inl (Or.inl q)
          · by_cases z : j = i
            · rw [z] at j2; exact Or.inr j2
            · exact Or.inl (Or.inr ⟨j, j0, by omega, j2⟩)
      rw [b231_205, h206, bk_v, b231_212, if_pos (by omega)]
      rcases i01 with rfl | rfl
      · rw [if_pos rfl, ck_p (by omega) (by omega), s179 (by omega) p (2 + i) h hp (by omega), bk_v, b231_229]
        obtain ⟨b, v1, v2, v3⟩ := s232 (d := d - 1) (h := h) (by omega) hK (hh i i0 (by omega))
        rw [v1, bk_v, b231_232]
        rcases v2 with rfl | rfl
        · rw [if_pos rfl, b231_235, hnext]
          exact ih (i + 1) 1 B _ _ _ (by omega) (by omega) (Or.inr rfl) (grow _ ⟨fun _ => Or.inr ⟨fun z => by have := v3.mpr (Or.inl z); omega, fun z => by have := v3.mpr (Or.inr z); omega⟩, fun _ => rfl⟩)
        · rw [if_neg (by decide), hnext]
          exact ih (i + 1) 0 B _ _ _ (by omega) (by omega) (Or.inl rfl) (grow _ ⟨fun z => by omega, fun z => z.elim (fun y => by omega) (fun y => absurd (v3.mp rfl) (fun w => w.elim y.1 y.2))⟩)
      · rw [if_neg (by decide), b231_235, hnext]
        exact ih (i + 1) 1 B _ _ _ (by omega) (by omega) (Or.inr rfl) (grow _ ⟨fun _ => Or.inl rfl, fun _ => rfl⟩)
  have lits : ∀ (m : Nat) (k K is : Int) (C : Prop) (w5 w6 w7 : Option dm_V), 0 ≤ k → k + m = N → bst K (kng (rRl h p) k) → (is = 0 ∨ is = 1) → (is = 1 ↔ C ∨ ∃ j, 0 ≤ j ∧ j < k ∧ ¬ SAFL (rRl h p) j) →
      ∃ b, dL (d - 1) 231 38 [lR 1 11 165, lI p, lI K, lI is, lI k, w5, w6, w7] [] h = rI b h ∧ (b = 0 ∨ b = 1) ∧ (b = 1 ↔ (C ∨ ∃ j, 0 ≤ j ∧ j < N ∧ ¬ SAFL (rRl h p) j) ∨ ∃ j, 0 ≤ j ∧ j < hcl h p ∧ slot (gi h 172 (38 * p + (2 + j))) ≠ -1 ∧ ¬ kng (rRl h p) N (slot (gi h 172 (38 * p + (2 + j))))) := by
    intro m
    induction m with
    | zero =>
      intro k K is C w5 w6 w7 k0 km hK i01 hB
      have ek : k = N := by omega
      rw [ek] at hK hB
      rw [b231_38, s179 (by omega) p 5 h hp (by omega), bk_v, b231_46, e5, if_neg (by omega)]
      exact heads K hK (hcl h p).toNat 0 is _ _ _ _ (by omega) (by omega) i01 ⟨fun z => Or.inl (hB.mp z), fun z => z.elim hB.mpr (fun ⟨j, j0, j1, _⟩ => by omega)⟩
    | succ m ih =>
      intro k K is C w5 w6 w7 k0 km hK i01 hB
      obtain ⟨t1, t2, t3, t4⟩ := hlit k k0 (by omega)
      rw [b231_38, s179 (by omega) p 5 h hp (by omega), bk_v, b231_46, e5, if_pos (by omega)]
      obtain ⟨is', M, w7', q1, q2, q3, q4⟩ := inner k K k0 (by omega) hK 3 0 is 0 (is = 1) w7 (by omega) (by omega) i01 ⟨Or.inl, fun z => z.elim id (fun ⟨_, j, j0, j1, _⟩ => by omega)⟩ (bst_0 (fun s _ _ ⟨_, j, j0, j1, _⟩ => by omega))
      rw [q1, b231_144]
      have next : ∀ (is2 M2 : Int) (w6 w7 : Option dm_V), bst M2 (fun s => ((rRl h p).1 k = 0 ∧ vrs (rRl h p) k s) ∨ ((rRl h p).1 k = 3 ∧ slot ((rRl h p).2.2.2 k 2) = s)) → (is2 = 0 ∨ is2 = 1) → (is2 = 1 ↔ is = 1 ∨ ¬ SAFL (rRl h p) k) → ∃ b, dL (d - 1) 231 191 [lR 1 11 165, lI p, lI K, lI is2, lI k, lI M2, w6, w7] [] h = rI b h ∧ (b = 0 ∨ b = 1) ∧ (b = 1 ↔ (C ∨ ∃ j, 0 ≤ j ∧ j < N ∧ ¬ SAFL (rRl h p) j) ∨ ∃ j, 0 ≤ j ∧ j < hcl h p ∧ slot (gi h 172 (38 * p + (2 + j))) ≠ -1 ∧ ¬ kng (rRl h p) N (slot (gi h 172 (38 * p + (2 + j))))) := by
        intro is2 M2 w6 w7 hM2 j01 hj
        rw [b231_191, ck_p (by omega) (by omega)]
        refine ih (k + 1) _ is2 C _ _ _ (by omega) (by omega) (bst_or hK hM2 (fun s _ _ => kng_s k0)) j01 ?_
        rw [hj, hB]
        constructor
        · rintro ((z | ⟨j, j0, j1, j2⟩) | z)
          · exact Or.inl z
          · exact Or.inr ⟨j, j0, by omega, j2⟩
          · exact Or.inr ⟨k, k0, by omega, z⟩
        · rintro (z | ⟨j, j0, j1, j2⟩)
          · exact Or.inl (Or.inl z)
          · by_cases y : j = k
            · rw [y] at j2; exact Or.inr j2
            · exact Or.inl (Or.inr ⟨j, j0, by omega, j2⟩)
      by_cases c2 : lq h p k 0 = 2
      · have c3 := t2.mp c2
        obtain ⟨v1, v2, v3⟩ := t4 c2
        have es := slot_v ⟨v2, v3⟩
        have go : ∀ is2, (is2 = 0 ∨ is2 = 1) → (is2 = 1 ↔ is = 1 ∨ ¬ SAFL (rRl h p) k) → ∃ b, dL (d - 1) 231 172 [lR 1 11 165, lI p, lI K, lI is', lI k, lI M, lI 3, w7'] [dI is2] h = rI b h ∧ (b = 0 ∨ b = 1) ∧ (b = 1 ↔ (C ∨ ∃ j, 0 ≤ j ∧ j < N ∧ ¬ SAFL (rRl h p) j) ∨ ∃ j, 0 ≤ j ∧ j < hcl h p ∧ slot (gi h 172 (38 * p + (2 + j))) ≠ -1 ∧ ¬ kng (rRl h p) N (slot (gi h 172 (38 * p + (2 + j))))) := by
          intro is2 j01 hj
          have eb : dm_shl 1 (lq h p k 1 - 100) = bitO (lq h p k 1) := by unfold bitO; rw [if_neg (by omega), es]
          rw [b231_172, s181 (by omega) p k 1 h hp (by omega) (by omega), bk_v, b231_184, ck_p (by omega) (by omega), eb]
          exact next is2 _ _ _ (bst_or q4 (bst_b _) (fun s _ _ => by rw [v1]; exact ⟨fun z => z.imp id (fun w => w.2), fun z => z.imp id (fun w => ⟨c3, w⟩)⟩)) j01 hj
        rw [if_pos c2]
        rcases q2 with rfl | rfl
        · rw [if_pos rfl, s181 (by omega) p k 1 h hp (by omega) (by omega), bk_v, b231_161]
          obtain ⟨b, x1, x2, x3⟩ := s232 (d := d - 1) (h := h) (x := lq h p k 1) (by omega) hK v3
          rw [x1, bk_v, b231_164]
          have no : ¬ (is = 1 ∨ ((rRl h p).1 k ≠ 0 ∧ ∃ s, s ≠ -1 ∧ vrs (rRl h p) k s ∧ ¬ kng (rRl h p) k s)) := fun z => by have := q3.mpr z; omega
          rcases x2 with rfl | rfl
          · rw [if_pos rfl]
            refine go 0 (Or.inl rfl) ⟨fun z => by omega, fun z => ?_⟩
            rcases z with z | z
            · exact absurd (Or.inl z) no
            · rcases (hnotS k).mp z with y | ⟨_, y⟩
              · exact absurd (Or.inr y) no
              · rw [v1] at y
                have := x3.mpr (Or.inr y)
                omega
          · rw [if_neg (by decide), b231_167]
            refine go 1 (Or.inr rfl) ⟨fun _ => Or.inr ((hnotS k).mpr (Or.inr ⟨c3, ?_⟩)), fun _ => rfl⟩
            rw [v1]
            exact (x3.mp rfl).resolve_left (by omega)
        · rw [if_neg (by decide), b231_167]
          refine go 1 (Or.inr rfl) ⟨fun _ => ?_, fun _ => rfl⟩
          rcases q3.mp rfl with z | z
          · exact Or.inl z
          · exact Or.inr ((hnotS k).mpr (Or.inl z))
      · have c3 : (rRl h p).1 k ≠ 3 := fun z => c2 (t2.mpr z)
        rw [if_neg c2]
        refine next is' M _ _ (bst_c q4 (fun s _ _ => ⟨fun z => z.resolve_right (fun w => c3 w.1), Or.inl⟩)) q2 ?_
        rw [q3, hnotS]
        exact ⟨fun z => z.imp id Or.inl, fun z => z.imp id (fun w => w.resolve_right (fun y => c3 y.1))⟩
  have fin : ∀ is w3, (is = 0 ∨ is = 1) → (is = 1 ↔ gi h 172 (38 * p) = 1 ∧ gi h 172 (38 * p + (2 + (hcl h p - 1))) ≠ 0) → ∃ b, dL (d - 1) 231 34 [lR 1 11 165, lI p, lI 0, w3, none, none, none, none] [dI is] h = rI b h ∧ (b = 0 ∨ b = 1) ∧ (b = 0 ↔ SAFE (rRl h p) N (gi h 172 (38 * p)) (hcl h p) (fun i => gi h 172 (38 * p + (2 + i)))) := by
    intro is w3 i01 hi
    obtain ⟨b, y1, y2, y3⟩ := lits N.toNat 0 0 is (gi h 172 (38 * p) = 1 ∧ gi h 172 (38 * p + (2 + (hcl h p - 1))) ≠ 0) none none none (by omega) (by omega) (bst_0 (fun s _ _ ⟨j, j0, j1, _⟩ => by omega)) i01 ⟨fun z => Or.inl (hi.mp z), fun z => z.elim hi.mpr (fun ⟨j, j0, j1, _⟩ => by omega)⟩
    rw [b231_34]
    refine ⟨b, y1, y2, ?_⟩
    have e : SAFE (rRl h p) N (gi h 172 (38 * p)) (hcl h p) (fun i => gi h 172 (38 * p + (2 + i))) ↔ ¬ b = 1 := by
      rw [y3]
      constructor
      · rintro ⟨s1, s2, s3⟩ ((⟨z1, z2⟩ | ⟨j, j0, j1, j2⟩) | ⟨j, j0, j1, j2, j3⟩)
        · exact z2 (s1 z1)
        · exact j2 (s2 j j0 j1)
        · exact j3 (s3 j j0 j1 j2)
      · intro hn
        refine ⟨fun z => ?_, fun k k0 k1 => ?_, fun i i0 i1 i2 => ?_⟩
        · by_cases w : gi h 172 (38 * p + (2 + (hcl h p - 1))) = 0
          · exact w
          · exact absurd (Or.inl (Or.inl ⟨z, w⟩)) hn
        · by_cases w : SAFL (rRl h p) k
          · exact w
          · exact absurd (Or.inl (Or.inr ⟨k, k0, k1, w⟩)) hn
        · by_cases w : kng (rRl h p) N (slot (gi h 172 (38 * p + (2 + i))))
          · exact w
          · exact absurd (Or.inr ⟨i, i0, i1, i2, w⟩) hn
    rw [e]
    omega
  have e0 : gi h 172 (38 * p + 0) = gi h 172 (38 * p) := by rw [Int.add_zero]
  rw [f231 (by omega), b231_0, s179 (by omega) p 0 h hp (by omega), bk_v, b231_8, e0]
  by_cases c1 : gi h 172 (38 * p) = 1
  · have hc1 := h13 c1
    rw [if_pos c1, h206, bk_v, b231_20, ck_p (by omega) (by omega), ck_p (by omega) (by omega), show 2 + hcl h p - 1 = 2 + (hcl h p - 1) by omega, s179 (by omega) p _ h hp (by omega), bk_v, b231_26]
    by_cases c2 : gi h 172 (38 * p + (2 + (hcl h p - 1))) = 0
    · rw [if_pos c2, b231_33]
      exact fin 0 _ (Or.inl rfl) ⟨fun z => by omega, fun z => absurd c2 z.2⟩
    · rw [if_neg c2]
      exact fin 1 _ (Or.inr rfl) ⟨fun _ => ⟨c1, c2⟩, fun _ => rfl⟩
  · rw [if_neg c1, b231_33]
    exact fin 0 _ (Or.inl rfl) ⟨fun z => by omega, fun z => absurd z.1 c1⟩
end RSF
