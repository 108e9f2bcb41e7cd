/-! IS A RULE SAFE: the class -/
def bitO (x : Int) : Int := if slot x = -1 then 0 else dm_shl 1 (slot x)
theorem bitO_st (x : Int) : st 8 (bitO x) := by
  unfold bitO
  split
  · exact st_z 8
  · rename_i q
    have := slotne q
    exact st_shl (by omega) (by omega)
theorem bitO_bt (x : Int) {s : Int} (s0 : 0 ≤ s) : bt (bitO x) s = true ↔ slot x = s := by
  unfold bitO
  by_cases q : slot x = -1
  · rw [if_pos q, bt_z]
    constructor
    · intro z; cases z
    · intro z; omega
  · have := slotne q
    rw [if_neg q, bt_shl (by omega) s0]
    exact decide_eq_true_iff
/-- a set of eight that holds what p tells -/
def bst (w : Int) (p : Int → Prop) : Prop := st 8 w ∧ ∀ s, 0 ≤ s → s < 8 → (bt w s = true ↔ p s)
theorem bst_0 {p : Int → Prop} (h : ∀ s, 0 ≤ s → s < 8 → ¬ p s) : bst 0 p := ⟨st_z 8, fun s s0 s1 => by rw [bt_z]; exact ⟨fun z => Bool.noConfusion z, fun z => absurd z (h s s0 s1)⟩⟩
theorem bst_or {a b : Int} {p q r : Int → Prop} (ha : bst a p) (hb : bst b q) (h : ∀ s, 0 ≤ s → s < 8 → (r s ↔ p s ∨ q s)) : bst (dm_or a b) r := by
  refine ⟨st_or (by omega) ha.1 hb.1, fun s s0 s1 => ?_⟩
  rw [bt_or (by omega) ha.1 hb.1, Bool.or_eq_true, ha.2 s s0 s1, hb.2 s s0 s1, h s s0 s1]
theorem bst_b (x : Int) : bst (bitO x) (fun s => slot x = s) := ⟨bitO_st x, fun s s0 _ => bitO_bt x s0⟩
theorem bst_c {a : Int} {p q : Int → Prop} (ha : bst a p) (h : ∀ s, 0 ≤ s → s < 8 → (q s ↔ p s)) : bst a q := ⟨ha.1, fun s s0 s1 => (ha.2 s s0 s1).trans (h s s0 s1).symm⟩
theorem bst_sub {a b : Int} {p q : Int → Prop} (ha : bst a p) (hb : bst b q) : dm_and a (dm_xor b (-1)) = 0 ↔ ∀ s, 0 ≤ s → s < 8 → p s → q s := by
  rw [bt_andnot (by omega) ha.1 hb.1]
  constructor
  · intro h s s0 s1 z
    exact (hb.2 s s0 s1).mp (h s s0 s1 ((ha.2 s s0 s1).mpr z))
  · intro h s s0 s1 z
    exact (hb.2 s s0 s1).mpr (h s s0 s1 ((ha.2 s s0 s1).mp z))
theorem bst_dis {a b : Int} {p q : Int → Prop} (ha : bst a p) (hb : bst b q) : dm_and a b = 0 ↔ ∀ s, 0 ≤ s → s < 8 → p s → ¬ q s := by
  rw [st_and1 (by omega) ha.1 hb.1]
  constructor
  · intro h s s0 s1 z w
    have := h s s0 s1 ((ha.2 s s0 s1).mpr z)
    rw [(hb.2 s s0 s1).mpr w] at this
    cases this
  · intro h s s0 s1 z
    cases hq : bt b s with
    | false => rfl
    | true => exact absurd ((hb.2 s s0 s1).mp hq) (h s s0 s1 ((ha.2 s s0 s1).mp z))
theorem bst_z {a : Int} {p : Int → Prop} (ha : bst a p) : a = 0 ↔ ∀ s, 0 ≤ s → s < 8 → ¬ p s := by
  constructor
  · intro z s s0 s1 w
    have := (ha.2 s s0 s1).mpr w
    rw [z, bt_z] at this
    cases this
  · intro h
    refine bt_ext (k := 8) (by omega) ha.1 (st_z 8) (fun j j0 j1 => ?_)
    rw [bt_z]
    cases hq : bt a j with
    | false => rfl
    | true => exact absurd ((ha.2 j j0 j1).mp hq) (h j j0 j1)
/-- variables of literal k -/
def vrs (ρ : mR) (k s : Int) : Prop := ∃ i, 0 ≤ i ∧ i < ρ.2.2.1 k ∧ slot (ρ.2.2.2 k i) = s
/-- the literal k is as the draft takes it -/
def LSH (cl : Int → Int) (n : Int) (ρ : mR) (k : Int) : Prop :=
  ((ρ.1 k = 0 ∨ ρ.1 k = 1) ∧ (0 ≤ ρ.2.1 k ∧ ρ.2.1 k < n) ∧ ρ.2.2.1 k = cl (ρ.2.1 k) ∧ (1 ≤ ρ.2.2.1 k ∧ ρ.2.2.1 k ≤ 3) ∧ (∀ i, 0 ≤ i → i < 3 → -1 ≤ ρ.2.2.2 k i ∧ ρ.2.2.2 k i ≤ 107) ∧ ∀ i, ρ.2.2.1 k ≤ i → i < 3 → ρ.2.2.2 k i = 0) ∨
  (ρ.1 k = 2 ∧ (0 ≤ ρ.2.1 k ∧ ρ.2.1 k ≤ 3) ∧ ρ.2.2.1 k = 2 ∧ (∀ i, 0 ≤ i → i < 2 → 0 ≤ ρ.2.2.2 k i ∧ ρ.2.2.2 k i ≤ 107) ∧ ρ.2.2.2 k 2 = 0) ∨
  (ρ.1 k = 3 ∧ (0 ≤ ρ.2.1 k ∧ ρ.2.1 k ≤ 5) ∧ ρ.2.2.1 k = 2 ∧ (∀ i, 0 ≤ i → i < 2 → 0 ≤ ρ.2.2.2 k i ∧ ρ.2.2.2 k i ≤ 107) ∧ 100 ≤ ρ.2.2.2 k 2 ∧ ρ.2.2.2 k 2 ≤ 107)
theorem LSH_w {cl : Int → Int} {n : Int} {ρ : mR} {k : Int} (L : LSH cl n ρ k) : 1 ≤ ρ.2.2.1 k ∧ ρ.2.2.1 k ≤ 3 := by
  rcases L with ⟨_, _, _, l, _⟩ | ⟨_, _, l, _⟩ | ⟨_, _, l, _⟩
  · exact l
  · omega
  · omega
/-- a rule whose literals are safe, one after the other -/
def SAFL (ρ : mR) (k : Int) : Prop := ρ.1 k ≠ 0 → (∀ s, s ≠ -1 → vrs ρ k s → kng ρ k s) ∧ (ρ.1 k = 3 → ¬ kng ρ k (slot (ρ.2.2.2 k 2)))
def SAFE (ρ : mR) (N kind cols : Int) (hd : Int → Int) : Prop := (kind = 1 → hd (cols - 1) = 0) ∧ (∀ k, 0 ≤ k → k < N → SAFL ρ k) ∧ ∀ i, 0 ≤ i → i < cols → slot (hd i) ≠ -1 → kng ρ N (slot (hd i))
theorem kng_le {ρ : mR} {k k' s : Int} (h : k ≤ k') (z : kng ρ k s) : kng ρ k' s := by
  obtain ⟨j, j0, j1, j2⟩ := z
  exact ⟨j, j0, by omega, j2⟩
theorem kng_s {ρ : mR} {k s : Int} (k0 : 0 ≤ k) : kng ρ (k + 1) s ↔ kng ρ k s ∨ (ρ.1 k = 0 ∧ vrs ρ k s) ∨ (ρ.1 k = 3 ∧ slot (ρ.2.2.2 k 2) = s) := by
  constructor
  · intro z
    exact kng_succ z
  · rintro (z | z | z)
    · exact kng_le (by omega) z
    · exact ⟨k, k0, by omega, Or.inl z⟩
    · exact ⟨k, k0, by omega, Or.inr z⟩
section SF
variable {h : dm_H} {A : Nat}
theorem s106 {d : Nat} (hd : 3 ≤ d) (k : Int) (hk : 0 ≤ k ∧ k < 4) (hw : 0 ≤ gi h (A + 4) k ∧ gi h (A + 4) k ≤ 3) : ∃ w, dF d 106 [dR 1 8 A, dI k] h = rI w h ∧ bst w (vrs (cR h A) k) := by
  have loop : ∀ (m : Nat) (i w : Int), 0 ≤ i → i + m = gi h (A + 4) k → bst w (fun s => ∃ j, 0 ≤ j ∧ j < i ∧ slot (tm h A k j) = s) → ∃ w', dL (d - 1) 106 4 [lR 1 8 A, lI k, lI w, lI i] [] h = rI w' h ∧ bst w' (vrs (cR h A) k) := by
    intro m
    induction m with
    | zero =>
      intro i w i0 im B
      rw [b106_4, ix_p hk.1 (by omega), if_neg (by omega)]
      refine ⟨w, rfl, bst_c B (fun s _ _ => ?_)⟩
      rw [show i = gi h (A + 4) k by omega]
      exact Iff.rfl
    | succ m ih =>
      intro i w i0 im B
      rw [b106_4, ix_p hk.1 (by omega), if_pos (by omega), ck_p (by omega) (by omega), ck_p (by omega) (by omega), ix_p (by omega) (by omega), s105 (by omega), bk_v, b106_28, ck_p (by omega) (by omega)]
      refine ih (i + 1) _ (by omega) (by omega) (bst_or B (bst_b (gi h (A + 5) (k * 3 + i))) (fun s _ _ => ?_))
      constructor
      · rintro ⟨j, j0, j1, j2⟩
        by_cases z : j = i
        · rw [z] at j2; exact Or.inr j2
        · exact Or.inl ⟨j, j0, by omega, j2⟩
      · rintro (⟨j, j0, j1, j2⟩ | z)
        · exact ⟨j, j0, by omega, j2⟩
        · exact ⟨i, i0, by omega, z⟩
  rw [f106 (by omega), b106_0]
  exact loop (gi h (A + 4) k).toNat 0 0 (by omega) (by omega) (bst_0 (fun s _ _ ⟨j, j0, j1, _⟩ => by omega))
theorem si7 {h : dm_H} {A b : Nat} {i x : Int} (e : ¬ (b = A ∧ i = 7)) : gi (si h A 7 x) b i = gi h b i := by rw [gi_si, if_neg e]
theorem s104 {d : Nat} (hd : 4 ≤ d) (hr : ru A) {cl : Int → Int} {n : Int} (hN : 0 ≤ gi h A 4 ∧ gi h A 4 ≤ 4) (hc : 0 ≤ gi h A 3 ∧ gi h A 3 ≤ 3) (h13 : gi h A 1 = 1 → 1 ≤ gi h A 3) (hL : ∀ k, 0 ≤ k → k < gi h A 4 → LSH cl n (cR h A) k) (hh : ∀ i, gi h A 3 ≤ i → i < 3 → gi h (A + 1) i = 0) :
    ∃ b x, dF d 104 [dR 1 8 A] h = rI b (si h A 7 x) ∧ ((b = 1 ∧ SAFE (cR h A) (gi h A 4) (gi h A 1) (gi h A 3) (gi h (A + 1)) ∧ (0 ≤ x ∧ x ≤ gi h A 4) ∧ ∀ i, 0 ≤ i → i < gi h A 3 → slot (gi h (A + 1) i) ≠ -1 → kng (cR h A) x (slot (gi h (A + 1) i))) ∨ (b = 0 ∧ ¬ SAFE (cR h A) (gi h A 4) (gi h A 1) (gi h A 3) (gi h (A + 1)))) := by
  rw [f104 (by omega), b104_0, ix_p (by omega) (by omega), s105 (by omega), bk_v, b104_9, ix_p (by omega) (by omega), s105 (by omega), bk_v, b104_18, ix_p (by omega) (by omega), s105 (by omega), bk_v, b104_28]
  have hW : bst (dm_or (dm_or (bitO (gi h (A + 1) 0)) (bitO (gi h (A + 1) 1))) (bitO (gi h (A + 1) 2))) (fun s => ∃ i, 0 ≤ i ∧ i < gi h A 3 ∧ slot (gi h (A + 1) i) = s) := by
    refine bst_or (bst_or (bst_b _) (bst_b _) (fun s _ _ => Iff.rfl)) (bst_b _) (fun s s0 s1 => ?_)
    constructor
    · rintro ⟨i, i0, i1, i2⟩
      rcases (show i = 0 ∨ i = 1 ∨ i = 2 by omega) with rfl | rfl | rfl
      · exact Or.inl (Or.inl i2)
      · exact Or.inl (Or.inr i2)
      · exact Or.inr i2
    · have key : ∀ i, 0 ≤ i → i < 3 → slot (gi h (A + 1) i) = s → ∃ i, 0 ≤ i ∧ i < gi h A 3 ∧ slot (gi h (A + 1) i) = s := by
        intro i i0 i1 e
        by_cases z : i < gi h A 3
        · exact ⟨i, i0, z, e⟩
        · rw [hh i (by omega) i1] at e
          have : slot 0 = -1 := by decide
          omega
      rintro ((z | z) | z)
      · exact key 0 (by omega) (by omega) z
      · exact key 1 (by omega) (by omega) z
      · exact key 2 (by omega) (by omega) z
  have eW : ∀ x, (if slot x = -1 then 0 else dm_shl 1 (slot x)) = bitO x := fun _ => rfl
  rw [eW, eW, eW]
  generalize dm_or (dm_or (bitO (gi h (A + 1) 0)) (bitO (gi h (A + 1) 1))) (bitO (gi h (A + 1) 2)) = W at hW ⊢
  have hru := ru_g hr
  have eR : ∀ x, cR (si h A 7 x) A = cR h A := by
    intro x
    unfold cR tm
    have e : ∀ q, 0 < q → ∀ i, gi (si h A 7 x) (A + q) i = gi h (A + q) i := fun q hq i => gi_sin (by omega)
    have e2 := fun i => e 2 (by omega) i
    have e3 := fun i => e 3 (by omega) i
    have e4 := fun i => e 4 (by omega) i
    have e5 := fun i => e 5 (by omega) i
    rw [show gi (si h A 7 x) (A + 2) = gi h (A + 2) from funext e2, show gi (si h A 7 x) (A + 3) = gi h (A + 3) from funext e3, show gi (si h A 7 x) (A + 4) = gi h (A + 4) from funext e4]
    congr 3
    funext k i
    exact e5 _
  have eS : ∀ x y, si (si h A 7 x) A 7 y = si h A 7 y := by
    intro x y
    refine mH_ext (fun b j => ?_) rfl
    rw [gi_si, gi_si, gi_si]
    by_cases z : b = A ∧ j = 7
    · rw [if_pos z, if_pos z]
    · rw [if_neg z, if_neg z, if_neg z]
  have fin : ∀ (K x : Int) (w3 w4 w5 : Option dm_V), bst K (kng (cR h A) (gi h A 4)) → (∀ j, 0 ≤ j → j < gi h A 4 → SAFL (cR h A) j) → (0 ≤ x ∧ x ≤ gi h A 4) → (x < gi h A 4 → ∀ s, 0 ≤ s → s < 8 → (∃ i, 0 ≤ i ∧ i < gi h A 3 ∧ slot (gi h (A + 1) i) = s) → kng (cR h A) x s) → ∀ b, (b = 0 ∨ b = 1) → (b = 1 ↔ (gi h A 1 = 1 → gi h (A + 1) (gi h A 3 - 1) = 0)) →
      ∃ b' x', dL (d - 1) 104 196 [lR 1 8 A, lI W, lI K, w3, w4, w5] [dI b] (si h A 7 x) = rI b' (si h A 7 x') ∧ ((b' = 1 ∧ SAFE (cR h A) (gi h A 4) (gi h A 1) (gi h A 3) (gi h (A + 1)) ∧ (0 ≤ x' ∧ x' ≤ gi h A 4) ∧ ∀ i, 0 ≤ i → i < gi h A 3 → slot (gi h (A + 1) i) ≠ -1 → kng (cR h A) x' (slot (gi h (A + 1) i))) ∨ (b' = 0 ∧ ¬ SAFE (cR h A) (gi h A 4) (gi h A 1) (gi h A 3) (gi h (A + 1)))) := by
    intro K x w3 w4 w5 hK hS hx hX b b01 hb
    have hsub : dm_and W (dm_xor K (-1)) = 0 ↔ ∀ i, 0 ≤ i → i < gi h A 3 → slot (gi h (A + 1) i) ≠ -1 → kng (cR h A) (gi h A 4) (slot (gi h (A + 1) i)) := by
      rw [bst_sub hW hK]
      constructor
      · intro q i i0 i1 i2
        have sr := slotne i2
        exact q _ sr.1 sr.2 ⟨i, i0, i1, rfl⟩
      · rintro q s s0 s1 ⟨i, i0, i1, rfl⟩
        exact q i i0 i1 (by omega)
    by_cases z : dm_and W (dm_xor K (-1)) = 0
    · rcases b01 with b0 | b0
      · refine ⟨0, x, ?_, Or.inr ⟨rfl, fun q => ?_⟩⟩
        · rw [b104_196, if_pos z, if_pos b0, b104_213, b104_214, z1_p (Or.inl rfl)]
        · have := hb.mpr q.1
          omega
      · refine ⟨1, x, ?_, Or.inl ⟨rfl, ⟨hb.mp b0, hS, hsub.mp z⟩, hx, fun i i0 i1 i2 => ?_⟩⟩
        · rw [b104_196, if_pos z, if_neg (by omega), b104_214, z1_p (Or.inr rfl)]
        · by_cases y : x < gi h A 4
          · have sr := slotne i2
            exact hX y _ sr.1 sr.2 ⟨i, i0, i1, rfl⟩
          · rw [show x = gi h A 4 by omega]
            exact hsub.mp z i i0 i1 i2
    · refine ⟨0, x, ?_, Or.inr ⟨rfl, fun q => z (hsub.mpr q.2.2)⟩⟩
      rw [b104_196, if_neg z, b104_213, b104_214, z1_p (Or.inl rfl)]
  have loop : ∀ (m : Nat) (k K x : Int) (w4 w5 : Option dm_V), 0 ≤ k → k + m = gi h A 4 → bst K (kng (cR h A) k) → (∀ j, 0 ≤ j → j < k → SAFL (cR h A) j) → (0 ≤ x ∧ x ≤ gi h A 4) → (x < gi h A 4 → ∀ s, 0 ≤ s → s < 8 → (∃ i, 0 ≤ i ∧ i < gi h A 3 ∧ slot (gi h (A + 1) i) = s) → kng (cR h A) x s) →
      ∃ b x', dL (d - 1) 104 50 [lR 1 8 A, lI W, lI K, lI k, w4, w5] [] (si h A 7 x) = rI b (si h A 7 x') ∧ ((b = 1 ∧ SAFE (cR h A) (gi h A 4) (gi h A 1) (gi h A 3) (gi h (A + 1)) ∧ (0 ≤ x' ∧ x' ≤ gi h A 4) ∧ ∀ i, 0 ≤ i → i < gi h A 3 → slot (gi h (A + 1) i) ≠ -1 → kng (cR h A) x' (slot (gi h (A + 1) i))) ∨ (b = 0 ∧ ¬ SAFE (cR h A) (gi h A 4) (gi h A 1) (gi h A 3) (gi h (A + 1)))) := by
    intro m
    induction m with
    | zero =>
      intro k K x w4 w5 k0 km hK hS hx hX
      have ek : k = gi h A 4 := by omega
      rw [ek] at hK hS
      rw [b104_50, si7 (by omega), si7 (by omega), if_neg (by omega)]
      by_cases c1 : gi h A 1 = 1
      · have h3 := h13 c1
        rw [if_pos c1, si7 (by omega), if_pos (by omega), ck_p (by omega) (by omega), ix_p (by omega) (by omega), gi_sin (by omega)]
        by_cases c2 : gi h (A + 1) (gi h A 3 - 1) = 0
        · rw [if_pos c2, b104_191]
          exact fin K x _ _ _ hK hS hx hX 1 (Or.inr rfl) ⟨fun _ _ => c2, fun _ => rfl⟩
        · rw [if_neg c2, b104_195]
          exact fin K x _ _ _ hK hS hx hX 0 (Or.inl rfl) ⟨fun q => by omega, fun q => absurd (q c1) c2⟩
      · rw [if_neg c1, b104_191]
        exact fin K x _ _ _ hK hS hx hX 1 (Or.inr rfl) ⟨fun _ q => absurd q c1, fun _ => rfl⟩
    | succ m ih =>
      intro k K x w4 w5 k0 km hK hS hx hX
      have hk : 0 ≤ k ∧ k < 4 := by omega
      have Lk := hL k k0 (by omega)
      have hw := LSH_w Lk
      obtain ⟨w, t1, t2⟩ := s106 (d := d - 1) (h := si h A 7 x) (A := A) (by omega) k hk (by rw [gi_sin (by omega)]; exact ⟨by have : 1 ≤ gi h (A + 4) k := hw.1; omega, hw.2⟩)
      rw [eR] at t2
      rw [b104_50, si7 (by omega), if_pos (by omega), t1, bk_v, b104_63, ix_p k0 hk.2, gi_sin (by omega)]
      -- what the literal makes
      have hmade : ∃ M, bst M (fun s => gi h (A + 2) k = 3 ∧ slot (tm h A k 2) = s) ∧ (if gi h (A + 2) k = 3 then dm_ck (k * 3) (fun z1 => dm_ck (z1 + 2) (fun z2 => dm_ix z2 12 (dm_back (dL (d - 1) 104) dm_t104 85 [lR 1 8 A, lI W, lI K, lI k, lI w, w5] [] (dF (d - 1) 105 [dI (gi (si h A 7 x) (A + 5) z2)] (si h A 7 x))))) else dL (d - 1) 104 92 [lR 1 8 A, lI W, lI K, lI k, lI w, w5] [dI 0] (si h A 7 x)) = dL (d - 1) 104 92 [lR 1 8 A, lI W, lI K, lI k, lI w, w5] [dI M] (si h A 7 x) := by
        by_cases c : gi h (A + 2) k = 3
        · refine ⟨bitO (tm h A k 2), bst_c (bst_b _) (fun s _ _ => ⟨fun z => z.2, fun z => ⟨c, z⟩⟩), ?_⟩
          rw [if_pos c, ck_p (by omega) (by omega), ck_p (by omega) (by omega), ix_p (by omega) (by omega), s105 (by omega), bk_v, b104_88, gi_sin (by omega)]
          rfl
        · exact ⟨0, bst_0 (fun s _ _ z => c z.1), by rw [if_neg c]⟩
      obtain ⟨M, hM, eM⟩ := hmade
      rw [eM, b104_92, ix_p k0 hk.2, gi_sin (by omega)]
      -- behind a good literal
      have good : ∀ K1, SAFL (cR h A) k → bst K1 (fun s => kng (cR h A) k s ∨ (gi h (A + 2) k = 0 ∧ vrs (cR h A) k s)) → ∀ w4, ∃ b x', dL (d - 1) 104 129 [lR 1 8 A, lI W, lI K1, lI k, w4, lI M] [] (si h A 7 x) = rI b (si h A 7 x') ∧ ((b = 1 ∧ SAFE (cR h A) (gi h A 4) (gi h A 1) (gi h A 3) (gi h (A + 1)) ∧ (0 ≤ x' ∧ x' ≤ gi h A 4) ∧ ∀ i, 0 ≤ i → i < gi h A 3 → slot (gi h (A + 1) i) ≠ -1 → kng (cR h A) x' (slot (gi h (A + 1) i))) ∨ (b = 0 ∧ ¬ SAFE (cR h A) (gi h A 4) (gi h A 1) (gi h A 3) (gi h (A + 1)))) := by
        intro K1 hsk hK1 w4
        have hK2 : bst (dm_or K1 M) (kng (cR h A) (k + 1)) := bst_or hK1 hM (fun s _ _ => by rw [kng_s k0, or_assoc]; exact Iff.rfl)
        have hS2 : ∀ j, 0 ≤ j → j < k + 1 → SAFL (cR h A) j := fun j j0 j1 => by
          by_cases z : j = k
          · rw [z]; exact hsk
          · exact hS j j0 (by omega)
        rw [b104_129]
        by_cases c : dm_and W (dm_xor (dm_or K1 M) (-1)) = 0
        · rw [if_pos c, ck_p (by omega) (by omega), b104_156, ck_p (by omega) (by omega), eS]
          have g7 : gi (si h A 7 x) A 7 = x := gi_sis
          rw [g7]
          refine ih (k + 1) _ _ _ _ (by omega) (by omega) hK2 hS2 (by split <;> omega) (fun hx2 s s0 s1 hs => ?_)
          by_cases y : k + 1 < x
          · rw [if_pos y]
            exact (bst_sub hW hK2).mp c s s0 s1 hs
          · rw [if_neg y] at hx2 ⊢
            exact hX hx2 s s0 s1 hs
        · rw [if_neg c, b104_156, ck_p (by omega) (by omega)]
          exact ih (k + 1) _ _ _ _ (by omega) (by omega) hK2 hS2 hx hX
      have bad : ¬ SAFL (cR h A) k → ∀ w4, ∃ b x', dL (d - 1) 104 127 [lR 1 8 A, lI W, lI K, lI k, w4, lI M] [] (si h A 7 x) = rI b (si h A 7 x') ∧ ((b = 1 ∧ SAFE (cR h A) (gi h A 4) (gi h A 1) (gi h A 3) (gi h (A + 1)) ∧ (0 ≤ x' ∧ x' ≤ gi h A 4) ∧ ∀ i, 0 ≤ i → i < gi h A 3 → slot (gi h (A + 1) i) ≠ -1 → kng (cR h A) x' (slot (gi h (A + 1) i))) ∨ (b = 0 ∧ ¬ SAFE (cR h A) (gi h A 4) (gi h A 1) (gi h A 3) (gi h (A + 1)))) := by
        intro hn w4
        rw [b104_127]
        exact ⟨0, x, rfl, Or.inr ⟨rfl, fun q => hn (q.2.1 k k0 (by omega))⟩⟩
      by_cases c0 : gi h (A + 2) k = 0
      · rw [if_pos c0]
        exact good _ (fun q => absurd c0 q) (bst_or hK t2 (fun s _ _ => ⟨fun z => z.imp id (fun w => w.2), fun z => z.imp id (fun w => ⟨c0, w⟩)⟩)) _
      · rw [if_neg c0]
        have hK1 : bst K (fun s => kng (cR h A) k s ∨ (gi h (A + 2) k = 0 ∧ vrs (cR h A) k s)) := bst_c hK (fun s _ _ => ⟨fun z => z.resolve_right (fun w => c0 w.1), Or.inl⟩)
        by_cases c1 : dm_and w (dm_xor K (-1)) = 0
        · rw [if_pos c1]
          have u1 := (bst_sub t2 hK).mp c1
          by_cases c2 : dm_and M K = 0
          · rw [if_pos c2]
            have u2 := (bst_dis hM hK).mp c2
            refine good _ (fun _ => ⟨fun s sn sv => ?_, fun c3 hz => ?_⟩) hK1 _
            · have sr : 0 ≤ s ∧ s < 8 := by
                obtain ⟨i, _, _, e⟩ := sv
                rw [← e] at sn ⊢
                exact slotne sn
              exact u1 s sr.1 sr.2 sv
            · have Lk' := Lk
              have c3 : gi h (A + 2) k = 3 := c3
              have sr : 0 ≤ slot (tm h A k 2) ∧ slot (tm h A k 2) < 8 := by
                rcases Lk' with ⟨q, _⟩ | ⟨q, _⟩ | ⟨_, _, _, _, q1, q2⟩
                · have q : gi h (A + 2) k = 0 ∨ gi h (A + 2) k = 1 := q
                  omega
                · have q : gi h (A + 2) k = 2 := q
                  omega
                · have e := slot_v ⟨q1, q2⟩
                  have e : slot (tm h A k 2) = tm h A k 2 - 100 := e
                  have q1 : 100 ≤ tm h A k 2 := q1
                  have q2 : tm h A k 2 ≤ 107 := q2
                  omega
              exact u2 _ sr.1 sr.2 ⟨c3, rfl⟩ hz
          · rw [if_neg c2]
            refine bad (fun q => c2 ((bst_dis hM hK).mpr (fun s s0 s1 ⟨z1, z2⟩ z3 => ?_))) _
            exact (q c0).2 z1 (by rw [show slot ((cR h A).2.2.2 k 2) = s from z2]; exact z3)
        · rw [if_neg c1]
          exact bad (fun q => c1 ((bst_sub t2 hK).mpr (fun s s0 s1 z => (q c0).1 s (by omega) z))) _
  have start : ∀ x, (x = if W = 0 then 0 else gi h A 4) → ∃ b x', dL (d - 1) 104 45 [lR 1 8 A, lI W, lI 0, none, none, none] [dI x, dR 1 8 A] h = rI b (si h A 7 x') ∧ ((b = 1 ∧ SAFE (cR h A) (gi h A 4) (gi h A 1) (gi h A 3) (gi h (A + 1)) ∧ (0 ≤ x' ∧ x' ≤ gi h A 4) ∧ ∀ i, 0 ≤ i → i < gi h A 3 → slot (gi h (A + 1) i) ≠ -1 → kng (cR h A) x' (slot (gi h (A + 1) i))) ∨ (b = 0 ∧ ¬ SAFE (cR h A) (gi h A 4) (gi h A 1) (gi h A 3) (gi h (A + 1)))) := by
    intro x ex
    rw [b104_45]
    refine loop (gi h A 4).toNat 0 0 x none none (by omega) (by omega) (bst_0 (fun s _ _ ⟨j, j0, j1, _⟩ => by omega)) (fun j j0 j1 => by omega) ?_ (fun hx s s0 s1 hs => ?_)
    · rw [ex]; split <;> omega
    · by_cases z : W = 0
      · exact absurd hs ((bst_z hW).mp z s s0 s1)
      · rw [if_neg z] at ex
        omega
  by_cases z : W = 0
  · rw [if_pos z]
    have := start 0 (by rw [if_pos z])
    exact this
  · rw [if_neg z]
    exact start _ (by rw [if_neg z])
end SF
