/-! LAYERS -/
/-- an atom's weight: 0 if it is near -/
noncomputable def wgk (kd : Int → Int) (oc : Int → Int → Prop) (u : mU) (k : Int) : Int := @ite _ (nea kd oc u k) (Classical.propDecidable _) 0 1
theorem wgk_r (kd : Int → Int) (oc : Int → Int → Prop) (u : mU) (k : Int) : 0 ≤ wgk kd oc u k ∧ wgk kd oc u k ≤ 1 := by unfold wgk; split <;> omega
/-- layers that could be -/
def lyS (kd : Int → Int) (oc : Int → Int → Prop) (RL : mU → Prop) (f : Int → Int) : Prop := (∀ r, 0 ≤ r → r < 6 → 0 ≤ f r) ∧ ∀ u, RL u → ∀ k, 0 ≤ k → k < u.2.2.2.2 → (u.2.2.2.1.1 k = 0 ∨ u.2.2.2.1.1 k = 1) → f (u.2.2.2.1.2.1 k) + wgk kd oc u k ≤ f u.2.1
/-- the least of them -/
def lyL (kd : Int → Int) (oc : Int → Int → Prop) (RL : mU → Prop) (f : Int → Int) : Prop := lyS kd oc RL f ∧ ∀ g, lyS kd oc RL g → ∀ r, 0 ≤ r → r < 6 → f r ≤ g r
theorem lyL_eq {kd : Int → Int} {oc : Int → Int → Prop} {RL : mU → Prop} {f g : Int → Int} (a : lyL kd oc RL f) (b : lyL kd oc RL g) : ∀ r, 0 ≤ r → r < 6 → f r = g r := fun r r0 r1 => Int.le_antisymm (a.2 g b.1 r r0 r1) (b.2 f a.1 r r0 r1)
noncomputable def cnb (H : Int → Int → Prop) (r q : Int) : Int := @ite _ (H r q ∧ ¬ H q r) (Classical.propDecidable _) 1 0
theorem cnb_r (H : Int → Int → Prop) (r q : Int) : 0 ≤ cnb H r q ∧ cnb H r q ≤ 1 := by unfold cnb; split <;> omega
/-- what is not layerless has layers -/
theorem lyS_ex {kd : Int → Int} {RL : mU → Prop} {H : Int → Int → Prop} (T : LT (eg RL) H) (hR : ∀ u, RL u → HSu u) (hl : ∀ u, RL u → ¬ LYL (fun r q => r = q ∨ (H r q ∧ H q r)) u) : ∃ f, lyS kd (fun r q => r = q ∨ (H r q ∧ H q r)) RL f ∧ ∀ r, 0 ≤ r → r < 6 → f r ≤ 5 := by
  have up : ∀ r q, H r q → ∀ x, cnb H q x ≤ cnb H r x := by
    intro r q hrq x
    by_cases c : H q x ∧ ¬ H x q
    · have : H r x ∧ ¬ H x r := ⟨T.2.1 r q x hrq c.1, fun z => c.2 (T.2.1 x r q z hrq)⟩
      unfold cnb
      rw [if_pos c, if_pos this]
      exact Int.le_refl _
    · have e : cnb H q x = 0 := by unfold cnb; rw [if_neg c]
      rw [e]
      exact (cnb_r H r x).1
  refine ⟨fun r => sm (fun q => cnb H r q) 6, ⟨fun r _ _ => sm_nn (fun i _ _ => (cnb_r H r i).1), fun u hu k k0 k1 ha => ?_⟩, fun r r0 r1 => ?_⟩
  · have hrq : H u.2.1 (u.2.2.2.1.2.1 k) := T.1 _ _ ⟨u, hu, rfl, k, k0, k1, ha, rfl⟩
    have hq := (hR u hu).2.2 k k0 k1 ha
    by_cases c : H (u.2.2.2.1.2.1 k) u.2.1
    · have hn : nea kd (fun r q => r = q ∨ (H r q ∧ H q r)) u k := by
        by_cases z : u.1 ≠ 0 ∨ u.2.2.2.1.1 k = 1
        · exact absurd ⟨k, k0, k1, ha, z, Or.inr ⟨hrq, c⟩⟩ (hl u hu)
        · refine ⟨by omega, by omega, Or.inr (Or.inr ⟨c, hrq⟩)⟩
      have e : wgk kd (fun r q => r = q ∨ (H r q ∧ H q r)) u k = 0 := by unfold wgk; rw [if_pos hn]
      rw [e, Int.add_zero]
      exact sm_le (fun x _ _ => up _ _ hrq x)
    · have h1 := (wgk_r kd (fun r q => r = q ∨ (H r q ∧ H q r)) u k).2
      have h2 : sm (fun x => cnb H (u.2.2.2.1.2.1 k) x) 6 < sm (fun x => cnb H u.2.1 x) 6 := by
        refine sm_lt (k := u.2.2.2.1.2.1 k) (fun x _ _ => up _ _ hrq x) hq.1 hq.2 ?_
        have e1 : cnb H (u.2.2.2.1.2.1 k) (u.2.2.2.1.2.1 k) = 0 := by unfold cnb; rw [if_neg (fun z => z.2 z.1)]
        have e2 : cnb H u.2.1 (u.2.2.2.1.2.1 k) = 1 := by unfold cnb; rw [if_pos ⟨hrq, c⟩]
        show cnb H (u.2.2.2.1.2.1 k) (u.2.2.2.1.2.1 k) < cnb H u.2.1 (u.2.2.2.1.2.1 k)
        omega
      show sm (fun x => cnb H (u.2.2.2.1.2.1 k) x) 6 + _ ≤ sm (fun x => cnb H u.2.1 x) 6
      omega
  · have h2 : sm (fun x => cnb H r x) 6 < sm (fun _ => 1) 6 := by
      refine sm_lt (k := r) (fun x _ _ => (cnb_r H r x).2) r0 r1 ?_
      have e1 : cnb H r r = 0 := by unfold cnb; rw [if_neg (fun z => z.2 z.1)]
      show cnb H r r < 1
      omega
    have : sm (fun _ => 1) 6 = 6 := rfl
    show sm (fun x => cnb H r x) 6 ≤ 5
    omega
section LAYC
variable {h : dm_H}
theorem s120 {d : Nat} (hd : 2 ≤ d) {A : Nat} (s : st6 h 6) (hN : 0 ≤ gi h A 4 ∧ gi h A 4 ≤ 4) (hr : 0 ≤ gi h A 2 ∧ gi h A 2 < 6) (hs : ∀ k, 0 ≤ k → k < gi h A 4 → (gi h (A + 2) k = 0 ∨ gi h (A + 2) k = 1) → 0 ≤ gi h (A + 3) k ∧ gi h (A + 3) k < 6) (hb : ∀ r, 0 ≤ r → r < 6 → 0 ≤ gi h 7 r ∧ gi h 7 r ≤ 100) :
    ∃ M b, dF d 120 [dR 1 9 13, dR 1 8 A] h = rI b (si (si h 7 (gi h A 2) M) 2 6 (if gi h 2 6 < M then M else gi h 2 6)) ∧ (b = 0 ∨ b = 1) ∧ (b = 1 ↔ gi h 7 (gi h A 2) < M) ∧ gi h 7 (gi h A 2) ≤ M ∧ (∀ k, 0 ≤ k → k < gi h A 4 → (gi h (A + 2) k = 0 ∨ gi h (A + 2) k = 1) → gi h 7 (gi h (A + 3) k) + wgk (gi h 4) (ocH h 6) (uR h A) k ≤ M) ∧ (M = gi h 7 (gi h A 2) ∨ ∃ k, 0 ≤ k ∧ k < gi h A 4 ∧ (gi h (A + 2) k = 0 ∨ gi h (A + 2) k = 1) ∧ M = gi h 7 (gi h (A + 3) k) + wgk (gi h 4) (ocH h 6) (uR h A) k) := by
  have fin : ∀ (M : Int) (w3 w4 w5 : Option dm_V) (b : Int), (b = 0 ∨ b = 1) → dL (d - 1) 120 144 [lR 1 9 13, lR 1 8 A, lI M, w3, w4, w5] [dI b] h = rI b (si (si h 7 (gi h A 2) M) 2 6 (if gi h 2 6 < M then M else gi h 2 6)) := by
    intro M w3 w4 w5 b b01
    have e : gi (si h 7 (gi h A 2) M) 2 6 = gi h 2 6 := gi_sin (by decide)
    rw [b120_144, ix_p hr.1 hr.2, z1_p b01, e]
  have loop : ∀ (m : Nat) (k M : Int) (w4 w5 : Option dm_V), 0 ≤ k → k + m = gi h A 4 → gi h 7 (gi h A 2) ≤ M → M ≤ 101 → (∀ l, 0 ≤ l → l < k → (gi h (A + 2) l = 0 ∨ gi h (A + 2) l = 1) → gi h 7 (gi h (A + 3) l) + wgk (gi h 4) (ocH h 6) (uR h A) l ≤ M) → (M = gi h 7 (gi h A 2) ∨ ∃ k, 0 ≤ k ∧ k < gi h A 4 ∧ (gi h (A + 2) k = 0 ∨ gi h (A + 2) k = 1) ∧ M = gi h 7 (gi h (A + 3) k) + wgk (gi h 4) (ocH h 6) (uR h A) k) →
      ∃ M' b, dL (d - 1) 120 15 [lR 1 9 13, lR 1 8 A, lI M, lI k, w4, w5] [] h = rI b (si (si h 7 (gi h A 2) M') 2 6 (if gi h 2 6 < M' then M' else gi h 2 6)) ∧ (b = 0 ∨ b = 1) ∧ (b = 1 ↔ gi h 7 (gi h A 2) < M') ∧ gi h 7 (gi h A 2) ≤ M' ∧ (∀ k, 0 ≤ k → k < gi h A 4 → (gi h (A + 2) k = 0 ∨ gi h (A + 2) k = 1) → gi h 7 (gi h (A + 3) k) + wgk (gi h 4) (ocH h 6) (uR h A) k ≤ M') ∧ (M' = gi h 7 (gi h A 2) ∨ ∃ k, 0 ≤ k ∧ k < gi h A 4 ∧ (gi h (A + 2) k = 0 ∨ gi h (A + 2) k = 1) ∧ M' = gi h 7 (gi h (A + 3) k) + wgk (gi h 4) (ocH h 6) (uR h A) k) := by
    intro m
    induction m with
    | zero =>
      intro k M w4 w5 k0 km hM h101 C AT
      rw [b120_15, if_neg (by omega), ix_p hr.1 hr.2]
      by_cases z : gi h 7 (gi h A 2) < M
      · rw [if_pos z, fin M _ _ _ 1 (Or.inr rfl)]
        exact ⟨M, 1, rfl, Or.inr rfl, ⟨fun _ => z, fun _ => rfl⟩, hM, fun l l0 l1 => C l l0 (by omega), AT⟩
      · rw [if_neg z, fin M _ _ _ 0 (Or.inl rfl)]
        exact ⟨M, 0, rfl, Or.inl rfl, ⟨fun w => by omega, fun w => absurd w z⟩, hM, fun l l0 l1 => C l l0 (by omega), AT⟩
    | succ m ih =>
      intro k M w4 w5 k0 km hM h101 C AT
      have hk : 0 ≤ k ∧ k < 4 := by omega
      rw [b120_15, if_pos (by omega), s39 (by omega) A k h hk, bk_v, b120_28]
      by_cases za : gi h (A + 2) k = 0 ∨ gi h (A + 2) k = 1
      case neg =>
        rw [bi_0 za, if_pos rfl, b120_117, ck_p (by omega) (by omega)]
        refine ih (k + 1) M _ _ (by omega) (by omega) hM h101 (fun l l0 l1 l2 => ?_) AT
        by_cases y : l = k
        · rw [y] at l2; exact absurd l2 za
        · exact C l l0 (by omega) l2
      have q := hs k k0 (by omega) za
      have hq := hb _ q.1 q.2
      -- behind the test
      have go : ∀ f, (f = 0 ∨ f = 1) → (f = 1 ↔ nea (gi h 4) (ocH h 6) (uR h A) k) → ∀ w5, ∃ M' b, dL (d - 1) 120 89 [lR 1 9 13, lR 1 8 A, lI M, lI k, lI (gi h (A + 3) k), w5] [dI f] h = rI b (si (si h 7 (gi h A 2) M') 2 6 (if gi h 2 6 < M' then M' else gi h 2 6)) ∧ (b = 0 ∨ b = 1) ∧ (b = 1 ↔ gi h 7 (gi h A 2) < M') ∧ gi h 7 (gi h A 2) ≤ M' ∧ (∀ k, 0 ≤ k → k < gi h A 4 → (gi h (A + 2) k = 0 ∨ gi h (A + 2) k = 1) → gi h 7 (gi h (A + 3) k) + wgk (gi h 4) (ocH h 6) (uR h A) k ≤ M') ∧ (M' = gi h 7 (gi h A 2) ∨ ∃ k, 0 ≤ k ∧ k < gi h A 4 ∧ (gi h (A + 2) k = 0 ∨ gi h (A + 2) k = 1) ∧ M' = gi h 7 (gi h (A + 3) k) + wgk (gi h 4) (ocH h 6) (uR h A) k) := by
        intro f f01 hf w5
        have ew : (if f = 0 then (1 : Int) else 0) = wgk (gi h 4) (ocH h 6) (uR h A) k := by
          unfold wgk
          rcases f01 with e | e
          · rw [if_pos e, if_neg (fun z => by have := hf.mpr z; omega)]
          · rw [if_neg (by omega), if_pos (hf.mp e)]
        have hw := wgk_r (gi h 4) (ocH h 6) (uR h A) k
        have rest : ∀ (w : Int) (w4 w5 : Option dm_V), w = wgk (gi h 4) (ocH h 6) (uR h A) k → ∃ M' b, dL (d - 1) 120 112 [lR 1 9 13, lR 1 8 A, lI M, lI k, w4, w5] [dI w, dI (gi h 7 (gi h (A + 3) k)), dI M] h = rI b (si (si h 7 (gi h A 2) M') 2 6 (if gi h 2 6 < M' then M' else gi h 2 6)) ∧ (b = 0 ∨ b = 1) ∧ (b = 1 ↔ gi h 7 (gi h A 2) < M') ∧ gi h 7 (gi h A 2) ≤ M' ∧ (∀ k, 0 ≤ k → k < gi h A 4 → (gi h (A + 2) k = 0 ∨ gi h (A + 2) k = 1) → gi h 7 (gi h (A + 3) k) + wgk (gi h 4) (ocH h 6) (uR h A) k ≤ M') ∧ (M' = gi h 7 (gi h A 2) ∨ ∃ k, 0 ≤ k ∧ k < gi h A 4 ∧ (gi h (A + 2) k = 0 ∨ gi h (A + 2) k = 1) ∧ M' = gi h 7 (gi h (A + 3) k) + wgk (gi h 4) (ocH h 6) (uR h A) k) := by
          intro w w4 w5 e
          rw [b120_112, ck_p (by omega) (by omega), b120_117, ck_p (by omega) (by omega)]
          refine ih (k + 1) _ _ _ (by omega) (by omega) (by split <;> omega) (by split <;> omega) (fun l l0 l1 l2 => ?_) ?_
          · by_cases y : l = k
            · rw [y, ← e]; split <;> omega
            · have := C l l0 (by omega) l2
              split <;> omega
          · by_cases y : M < gi h 7 (gi h (A + 3) k) + w
            · rw [if_pos y]
              exact Or.inr ⟨k, k0, by omega, za, by rw [e]⟩
            · rw [if_neg y]; exact AT
        rw [b120_89, ix_p q.1 q.2]
        by_cases zf : f = 0
        · rw [if_pos zf] at ew ⊢
          exact rest 1 _ _ ew
        · rw [if_neg zf] at ew ⊢
          exact rest 0 _ _ ew
      have hne : nea (gi h 4) (ocH h 6) (uR h A) k ↔ gi h (A + 2) k = 0 ∧ gi h A 1 = 0 ∧ (gi h 4 (gi h (A + 3) k) = 0 ∨ ocH h 6 (gi h (A + 3) k) (gi h A 2)) := Iff.rfl
      rw [bi_1 za, if_neg (by decide), ix_p k0 hk.2]
      by_cases z1 : gi h A 1 = 0
      case neg =>
        rw [if_neg z1, b120_88]
        exact go 0 (Or.inl rfl) ⟨fun w => by omega, fun w => absurd (hne.mp w).2.1 z1⟩ _
      rw [if_pos z1, ix_p k0 hk.2]
      by_cases z2 : gi h (A + 2) k = 0
      case neg =>
        rw [if_neg z2, b120_88]
        exact go 0 (Or.inl rfl) ⟨fun w => by omega, fun w => absurd (hne.mp w).1 z2⟩ _
      rw [if_pos z2, ix_p q.1 q.2]
      by_cases z4 : gi h 4 (gi h (A + 3) k) = 0
      · rw [if_pos z4, b120_84]
        exact go 1 (Or.inr rfl) ⟨fun _ => hne.mpr ⟨z2, z1, Or.inl z4⟩, fun _ => rfl⟩ _
      · obtain ⟨b, x1, x2, x3⟩ := s112b (d := d - 1) (by omega) s q hr
        rw [if_neg z4, x1, bk_v, b120_81]
        rcases x2 with rfl | rfl
        · rw [if_pos rfl, b120_88]
          exact go 0 (Or.inl rfl) ⟨fun w => by omega, fun w => (hne.mp w).2.2.elim (fun y => absurd y z4) (fun y => by have := x3.mpr y; omega)⟩ _
        · rw [if_neg (by decide), b120_84]
          exact go 1 (Or.inr rfl) ⟨fun _ => hne.mpr ⟨z2, z1, Or.inr (x3.mp rfl)⟩, fun _ => rfl⟩ _
  have h0 := hb _ hr.1 hr.2
  rw [f120 (by omega), b120_0, ix_p hr.1 hr.2]
  exact loop (gi h A 4).toNat 0 (gi h 7 (gi h A 2)) none none (by omega) (by omega) (Int.le_refl _) (by omega) (fun l l0 l1 => by omega) (Or.inl rfl)
/-- what laying out touches -/
def frT (h h' : dm_H) : Prop := (∀ a i, a ≠ 7 → ¬ (a = 2 ∧ i = 6) → gi h' a i = gi h a i) ∧ (∀ a i, gr h' a i = gr h a i) ∧ h'.2.2 = h.2.2
theorem frT_trans {h h1 h2 : dm_H} (a : frT h h1) (b : frT h1 h2) : frT h h2 := ⟨fun c i p q => by rw [b.1 c i p q, a.1 c i p q], fun c i => by rw [b.2.1, a.2.1], by rw [b.2.2, a.2.2]⟩
theorem frT_e {h' : dm_H} (f : frT h h') {A : Nat} (hr : ru A) : uR h' A = uR h A ∧ (∀ q i, gi h' (A + q) i = gi h (A + q) i) ∧ gi h' 4 = gi h 4 ∧ ocH h' 6 = ocH h 6 := by
  have hg := ru_g hr
  have e : ∀ q i, gi h' (A + q) i = gi h (A + q) i := fun q i => f.1 _ _ (by omega) (by omega)
  refine ⟨?_, e, funext (fun i => f.1 _ _ (by decide) (by omega)), ?_⟩
  · unfold uR cR
    have e0 : ∀ i, gi h' A i = gi h A i := fun i => e 0 i
    rw [e0, e0, e0, show gi h' (A + 1) = gi h (A + 1) from funext (e 1), show gi h' (A + 2) = gi h (A + 2) from funext (e 2), show gi h' (A + 3) = gi h (A + 3) from funext (e 3), show gi h' (A + 4) = gi h (A + 4) from funext (e 4)]
    have : (fun k => tm h' A k) = fun k => tm h A k := by
      funext k i
      exact e 5 _
    rw [this]
  · funext r q
    have e6 : ∀ i, gi h' 6 i = gi h 6 i := fun i => f.1 _ _ (by decide) (by omega)
    unfold ocH bh
    rw [e6, e6]
theorem s119 {d : Nat} (hd : 3 ≤ d) (C : CB h) (s : st6 h 6) {f0 : Int → Int} (hf : lyS (gi h 4) (ocH h 6) (RLc h) f0) (hf5 : ∀ r, 0 ≤ r → r < 6 → f0 r ≤ 5) :
    ∃ h', dF d 119 [dR 1 9 13] h = rV h' ∧ frT h h' ∧ lyL (gi h 4) (ocH h 6) (RLc h) (gi h' 7) ∧ (∀ r, 0 ≤ r → r < 6 → gi h' 7 r ≤ gi h' 2 6) ∧ (0 ≤ gi h' 2 6 ∧ gi h' 2 6 ≤ 5) := by
  obtain ⟨c1, c2, c3⟩ := C
  -- what holds all along
  let J : dm_H → Prop := fun H => frT h H ∧ (∀ r, 0 ≤ r → r < 6 → 0 ≤ gi H 7 r) ∧ (∀ g, lyS (gi h 4) (ocH h 6) (RLc h) g → ∀ r, 0 ≤ r → r < 6 → gi H 7 r ≤ g r) ∧ (∀ r, 0 ≤ r → r < 6 → gi H 7 r ≤ gi H 2 6) ∧ (0 ≤ gi H 2 6 ∧ gi H 2 6 ≤ 5)
  have round : ∀ (m : Nat) (j x1 x2 : Int) (hs H : dm_H), 0 ≤ j → j + m = gi h 13 1 → (x1 = 0 ∨ x1 = 1) → J H → (∀ r, 0 ≤ r → r < 6 → gi hs 7 r ≤ gi H 7 r) → (x1 = 0 → ∀ i, 0 ≤ i → i < j → gi h (gr h 14 i) 1 ≠ 3 → ∀ k, 0 ≤ k → k < gi h (gr h 14 i) 4 → (gi h (gr h 14 i + 2) k = 0 ∨ gi h (gr h 14 i + 2) k = 1) → gi H 7 (gi h (gr h 14 i + 3) k) + wgk (gi h 4) (ocH h 6) (uR h (gr h 14 i)) k ≤ gi H 7 (gi h (gr h 14 i) 2)) → (x1 = 1 → sm (fun r => gi hs 7 r) 6 < sm (fun r => gi H 7 r) 6) →
      ∃ x1' H', dL (d - 1) 119 37 [lR 1 9 13, lI x1, lI x2, lI j] [] H = dL (d - 1) 119 37 [lR 1 9 13, lI x1', lI x2, lI (gi h 13 1)] [] H' ∧ (x1' = 0 ∨ x1' = 1) ∧ J H' ∧ (∀ r, 0 ≤ r → r < 6 → gi hs 7 r ≤ gi H' 7 r) ∧ (x1' = 0 → ∀ i, 0 ≤ i → i < gi h 13 1 → gi h (gr h 14 i) 1 ≠ 3 → ∀ k, 0 ≤ k → k < gi h (gr h 14 i) 4 → (gi h (gr h 14 i + 2) k = 0 ∨ gi h (gr h 14 i + 2) k = 1) → gi H' 7 (gi h (gr h 14 i + 3) k) + wgk (gi h 4) (ocH h 6) (uR h (gr h 14 i)) k ≤ gi H' 7 (gi h (gr h 14 i) 2)) ∧ (x1' = 1 → sm (fun r => gi hs 7 r) 6 < sm (fun r => gi H' 7 r) 6) := by
    intro m
    induction m with
    | zero =>
      intro j x1 x2 hs H j0 jm i01 JH W C S
      rw [show j = gi h 13 1 by omega] at C ⊢
      exact ⟨x1, H, rfl, i01, JH, W, C, S⟩
    | succ m ih =>
      intro j x1 x2 hs H j0 jm i01 JH W C S
      obtain ⟨fH, p1, p2, p3, p4⟩ := JH
      obtain ⟨a1, a2, a3, a4⟩ := c3 j j0 (by omega)
      obtain ⟨e1, e2, e3, e4⟩ := frT_e fH a1
      have hg := ru_g a1
      have eg0 : ∀ i, gi H (gr h 14 j) i = gi h (gr h 14 j) i := fun i => e2 0 i
      have hnext : ∀ (x1 : Int) (H' : dm_H), dL (d - 1) 119 73 [lR 1 9 13, lI x1, lI x2, lI j] [] H' = dL (d - 1) 119 37 [lR 1 9 13, lI x1, lI x2, lI (j + 1)] [] H' := fun x1 H' => by rw [b119_73, ck_p (by omega) (by omega)]
      rw [b119_37, fH.1 13 1 (by decide) (by omega), if_pos (by omega), ix_p j0 (by omega), fH.2.1, eg0]
      by_cases z3 : gi h (gr h 14 j) 1 = 3
      · rw [if_pos z3, hnext]
        refine ih (j + 1) x1 x2 hs H (by omega) (by omega) i01 ⟨fH, p1, p2, p3, p4⟩ W (fun q i i0 i1 i2 => ?_) S
        by_cases y : i = j
        · rw [y] at i2; exact absurd z3 i2
        · exact C q i i0 (by omega) i2
      have hr := a3 z3
      have hb : ∀ r, 0 ≤ r → r < 6 → 0 ≤ gi H 7 r ∧ gi H 7 r ≤ 100 := fun r r0 r1 => ⟨p1 r r0 r1, by have := p3 r r0 r1; omega⟩
      obtain ⟨M, b, t1, t2, t3, t4, t5, t6⟩ := s120 (d := d - 1) (h := H) (A := gr h 14 j) (by omega) (fun r r0 r1 => by rw [fH.1 6 r (by decide) (by omega)]; exact s r r0 r1) (by rw [eg0]; exact a2) (by rw [eg0]; omega) (fun k k0 k1 ka => by rw [e2] at ka ⊢; rw [eg0] at k1; have := a4 k k0 k1 ka; omega) hb
      rw [e1, e3, e4] at t5 t6
      simp only [eg0, e2] at t1 t3 t4 t5 t6
      have hRL : RLc h (uR h (gr h 14 j)) := ⟨j, j0, by omega, z3, rfl⟩
      have hMg : ∀ g, lyS (gi h 4) (ocH h 6) (RLc h) g → M ≤ g (gi h (gr h 14 j) 2) := by
        intro g hg'
        rcases t6 with q | ⟨k, k0, k1, ka, q⟩
        · rw [q]; exact p2 g hg' _ hr.1 (by omega)
        · have h1 := hg'.2 _ hRL k k0 k1 ka
          have h2 := a4 k k0 k1 ka
          have h3 := p2 g hg' _ h2.1 (by omega)
          have h1 : g (gi h (gr h 14 j + 3) k) + wgk (gi h 4) (ocH h 6) (uR h (gr h 14 j)) k ≤ g (gi h (gr h 14 j) 2) := h1
          omega
      have hM5 : M ≤ 5 := by
        have := hMg f0 hf
        have := hf5 _ hr.1 (by omega)
        omega
      have g7 : ∀ r, gi (si (si H 7 (gi h (gr h 14 j) 2) M) 2 6 (if gi H 2 6 < M then M else gi H 2 6)) 7 r = if r = gi h (gr h 14 j) 2 then M else gi H 7 r := by
        intro r
        rw [gi_sin (by decide), gi_si]
        by_cases y : r = gi h (gr h 14 j) 2
        · rw [if_pos ⟨rfl, y⟩, if_pos y]
        · rw [if_neg (fun w => y w.2), if_neg y]
      have J' : J (si (si H 7 (gi h (gr h 14 j) 2) M) 2 6 (if gi H 2 6 < M then M else gi H 2 6)) := by
        refine ⟨frT_trans fH ⟨fun a i n1 n2 => by rw [gi_si, if_neg n2, gi_sin n1], fun _ _ => rfl, rfl⟩, fun r r0 r1 => ?_, fun g hg' r r0 r1 => ?_, fun r r0 r1 => ?_, ?_⟩
        · rw [g7]
          have := p1 r r0 r1
          by_cases y : r = gi h (gr h 14 j) 2
          · rw [if_pos y]
            rw [y] at this
            omega
          · rw [if_neg y]; exact this
        · rw [g7]
          by_cases y : r = gi h (gr h 14 j) 2
          · rw [if_pos y, y]; exact hMg g hg'
          · rw [if_neg y]; exact p2 g hg' r r0 r1
        · rw [g7, gi_sis]
          have := p3 r r0 r1
          by_cases y : r = gi h (gr h 14 j) 2
          · rw [if_pos y]; split <;> omega
          · rw [if_neg y]; split <;> omega
        · rw [gi_sis]; split <;> omega
      have hge : ∀ r, 0 ≤ r → r < 6 → gi H 7 r ≤ gi (si (si H 7 (gi h (gr h 14 j) 2) M) 2 6 (if gi H 2 6 < M then M else gi H 2 6)) 7 r := by
        intro r r0 r1
        rw [g7]
        by_cases y : r = gi h (gr h 14 j) 2
        · rw [if_pos y, y]; exact t4
        · rw [if_neg y]; exact Int.le_refl _
      have hW' : ∀ r, 0 ≤ r → r < 6 → gi hs 7 r ≤ gi (si (si H 7 (gi h (gr h 14 j) 2) M) 2 6 (if gi H 2 6 < M then M else gi H 2 6)) 7 r := fun r r0 r1 => Int.le_trans (W r r0 r1) (hge r r0 r1)
      rw [if_neg z3, ix_p j0 (by omega), t1, bk_v, b119_68]
      rcases t2 with rfl | rfl
      · have hM : M = gi H 7 (gi h (gr h 14 j) 2) := by
          by_cases y : gi H 7 (gi h (gr h 14 j) 2) < M
          · have := t3.mpr y; omega
          · omega
        have e7 : ∀ r, gi (si (si H 7 (gi h (gr h 14 j) 2) M) 2 6 (if gi H 2 6 < M then M else gi H 2 6)) 7 r = gi H 7 r := by
          intro r
          rw [g7]
          by_cases y : r = gi h (gr h 14 j) 2
          · rw [if_pos y, hM, y]
          · rw [if_neg y]
        rw [if_pos rfl, hnext]
        refine ih (j + 1) x1 x2 hs _ (by omega) (by omega) i01 J' hW' (fun q i i0 i1 i2 k k0 k1 ka => ?_) (fun q => ?_)
        · rw [e7, e7]
          by_cases y : i = j
          · rw [y] at k1 ka ⊢
            have := t5 k k0 k1 ka
            rw [← hM]
            exact this
          · exact C q i i0 (by omega) i2 k k0 k1 ka
        · have := S q
          rw [show sm (fun r => gi (si (si H 7 (gi h (gr h 14 j) 2) M) 2 6 (if gi H 2 6 < M then M else gi H 2 6)) 7 r) 6 = sm (fun r => gi H 7 r) 6 from sm_cg (fun r _ _ => e7 r)]
          exact this
      · rw [if_neg (by decide), hnext]
        refine ih (j + 1) 1 x2 hs _ (by omega) (by omega) (Or.inr rfl) J' hW' (fun q => by omega) (fun _ => ?_)
        have h1 : sm (fun r => gi hs 7 r) 6 ≤ sm (fun r => gi H 7 r) 6 := sm_le (fun r r0 r1 => W r r0 r1)
        have h2 : sm (fun r => gi H 7 r) 6 < sm (fun r => gi (si (si H 7 (gi h (gr h 14 j) 2) M) 2 6 (if gi H 2 6 < M then M else gi H 2 6)) 7 r) 6 := by
          refine sm_lt (k := gi h (gr h 14 j) 2) (fun r r0 r1 => hge r r0 r1) hr.1 (by omega) ?_
          show gi H 7 (gi h (gr h 14 j) 2) < gi (si (si H 7 (gi h (gr h 14 j) 2) M) 2 6 (if gi H 2 6 < M then M else gi H 2 6)) 7 (gi h (gr h 14 j) 2)
          rw [g7, if_pos rfl]
          exact t3.mp rfl
        omega
  have done : ∀ H, J H → (∀ i, 0 ≤ i → i < gi h 13 1 → gi h (gr h 14 i) 1 ≠ 3 → ∀ k, 0 ≤ k → k < gi h (gr h 14 i) 4 → (gi h (gr h 14 i + 2) k = 0 ∨ gi h (gr h 14 i + 2) k = 1) → gi H 7 (gi h (gr h 14 i + 3) k) + wgk (gi h 4) (ocH h 6) (uR h (gr h 14 i)) k ≤ gi H 7 (gi h (gr h 14 i) 2)) → lyL (gi h 4) (ocH h 6) (RLc h) (gi H 7) := by
    intro H JH C
    refine ⟨⟨JH.2.1, fun u hu k k0 k1 ka => ?_⟩, JH.2.2.1⟩
    obtain ⟨i, i0, i1, i2, rfl⟩ := hu
    exact C i i0 i1 i2 k k0 k1 ka
  have sum30 : ∀ H, J H → 0 ≤ sm (fun r => gi H 7 r) 6 ∧ sm (fun r => gi H 7 r) 6 ≤ 30 := by
    intro H JH
    refine ⟨sm_nn (fun r r0 r1 => JH.2.1 r r0 r1), ?_⟩
    have := sm_ub (f := fun r => gi H 7 r) (b := 5) (n := 6) (fun r r0 r1 => by have := JH.2.2.2.1 r r0 r1; have := JH.2.2.2.2.2; show gi H 7 r ≤ 5; omega)
    omega
  have rounds : ∀ (m : Nat) (x1 x2 : Int) (w3 : Option dm_V) (H : dm_H), (x1 = 0 ∨ x1 = 1) → 0 ≤ x2 → x2 + m ≤ 100 → J H → 30 - sm (fun r => gi H 7 r) 6 + x1 < m → (x1 = 0 → ∀ i, 0 ≤ i → i < gi h 13 1 → gi h (gr h 14 i) 1 ≠ 3 → ∀ k, 0 ≤ k → k < gi h (gr h 14 i) 4 → (gi h (gr h 14 i + 2) k = 0 ∨ gi h (gr h 14 i + 2) k = 1) → gi H 7 (gi h (gr h 14 i + 3) k) + wgk (gi h 4) (ocH h 6) (uR h (gr h 14 i)) k ≤ gi H 7 (gi h (gr h 14 i) 2)) →
      ∃ h', dL (d - 1) 119 23 [lR 1 9 13, lI x1, lI x2, w3] [] H = rV h' ∧ frT h h' ∧ lyL (gi h 4) (ocH h 6) (RLc h) (gi h' 7) ∧ (∀ r, 0 ≤ r → r < 6 → gi h' 7 r ≤ gi h' 2 6) ∧ (0 ≤ gi h' 2 6 ∧ gi h' 2 6 ≤ 5) := by
    intro m
    induction m with
    | zero =>
      intro x1 x2 w3 H i01 y0 y1 JH mm C
      have := (sum30 H JH).2
      omega
    | succ m ih =>
      intro x1 x2 w3 H i01 y0 y1 JH mm C
      rw [b119_23]
      by_cases z : x1 = 0
      · rw [if_pos z, b119_85]
        exact ⟨H, rfl, JH.1, done H JH (C z), JH.2.2.2.1, JH.2.2.2.2⟩
      · rw [if_neg z, if_pos (by omega)]
        obtain ⟨x1', H', t1, t2, t3, t4, t5, t6⟩ := round (gi h 13 1).toNat 0 0 x2 H H (by omega) (by omega) (Or.inl rfl) JH (fun _ _ _ => Int.le_refl _) (fun _ i i0 i1 => by omega) (fun q => by omega)
        have e13 : gi H' 13 1 = gi h 13 1 := t3.1.1 13 1 (by decide) (by omega)
        rw [t1, b119_37, e13, if_neg (by omega), ck_p (by omega) (by omega)]
        refine ih x1' (x2 + 1) _ H' t2 (by omega) (by omega) t3 ?_ t5
        have h1 : sm (fun r => gi H 7 r) 6 ≤ sm (fun r => gi H' 7 r) 6 := sm_le (fun r r0 r1 => t4 r r0 r1)
        rcases t2 with q | q
        · omega
        · have := t6 q
          omega
  rw [f119 (by omega), b119_0, s21 (by omega) 6 7 0 h (by omega), bk_n, b119_11]
  have z7 : ∀ r, 0 ≤ r → r < 6 → gi (si (fill h 7 ((6 : Nat) : Int) 0) 2 6 0) 7 r = 0 := fun r r0 r1 => by rw [gi_sin (by decide), gi_fill, if_pos ⟨rfl, r0, by omega⟩]
  have J0 : J (si (fill h 7 ((6 : Nat) : Int) 0) 2 6 0) := by
    refine ⟨⟨fun a i n1 n2 => by rw [gi_si, if_neg n2, gi_fill, if_neg (fun z => n1 z.1)], fun _ _ => rfl, rfl⟩, fun r r0 r1 => by rw [z7 r r0 r1]; exact Int.le_refl _, fun g hg r r0 r1 => by rw [z7 r r0 r1]; exact hg.1 r r0 r1, fun r r0 r1 => by rw [z7 r r0 r1, gi_sis]; exact Int.le_refl _, by rw [gi_sis]; omega⟩
  exact rounds 40 1 0 none _ (Or.inr rfl) (by omega) (by omega) J0 (by have := (sum30 _ J0).1; omega) (fun q => by omega)
end LAYC
