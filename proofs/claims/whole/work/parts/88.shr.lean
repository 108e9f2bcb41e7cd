/-! SHRINKING: the class -/
/-- the head takes what goes one way as its value alone -/
def hdg (kd : Int → Int) (oc : Int → Int → Prop) (u : mU) (cols : Int) : Prop := ∀ i, 0 ≤ i → i < cols → coT (crs kd oc u.2.2.2.1 u.2.1 u.2.2.2.2.toNat) (u.2.2.1 i) = 0 ∨ (kd u.2.1 ≠ 0 ∧ i = cols - 1 ∧ coT (crs kd oc u.2.2.2.1 u.2.1 u.2.2.2.2.toNat) (u.2.2.1 i) = if kd u.2.1 = 1 then -1 else 1)
def NSH (kd : Int → Int) (oc : Int → Int → Prop) (u : mU) (cols : Int) : Prop := (∀ k, 0 ≤ k → k < u.2.2.2.2 → gud kd oc u.2.2.2.1 u.2.1 k) ∧ hdg kd oc u cols
theorem avr_s {ρ : mR} {k s : Int} (k0 : 0 ≤ k) : avr ρ (k + 1) s ↔ avr ρ k s ∨ vrs ρ k s ∨ (ρ.1 k = 3 ∧ slot (ρ.2.2.2 k 2) = s) := by
  constructor
  · rintro ⟨j, j0, j1, j2⟩
    by_cases e : j = k
    · rw [e] at j2; exact Or.inr j2
    · exact Or.inl ⟨j, j0, by omega, j2⟩
  · rintro (⟨j, j0, j1, j2⟩ | z)
    · exact ⟨j, j0, by omega, j2⟩
    · exact ⟨k, k0, by omega, z⟩
/-- the courses stand at c -/
def cAt (h : dm_H) (A : Nat) (c : Int → Int) : Prop := ∀ s, 0 ≤ s → s < 8 → gi h (A + 7) s = c s
theorem s115c {d : Nat} (hd : 2 ≤ d) {h : dm_H} {A : Nat} {c : Int → Int} (C : cAt h A c) (x : Int) : dF d 115 [dR 1 8 A, dI x] h = rI (coT c x) h := by
  rw [s115 hd A x h]
  refine congrArg (fun y => rI y h) ?_
  unfold coT
  by_cases z : slot x = -1
  · rw [if_pos z, if_pos z]
  · have := slotne z
    rw [if_neg z, if_neg z, C _ this.1 this.2]
/-- only the courses are other ones -/
def frC7 (A : Nat) (h h' : dm_H) : Prop := (∀ a i, a ≠ A + 7 → gi h' a i = gi h a i) ∧ (∀ a i, gr h' a i = gr h a i) ∧ h'.2.2 = h.2.2
theorem frC7_refl (A : Nat) (h : dm_H) : frC7 A h h := ⟨fun _ _ _ => rfl, fun _ _ => rfl, rfl⟩
theorem frC7_trans {A : Nat} {h h1 h2 : dm_H} (a : frC7 A h h1) (b : frC7 A h1 h2) : frC7 A h h2 := ⟨fun c i p => by rw [b.1 c i p, a.1 c i p], fun c i => by rw [b.2.1, a.2.1], by rw [b.2.2, a.2.2]⟩
section SHR
variable {h : dm_H} {A : Nat}
theorem crs_atom {kd : Int → Int} {oc : Int → Int → Prop} {ρ : mR} {hdr k : Int} (k0 : 0 ≤ k) (g : ¬ grw kd oc ρ hdr k) (s3 : ρ.1 k ≠ 3) : crs kd oc ρ hdr (k + 1).toNat = crs kd oc ρ hdr k.toNat := by
  rw [show (k + 1).toNat = k.toNat + 1 by omega]
  show @ite _ (grw kd oc ρ hdr (k.toNat : Int)) (Classical.propDecidable _) _ _ = _
  rw [show (k.toNat : Int) = k by omega, if_neg g, if_neg s3]
theorem crs_grw {kd : Int → Int} {oc : Int → Int → Prop} {ρ : mR} {hdr k : Int} (k0 : 0 ≤ k) (g : grw kd oc ρ hdr k) : crs kd oc ρ hdr (k + 1).toNat = if slot (ρ.2.2.2 k (ρ.2.2.1 k - 1)) = -1 then crs kd oc ρ hdr k.toNat else upd1 (crs kd oc ρ hdr k.toNat) (slot (ρ.2.2.2 k (ρ.2.2.1 k - 1))) (if kd (ρ.2.1 k) = 1 then -1 else 1) := by
  rw [show (k + 1).toNat = k.toNat + 1 by omega]
  show @ite _ (grw kd oc ρ hdr (k.toNat : Int)) (Classical.propDecidable _) _ _ = _
  rw [show (k.toNat : Int) = k by omega, if_pos g]
theorem crs_rck {kd : Int → Int} {oc : Int → Int → Prop} {ρ : mR} {hdr k : Int} (k0 : 0 ≤ k) (s3 : ρ.1 k = 3) : crs kd oc ρ hdr (k + 1).toNat = if coT (crs kd oc ρ hdr k.toNat) (ρ.2.2.2 k 0) = 0 ∧ coT (crs kd oc ρ hdr k.toNat) (ρ.2.2.2 k 1) = 0 then crs kd oc ρ hdr k.toNat else upd1 (crs kd oc ρ hdr k.toNat) (slot (ρ.2.2.2 k 2)) (cmb (ρ.2.1 k) (coT (crs kd oc ρ hdr k.toNat) (ρ.2.2.2 k 0)) (coT (crs kd oc ρ hdr k.toNat) (ρ.2.2.2 k 1))) := by
  rw [show (k + 1).toNat = k.toNat + 1 by omega]
  show @ite _ (grw kd oc ρ hdr (k.toNat : Int)) (Classical.propDecidable _) _ _ = _
  have g : ¬ grw kd oc ρ hdr k := fun z => by have := z.1; omega
  rw [show (k.toNat : Int) = k by omega, if_neg g, if_pos s3]
theorem s116 {d : Nat} (hd : 3 ≤ d) {c : Int → Int} (C : cAt h A c) {k : Int} (hk : 0 ≤ k ∧ k < 4) : ∃ g, dF d 116 [dR 1 8 A, dI k] h = rI g h ∧ (g = 0 ∨ g = 1) ∧ (g = 1 ↔ (coT c (tm h A k 0) = 0 ∧ coT c (tm h A k 1) = 0) ∨ ((gi h (A + 3) k = 2 ∨ gi h (A + 3) k = 3) ∧ ((coT c (tm h A k 0) = -1 ∧ coT c (tm h A k 1) = 0) ∨ (coT c (tm h A k 0) = 0 ∧ coT c (tm h A k 1) = 1)))) := by
  have e0 : gi h (A + 5) (k * 3) = tm h A k 0 := by show gi h (A + 5) (k * 3) = gi h (A + 5) (k * 3 + 0); rw [Int.add_zero]
  have e1 : gi h (A + 5) (k * 3 + 1) = tm h A k 1 := rfl
  have fin : ∀ x, (x = 0 ∨ x = 1) → ∀ w4, dL (d - 1) 116 63 [lR 1 8 A, lI k, lI (coT c (tm h A k 0)), lI (coT c (tm h A k 1)), w4] [dI x] h = rI (if x = 0 then 0 else if coT c (tm h A k 0) = -1 ∧ coT c (tm h A k 1) = 0 then 1 else if coT c (tm h A k 0) = 0 ∧ coT c (tm h A k 1) = 1 then 1 else 0) h := by
    intro x x01 w4
    rw [b116_63]
    by_cases zx : x = 0
    · rw [if_pos zx, if_pos zx, b116_92, b116_93, z1_p (Or.inl rfl)]
    rw [if_neg zx, if_neg zx]
    by_cases z1 : coT c (tm h A k 0) = -1
    · rw [if_pos z1]
      by_cases z2 : coT c (tm h A k 1) = 0
      · rw [if_pos z2, if_pos ⟨z1, z2⟩, b116_88, b116_93, z1_p (Or.inr rfl)]
      · rw [if_neg z2, if_neg (fun w => z2 w.2), if_neg (fun w => by omega), b116_79, if_neg (by omega), b116_92, b116_93, z1_p (Or.inl rfl)]
    · rw [if_neg z1, if_neg (fun w => z1 w.1), b116_79]
      by_cases z2 : coT c (tm h A k 0) = 0
      · rw [if_pos z2]
        by_cases z3 : coT c (tm h A k 1) = 1
        · rw [if_pos z3, if_pos ⟨z2, z3⟩, b116_88, b116_93, z1_p (Or.inr rfl)]
        · rw [if_neg z3, if_neg (fun w => z3 w.2), b116_92, b116_93, z1_p (Or.inl rfl)]
      · rw [if_neg z2, if_neg (fun w => z2 w.1), b116_92, b116_93, z1_p (Or.inl rfl)]
  rw [f116 (by omega), b116_0, ck_p (by omega) (by omega), ix_p (by omega) (by omega), e0, s115c (by omega) C, bk_v, b116_12, ck_p (by omega) (by omega), ck_p (by omega) (by omega), ix_p (by omega) (by omega), e1, s115c (by omega) C, bk_v, b116_27]
  have rest : ¬ (coT c (tm h A k 0) = 0 ∧ coT c (tm h A k 1) = 0) → ∀ w4, ∃ g, dL (d - 1) 116 38 [lR 1 8 A, lI k, lI (coT c (tm h A k 0)), lI (coT c (tm h A k 1)), w4] [] h = rI g h ∧ (g = 0 ∨ g = 1) ∧ (g = 1 ↔ (coT c (tm h A k 0) = 0 ∧ coT c (tm h A k 1) = 0) ∨ ((gi h (A + 3) k = 2 ∨ gi h (A + 3) k = 3) ∧ ((coT c (tm h A k 0) = -1 ∧ coT c (tm h A k 1) = 0) ∨ (coT c (tm h A k 0) = 0 ∧ coT c (tm h A k 1) = 1)))) := by
    intro hno w4
    have hsplit : ∀ x, (x = 0 ∨ x = 1) → (x = 1 ↔ gi h (A + 3) k = 2 ∨ gi h (A + 3) k = 3) → ∀ w4, ∃ g, dL (d - 1) 116 63 [lR 1 8 A, lI k, lI (coT c (tm h A k 0)), lI (coT c (tm h A k 1)), w4] [dI x] h = rI g h ∧ (g = 0 ∨ g = 1) ∧ (g = 1 ↔ (coT c (tm h A k 0) = 0 ∧ coT c (tm h A k 1) = 0) ∨ ((gi h (A + 3) k = 2 ∨ gi h (A + 3) k = 3) ∧ ((coT c (tm h A k 0) = -1 ∧ coT c (tm h A k 1) = 0) ∨ (coT c (tm h A k 0) = 0 ∧ coT c (tm h A k 1) = 1)))) := by
      intro x x01 hx w4
      refine ⟨_, fin x x01 w4, ?_, ?_⟩
      · repeat' split
        all_goals omega
      repeat' split
      all_goals omega
    rw [b116_38, ix_p hk.1 (by omega)]
    by_cases z2 : gi h (A + 3) k = 2
    · rw [if_pos z2, b116_58]
      exact hsplit 1 (Or.inr rfl) ⟨fun _ => Or.inl z2, fun _ => rfl⟩ _
    rw [if_neg z2, ix_p hk.1 (by omega)]
    by_cases z3 : gi h (A + 3) k = 3
    · rw [if_pos z3, b116_58]
      exact hsplit 1 (Or.inr rfl) ⟨fun _ => Or.inr z3, fun _ => rfl⟩ _
    · rw [if_neg z3]
      exact hsplit 0 (Or.inl rfl) ⟨fun w => by omega, fun w => w.elim (fun y => absurd y z2) (fun y => absurd y z3)⟩ _
  by_cases z0 : coT c (tm h A k 0) = 0
  · rw [if_pos z0]
    by_cases z1 : coT c (tm h A k 1) = 0
    · rw [if_pos z1]
      exact ⟨1, rfl, Or.inr rfl, fun _ => Or.inl ⟨z0, z1⟩, fun _ => rfl⟩
    · rw [if_neg z1]
      exact rest (fun w => z1 w.2) _
  · rw [if_neg z0]
    exact rest (fun w => z0 w.1) _
theorem s117 {d : Nat} (hd : 3 ≤ d) {c : Int → Int} (C : cAt h A c) (cr : ∀ s, c s = -1 ∨ c s = 0 ∨ c s = 1) {k : Int} (hk : 0 ≤ k ∧ k < 4) (ht : slot (tm h A k 2) ≠ -1) : ∃ g h', dF d 117 [dR 1 8 A, dI k] h = rI g h' ∧ (g = 0 ∨ g = 1) ∧ frC7 A h h' ∧ cAt h' A (if coT c (tm h A k 0) = 0 ∧ coT c (tm h A k 1) = 0 then c else upd1 c (slot (tm h A k 2)) (cmb (gi h (A + 3) k) (coT c (tm h A k 0)) (coT c (tm h A k 1)))) ∧ (g = 1 ↔ (coT c (tm h A k 0) = 0 ∧ coT c (tm h A k 1) = 0) ∨ cmb (gi h (A + 3) k) (coT c (tm h A k 0)) (coT c (tm h A k 1)) ≠ 0) := by
  have e0 : gi h (A + 5) (k * 3) = tm h A k 0 := by show gi h (A + 5) (k * 3) = gi h (A + 5) (k * 3 + 0); rw [Int.add_zero]
  have e1 : gi h (A + 5) (k * 3 + 1) = tm h A k 1 := rfl
  have e2 : gi h (A + 5) (k * 3 + 2) = tm h A k 2 := rfl
  have q0 := coT_r cr (tm h A k 0)
  have q1 := coT_r cr (tm h A k 1)
  have sr := slotne ht
  rw [f117 (by omega), b117_0, ck_p (by omega) (by omega), ix_p (by omega) (by omega), e0, s115c (by omega) C, bk_v, b117_12, ck_p (by omega) (by omega), ck_p (by omega) (by omega), ix_p (by omega) (by omega), e1, s115c (by omega) C, bk_v, b117_27, ck_p (by omega) (by omega), ck_p (by omega) (by omega), ix_p (by omega) (by omega), e2, s46 (by omega), bk_v, b117_41]
  have rest : ¬ (coT c (tm h A k 0) = 0 ∧ coT c (tm h A k 1) = 0) → ∃ g h', dL (d - 1) 117 53 [lR 1 8 A, lI k, lI (coT c (tm h A k 0)), lI (coT c (tm h A k 1)), lI (slot (tm h A k 2)), none] [] h = rI g h' ∧ (g = 0 ∨ g = 1) ∧ frC7 A h h' ∧ cAt h' A (if coT c (tm h A k 0) = 0 ∧ coT c (tm h A k 1) = 0 then c else upd1 c (slot (tm h A k 2)) (cmb (gi h (A + 3) k) (coT c (tm h A k 0)) (coT c (tm h A k 1)))) ∧ (g = 1 ↔ (coT c (tm h A k 0) = 0 ∧ coT c (tm h A k 1) = 0) ∨ cmb (gi h (A + 3) k) (coT c (tm h A k 0)) (coT c (tm h A k 1)) ≠ 0) := by
    intro hno
    have fin : ∀ (x : Int), x = cmb (gi h (A + 3) k) (coT c (tm h A k 0)) (coT c (tm h A k 1)) → ∃ g h', dL (d - 1) 117 113 [lR 1 8 A, lI k, lI (coT c (tm h A k 0)), lI (coT c (tm h A k 1)), lI (slot (tm h A k 2)), lI x] [] h = rI g h' ∧ (g = 0 ∨ g = 1) ∧ frC7 A h h' ∧ cAt h' A (if coT c (tm h A k 0) = 0 ∧ coT c (tm h A k 1) = 0 then c else upd1 c (slot (tm h A k 2)) (cmb (gi h (A + 3) k) (coT c (tm h A k 0)) (coT c (tm h A k 1)))) ∧ (g = 1 ↔ (coT c (tm h A k 0) = 0 ∧ coT c (tm h A k 1) = 0) ∨ cmb (gi h (A + 3) k) (coT c (tm h A k 0)) (coT c (tm h A k 1)) ≠ 0) := by
      intro x ex
      have cc : cAt (si h (A + 7) (slot (tm h A k 2)) x) A (if coT c (tm h A k 0) = 0 ∧ coT c (tm h A k 1) = 0 then c else upd1 c (slot (tm h A k 2)) (cmb (gi h (A + 3) k) (coT c (tm h A k 0)) (coT c (tm h A k 1)))) := by
        rw [if_neg hno]
        intro s s0 s1
        rw [gi_si]
        unfold upd1
        by_cases z : s = slot (tm h A k 2)
        · rw [if_pos ⟨rfl, z⟩, if_pos z, ex]
        · rw [if_neg (fun w => z w.2), if_neg z]; exact C s s0 s1
      have fr : frC7 A h (si h (A + 7) (slot (tm h A k 2)) x) := ⟨fun a i ha => gi_sin ha, fun _ _ => rfl, rfl⟩
      rw [b117_113, if_neg (by omega), ix_p sr.1 sr.2, b117_128]
      by_cases z : x = 0
      · rw [if_pos z, b117_138, z1_p (Or.inl rfl)]
        exact ⟨0, _, rfl, Or.inl rfl, fr, cc, fun w => by omega, fun w => w.elim (fun y => absurd y hno) (fun y => by omega)⟩
      · rw [if_neg z, b117_138, z1_p (Or.inr rfl)]
        exact ⟨1, _, rfl, Or.inr rfl, fr, cc, fun _ => Or.inr (by omega), fun _ => rfl⟩
    rw [b117_53, ix_p hk.1 (by omega)]
    by_cases z5 : gi h (A + 3) k = 5
    · rw [if_pos z5]
      exact fin 0 (by unfold cmb; rw [if_pos z5])
    rw [if_neg z5, ix_p hk.1 (by omega)]
    by_cases z1 : gi h (A + 3) k = 1
    · rw [if_pos z1]
      have go91 : ∀ (w5 : Option dm_V), (coT c (tm h A k 0) = 0 ∨ coT c (tm h A k 1) = 0) → ∃ g h', dL (d - 1) 117 91 [lR 1 8 A, lI k, lI (coT c (tm h A k 0)), lI (coT c (tm h A k 1)), lI (slot (tm h A k 2)), w5] [] h = rI g h' ∧ (g = 0 ∨ g = 1) ∧ frC7 A h h' ∧ cAt h' A (if coT c (tm h A k 0) = 0 ∧ coT c (tm h A k 1) = 0 then c else upd1 c (slot (tm h A k 2)) (cmb (gi h (A + 3) k) (coT c (tm h A k 0)) (coT c (tm h A k 1)))) ∧ (g = 1 ↔ (coT c (tm h A k 0) = 0 ∧ coT c (tm h A k 1) = 0) ∨ cmb (gi h (A + 3) k) (coT c (tm h A k 0)) (coT c (tm h A k 1)) ≠ 0) := by
        intro w5 hz
        rw [b117_91, ck_p (by omega) (by omega), b117_94]
        exact fin _ (by unfold cmb; rw [if_neg z5, if_pos z1, if_neg (by omega)])
      by_cases a0 : coT c (tm h A k 0) = 0
      · rw [if_pos a0]; exact go91 _ (Or.inl a0)
      · rw [if_neg a0]
        by_cases a1 : coT c (tm h A k 1) = 0
        · rw [if_pos a1]; exact go91 _ (Or.inr a1)
        · rw [if_neg a1, b117_94]
          exact fin 0 (by unfold cmb; rw [if_neg z5, if_pos z1, if_pos ⟨a0, a1⟩])
    · rw [if_neg z1]
      by_cases a0 : coT c (tm h A k 0) = coT c (tm h A k 1)
      · rw [if_pos a0, b117_111]
        exact fin _ (by unfold cmb; rw [if_neg z5, if_neg z1, if_pos a0])
      · rw [if_neg a0, ck_p (by omega) (by omega), b117_111]
        exact fin _ (by unfold cmb; rw [if_neg z5, if_neg z1, if_neg a0])
  by_cases z0 : coT c (tm h A k 0) = 0
  · rw [if_pos z0]
    by_cases z1 : coT c (tm h A k 1) = 0
    · rw [if_pos z1]
      exact ⟨1, h, rfl, Or.inr rfl, frC7_refl A h, by rw [if_pos ⟨z0, z1⟩]; exact C, fun _ => Or.inl ⟨z0, z1⟩, fun _ => rfl⟩
    · rw [if_neg z1]
      exact rest (fun w => z1 w.2)
  · rw [if_neg z0]
    exact rest (fun w => z0 w.1)
end SHR
