/-! WHAT FOLLOWS: rows that are closed under rules, and covered by any that are -/
abbrev mU : Type := Int × Int × (Int → Int) × mR × Int
def v0 : mA := fun _ => -1
theorem v0_J (ρ : mR) : Jg ρ 0 v0 := ⟨fun _ _ => rfl, fun _ => Or.inl rfl, fun s _ ⟨j, j0, j1, _⟩ => by omega⟩
/-- a code with n columns -/
def vcd (n c : Int) : Prop := (0 ≤ c ∧ c < 1000000) ∧ ∀ i, n ≤ i → 0 ≤ i → i < 3 → cv i c = 0
theorem vcd_ext {n c c' : Int} (h : vcd n c) (h' : vcd n c') (e : ∀ i, 0 ≤ i → i < n → i < 3 → cv i c = cv i c') : c = c' := by
  have key : ∀ i, 0 ≤ i → i < 3 → cv i c = cv i c' := by
    intro i i0 i1
    rcases Int.lt_or_le i n with q | q
    · exact e i i0 q i1
    · rw [h.2 i q i0 i1, h'.2 i q i0 i1]
  have k0 := key 0 (by omega) (by omega)
  have k1 := key 1 (by omega) (by omega)
  have k2 := key 2 (by omega) (by omega)
  unfold cv at k0 k1 k2
  simp at k0 k1 k2
  have := h.1
  have := h'.1
  omega
section CLO
variable (cl kd ly : Int → Int) (oc : Int → Int → Prop)
/-- how many columns tell a row's key -/
def kwd (r : Int) : Int := if kd r = 0 then cl r else cl r - 1
/-- x stands for c, and is as good -/
def cvr (r x c : Int) : Prop := (∀ i, 0 ≤ i → i < kwd cl kd r → cv i x = cv i c) ∧ (kd r = 1 → x ≤ c) ∧ (kd r = 2 → c ≤ x)
def cov (ω : mW) (r c : Int) : Prop := ∃ x, inW ω r x ∧ cvr cl kd r x c
/-- rows as they may stand: of their columns, one for a key -/
def VW (ω : mW) : Prop := ∀ r, 0 ≤ r → r < 6 → (0 ≤ ω.1 r ∧ ω.1 r ≤ 32) ∧ (∀ x, 0 ≤ x → x < ω.1 r → vcd (cl r) (ω.2 r x)) ∧ ∀ x y, 0 ≤ x → x < y → y < ω.1 r → ∃ i, 0 ≤ i ∧ i < kwd cl kd r ∧ cv i (ω.2 r x) ≠ cv i (ω.2 r y)
def DC : Prop := ∀ r, 0 ≤ r → r < 6 → (1 ≤ cl r ∧ cl r ≤ 3) ∧ (0 ≤ kd r ∧ kd r ≤ 2)
variable {cl kd ly oc}
theorem cvr_refl (r c : Int) : cvr cl kd r c c := ⟨fun _ _ _ => rfl, fun _ => Int.le_refl _, fun _ => Int.le_refl _⟩
theorem cvr_trans {r x y z : Int} (a : cvr cl kd r x y) (b : cvr cl kd r y z) : cvr cl kd r x z := ⟨fun i i0 i1 => by rw [a.1 i i0 i1, b.1 i i0 i1], fun q => Int.le_trans (a.2.1 q) (b.2.1 q), fun q => Int.le_trans (b.2.2 q) (a.2.2 q)⟩
theorem cov_in {ω : mW} {r c : Int} (h : inW ω r c) : cov cl kd ω r c := ⟨c, h, cvr_refl r c⟩
theorem VW_vcd {ω : mW} (h : VW cl kd ω) {r c : Int} (hr : 0 ≤ r ∧ r < 6) (hc : inW ω r c) : vcd (cl r) c := by
  obtain ⟨x, x0, x1, rfl⟩ := hc
  exact (h r hr.1 hr.2).2.1 x x0 x1
/-- one row for a key -/
theorem VW_key {ω : mW} (h : VW cl kd ω) {r c c' : Int} (hr : 0 ≤ r ∧ r < 6) (hc : inW ω r c) (hc' : inW ω r c') (e : ∀ i, 0 ≤ i → i < kwd cl kd r → cv i c = cv i c') : c = c' := by
  obtain ⟨x, x0, x1, rfl⟩ := hc
  obtain ⟨y, y0, y1, rfl⟩ := hc'
  rcases (show x < y ∨ x = y ∨ y < x by omega) with q | q | q
  · obtain ⟨i, i0, i1, i2⟩ := (h r hr.1 hr.2).2.2 x y x0 q y1
    exact absurd (e i i0 i1) i2
  · rw [q]
  · obtain ⟨i, i0, i1, i2⟩ := (h r hr.1 hr.2).2.2 y x y0 q x1
    exact absurd (e i i0 i1).symm i2
/-- two stores that cover each other have the same rows -/
theorem cov_anti {ω ω' : mW} (D : DC cl kd) (h : VW cl kd ω) (h' : VW cl kd ω') {r : Int} (hr : 0 ≤ r ∧ r < 6) (a : ∀ c, inW ω r c → cov cl kd ω' r c) (b : ∀ c, inW ω' r c → cov cl kd ω r c) : ∀ c, inW ω r c ↔ inW ω' r c := by
  have key : ∀ {ω ω' : mW}, VW cl kd ω → VW cl kd ω' → (∀ c, inW ω r c → cov cl kd ω' r c) → (∀ c, inW ω' r c → cov cl kd ω r c) → ∀ c, inW ω r c → inW ω' r c := by
    intro ω ω' h h' a b c hc
    obtain ⟨x, x1, x2⟩ := a c hc
    obtain ⟨y, y1, y2⟩ := b x x1
    have e : y = c := VW_key h hr y1 hc (fun i i0 i1 => by rw [y2.1 i i0 i1, x2.1 i i0 i1])
    subst e
    have ex : x = y := by
      rcases (show kd r = 0 ∨ kd r = 1 ∨ kd r = 2 by have := (D r hr.1 hr.2).2; omega) with q | q | q
      · refine vcd_ext (VW_vcd h' hr x1) (VW_vcd h hr hc) (fun i i0 i1 _ => x2.1 i i0 ?_)
        unfold kwd
        rw [if_pos q]
        exact i1
      · have := x2.2.1 q
        have := y2.2.1 q
        omega
      · have := x2.2.2 q
        have := y2.2.2 q
        omega
    rw [← ex]
    exact x1
  exact fun c => ⟨key h h' a b c, key h' h b a c⟩
variable (cl kd ly oc)
/-- near atoms -/
def nea (u : mU) (k : Int) : Prop := u.2.2.2.1.1 k = 0 ∧ u.1 = 0 ∧ (kd (u.2.2.2.1.2.1 k) = 0 ∨ oc (u.2.2.2.1.2.1 k) u.2.1)
/-- a rule (not NEVER) as rules have to be: safe, in layers, not shrinking -/
def RU (u : mU) : Prop := (0 ≤ u.1 ∧ u.1 ≤ 2) ∧ (0 ≤ u.2.1 ∧ u.2.1 < 6) ∧ (0 ≤ u.2.2.2.2 ∧ u.2.2.2.2 ≤ 4) ∧ (∀ k, 0 ≤ k → k < u.2.2.2.2 →
  ((u.2.2.2.1.1 k = 0 ∨ u.2.2.2.1.1 k = 1) ∧ (0 ≤ u.2.2.2.1.2.1 k ∧ u.2.2.2.1.2.1 k < 6) ∧ u.2.2.2.1.2.2.1 k = cl (u.2.2.2.1.2.1 k) ∧ (∀ i, 0 ≤ i → i < 3 → -1 ≤ u.2.2.2.1.2.2.2 k i ∧ u.2.2.2.1.2.2.2 k i ≤ 107) ∧ (u.2.2.2.1.1 k = 1 → ∀ i, 0 ≤ i → i < u.2.2.2.1.2.2.1 k → slot (u.2.2.2.1.2.2.2 k i) ≠ -1 → kng u.2.2.2.1 k (slot (u.2.2.2.1.2.2.2 k i))) ∧ (nea kd oc u k → ly (u.2.2.2.1.2.1 k) ≤ ly u.2.1) ∧ (¬ nea kd oc u k → ly (u.2.2.2.1.2.1 k) < ly u.2.1)) ∨
  ((u.2.2.2.1.1 k = 2 ∨ (u.2.2.2.1.1 k = 3 ∧ (100 ≤ u.2.2.2.1.2.2.2 k 2 ∧ u.2.2.2.1.2.2.2 k 2 ≤ 107) ∧ (0 ≤ u.2.2.2.1.2.1 k ∧ u.2.2.2.1.2.1 k ≤ 5) ∧ ¬ avr u.2.2.2.1 k (slot (u.2.2.2.1.2.2.2 k 2)))) ∧ ∀ i, i = 0 ∨ i = 1 → (0 ≤ u.2.2.2.1.2.2.2 k i ∧ u.2.2.2.1.2.2.2 k i ≤ 107) ∧ (slot (u.2.2.2.1.2.2.2 k i) ≠ -1 → kng u.2.2.2.1 k (slot (u.2.2.2.1.2.2.2 k i))))) ∧
  (u.1 = 0 → ∀ k, 0 ≤ k → k < u.2.2.2.2 → gud kd oc u.2.2.2.1 u.2.1 k) ∧
  (∀ i, 0 ≤ i → i < cl u.2.1 → (0 ≤ u.2.2.1 i ∧ u.2.2.1 i ≤ 107) ∧ (slot (u.2.2.1 i) ≠ -1 → kng u.2.2.2.1 u.2.2.2.2 (slot (u.2.2.1 i)))) ∧
  (u.1 = 0 → ∀ i, 0 ≤ i → i < cl u.2.1 → coT (crs kd oc u.2.2.2.1 u.2.1 u.2.2.2.2.toNat) (u.2.2.1 i) = 0 ∨ (kd u.2.1 ≠ 0 ∧ i = cl u.2.1 - 1 ∧ coT (crs kd oc u.2.2.2.1 u.2.1 u.2.2.2.2.toNat) (u.2.2.1 i) = if kd u.2.1 = 1 then -1 else 1))
variable {cl kd ly oc}
theorem RU_GW {u : mU} {ω : mW} (D : DC cl kd) (R : RU cl kd ly oc u) (V : VW cl kd ω) : GW u.2.2.2.1 ω u.2.2.2.2 := by
  obtain ⟨r1, r2, r3, r4, r5, r6, r7⟩ := R
  refine ⟨r3, fun k k0 k1 => ?_⟩
  rcases r4 k k0 k1 with ⟨s, s1, s2, s3, s4, s5, s6⟩ | ⟨s, s1⟩
  · have hd := (D _ s1.1 s1.2).1
    obtain ⟨v1, v2, v3⟩ := V _ s1.1 s1.2
    have hdst : dst (ω.2 (u.2.2.2.1.2.1 k)) (ω.1 (u.2.2.2.1.2.1 k)) (u.2.2.2.1.2.2.1 k) := by
      intro e p e0 e1 e2
      obtain ⟨i, i0, i1, i2⟩ := v3 e p e0 e1 e2
      refine ⟨i, i0, ?_, i2⟩
      rw [s2]
      unfold kwd at i1
      split at i1 <;> omega
    rcases s with s | s
    · exact Or.inl ⟨s, s1, by rw [s2]; omega, s3, v1, fun x x0 x1 => (v2 x x0 x1).1, hdst⟩
    · exact Or.inr (Or.inl ⟨s, s1, by rw [s2]; omega, s3, v1, fun x x0 x1 => (v2 x x0 x1).1, s4 s⟩)
  · refine Or.inr (Or.inr ⟨?_, s1⟩)
    rcases s with s | ⟨s, s2, -, -⟩
    · exact Or.inl s
    · exact Or.inr ⟨s, s2⟩
/-- numbers come from literals alone -/
theorem stp_EX {ρ : mR} {ω : mW} {k : Int} {v w : mA} (hk : 0 ≤ k) (hw : ρ.1 k = 0 → 0 ≤ ρ.2.2.1 k) (hs : ρ.1 k = 0 ∨ ρ.1 k = 1 ∨ ρ.1 k = 2 ∨ ρ.1 k = 3) (h : stp ρ ω k v w) (e : ∀ s, s ≠ -1 → v s ≠ -1 → avr ρ k s) : ∀ s, s ≠ -1 → w s ≠ -1 → avr ρ (k + 1) s := by
  have hup : ∀ s, avr ρ k s → avr ρ (k + 1) s := fun s ⟨j, j0, j1, j2⟩ => ⟨j, j0, by omega, j2⟩
  intro s s0 s1
  rcases h with ⟨q0, c, _, hb⟩ | ⟨_, _, rfl⟩ | ⟨_, _, rfl⟩ | ⟨n0, n1, n2, ⟨_, rfl⟩ | ⟨_, _, rfl⟩⟩
  · have key : ∀ (n : Nat) (i : Int) (v w : mA), 0 ≤ i → i + n ≤ ρ.2.2.1 k → bA (ρ.2.2.2 k) c n i v = some w → v s = -1 → w s ≠ -1 → ∃ i, 0 ≤ i ∧ i < ρ.2.2.1 k ∧ slot (ρ.2.2.2 k i) = s := by
      intro n
      induction n with
      | zero => intro i v w _ _ hb h1 h2; cases hb; exact absurd h1 h2
      | succ n ih =>
        intro i v w i0 i1 hb h1 h2
        unfold bA at hb
        cases hq : b1 v (ρ.2.2.2 k i) (cv i c) with
        | none => rw [hq] at hb; cases hb
        | some y =>
          rw [hq] at hb
          by_cases hy : y s = -1
          · exact ih (i + 1) y w (by omega) (by omega) hb hy h2
          · unfold b1 at hq
            split at hq
            · cases hq; exact absurd h1 hy
            split at hq
            · split at hq
              · cases hq; exact absurd h1 hy
              · cases hq
            split at hq
            · cases hq
              unfold upd1 at hy
              by_cases e2 : s = slot (ρ.2.2.2 k i)
              · exact ⟨i, i0, by omega, e2.symm⟩
              · rw [if_neg e2] at hy; exact absurd h1 hy
            split at hq
            · cases hq; exact absurd h1 hy
            · cases hq
    by_cases hv : v s = -1
    · have := hw q0
      exact ⟨k, hk, by omega, Or.inl (key _ 0 v w (by omega) (by omega) hb hv s1)⟩
    · exact hup s (e s s0 hv)
  · exact hup s (e s s0 s1)
  · exact hup s (e s s0 s1)
  · unfold upd1 at s1
    by_cases e2 : s = slot (ρ.2.2.2 k 2)
    · exact ⟨k, hk, by omega, Or.inr ⟨by omega, e2.symm⟩⟩
    · rw [if_neg e2] at s1
      exact hup s (e s s0 s1)
  · exact hup s (e s s0 s1)
/-- what rows make of a rule is covered by what covering rows make of it: literal by literal -/
theorem mono_lit {u : mU} {ω ω' : mW} (D : DC cl kd) (R : RU cl kd ly oc u) (hu : u.1 = 0) (V : VW cl kd ω) (V' : VW cl kd ω') {k : Int} (hk : 0 ≤ k ∧ k < u.2.2.2.2)
    (A1 : (u.2.2.2.1.1 k = 0 ∨ u.2.2.2.1.1 k = 1) → ly (u.2.2.2.1.2.1 k) < ly u.2.1 → ∀ c, inW ω (u.2.2.2.1.2.1 k) c ↔ inW ω' (u.2.2.2.1.2.1 k) c) (A2 : u.2.2.2.1.1 k = 0 → ly (u.2.2.2.1.2.1 k) ≤ ly u.2.1 → ∀ c, inW ω (u.2.2.2.1.2.1 k) c → cov cl kd ω' (u.2.2.2.1.2.1 k) c)
    {v' v w : mA} (hJ : Jg u.2.2.2.1 k v) (hJ' : Jg u.2.2.2.1 k v') (hEX : ∀ s, s ≠ -1 → v s ≠ -1 → avr u.2.2.2.1 k s) (hc : cle (crs kd oc u.2.2.2.1 u.2.1 k.toNat) v' v) (hst : stp u.2.2.2.1 ω k v w) :
    ∃ w', stp u.2.2.2.1 ω' k v' w' ∧ cle (crs kd oc u.2.2.2.1 u.2.1 (k + 1).toNat) w' w := by
  obtain ⟨r1, r2, r3, r4, r5, r6, r7⟩ := R
  rw [show (k + 1).toNat = k.toNat + 1 by omega]
  rcases r4 k hk.1 hk.2 with ⟨s, s1, s2, s3, s4, s5, s6⟩ | ⟨s, s1⟩
  · have hd := D _ s1.1 s1.2
    refine mono_step hk.1 (r5 hu k hk.1 hk.2) (fun _ => by rw [s2]; omega) (fun _ => by rw [s2]; omega) (by omega) (fun q1 q2 c hci => ?_) (fun q1 c hci => ?_) (fun q c hci => ?_) hEX (fun q => by omega) hc hst
    · refine ⟨(VW_vcd V s1 hci).1.1, ?_⟩
      by_cases hn : nea kd oc u k
      · have hp : kd (u.2.2.2.1.2.1 k) = 0 := by
          rcases hn.2.2 with z | z
          · exact z
          · by_cases y : kd (u.2.2.2.1.2.1 k) = 0
            · exact y
            · exact absurd ⟨q1, y, z⟩ q2
        obtain ⟨x, x1, x2⟩ := A2 q1 (s5 hn) c hci
        have : x = c := by
          refine vcd_ext (VW_vcd V' s1 x1) (VW_vcd V s1 hci) (fun i i0 i1 _ => x2.1 i i0 ?_)
          unfold kwd
          rw [if_pos hp]
          exact i1
        rw [← this]; exact x1
      · exact (A1 (Or.inl q1) (s6 hn) c).mp hci
    · refine ⟨(VW_vcd V' s1 hci).1.1, ?_⟩
      exact (A1 (Or.inr q1) (s6 (fun z => by have := z.1; omega)) c).mpr hci
    · obtain ⟨q1, q2, q3⟩ := q
      obtain ⟨x, x1, x2⟩ := A2 q1 (s5 ⟨q1, hu, Or.inr q3⟩) c hci
      have vc := VW_vcd V s1 hci
      have vx := VW_vcd V' s1 x1
      have hkw : kwd cl kd (u.2.2.2.1.2.1 k) = cl (u.2.2.2.1.2.1 k) - 1 := by unfold kwd; rw [if_neg q2]
      have hx2 := x2.1
      rw [hkw] at hx2
      rw [s2]
      have hlast : ∀ {a b : Int}, vcd (cl (u.2.2.2.1.2.1 k)) a → vcd (cl (u.2.2.2.1.2.1 k)) b → (∀ i, 0 ≤ i → i < cl (u.2.2.2.1.2.1 k) - 1 → cv i a = cv i b) → a ≤ b → cv (cl (u.2.2.2.1.2.1 k) - 1) a ≤ cv (cl (u.2.2.2.1.2.1 k) - 1) b := by
        intro a b ha hb he hab
        have a0 := ha.1
        have b0 := hb.1
        rcases (show cl (u.2.2.2.1.2.1 k) = 1 ∨ cl (u.2.2.2.1.2.1 k) = 2 ∨ cl (u.2.2.2.1.2.1 k) = 3 by omega) with z | z | z
        · rw [z]
          show cv 0 a ≤ cv 0 b
          unfold cv
          simp
          omega
        · rw [z] at ha hb he ⊢
          have e0 := he 0 (by omega) (by omega)
          have c1 := ha.2 2 (by omega) (by omega) (by omega)
          have c2 := hb.2 2 (by omega) (by omega) (by omega)
          show cv 1 a ≤ cv 1 b
          unfold cv at e0 c1 c2 ⊢
          simp at e0 c1 c2 ⊢
          omega
        · rw [z] at ha hb he ⊢
          have e0 := he 0 (by omega) (by omega)
          have e1 := he 1 (by omega) (by omega)
          show cv 2 a ≤ cv 2 b
          unfold cv at e0 e1 ⊢
          simp at e0 e1 ⊢
          omega
      exact ⟨x, x1, vc.1.1, vx.1.1, hx2, fun z => hlast vx vc hx2 (x2.2.1 z), fun z => hlast vc vx (fun i i0 i1 => (hx2 i i0 i1).symm) (x2.2.2 (by omega))⟩
  · have hk1 : ∀ i, i = 0 ∨ i = 1 → 0 ≤ tv v (u.2.2.2.1.2.2.2 k i) ∧ 0 ≤ tv v' (u.2.2.2.1.2.2.2 k i) := fun i hi => ⟨(tv_g hJ (s1 i hi).1 (s1 i hi).2).1, (tv_g hJ' (s1 i hi).1 (s1 i hi).2).1⟩
    refine mono_step hk.1 (r5 hu k hk.1 hk.2) (fun q => by omega) (fun q => by have := q.1; omega) (by omega) (fun q => by omega) (fun q => by omega) (fun q => by have := q.1; omega) hEX (fun q => ?_) hc hst
    rcases s with s | ⟨s, s2, s3, s4⟩
    · omega
    · refine ⟨?_, s3, (hk1 0 (Or.inl rfl)).1, (hk1 0 (Or.inl rfl)).2, (hk1 1 (Or.inr rfl)).1, (hk1 1 (Or.inr rfl)).2⟩
      by_cases z : v (slot (u.2.2.2.1.2.2.2 k 2)) = -1
      · exact z
      · have := slot_v s2
        exact absurd (hEX _ (by omega) z) s4
end CLO
