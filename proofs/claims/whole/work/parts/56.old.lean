/-! WHICH ROUND a binding comes in -/
/-- bindings by rows whose stamps Q allows -/
def vbq (A P : Nat) (h : dm_H) (Q : Int → Int → Prop) : Nat → Int → mA → mA → Prop
  | 0, _, v, w => w = v
  | n + 1, k, v, w => ∃ x, ((gi h (A + 2) k = 0 ∧ ∃ p, 0 ≤ p ∧ p < rsz h P (gi h (A + 3) k) ∧ Q k (rst h P (gi h (A + 3) k) p) ∧ bA (tm h A k) (rws h P (gi h (A + 3) k) p) (gi h (A + 4) k).toNat 0 v = some x) ∨ (gi h (A + 2) k ≠ 0 ∧ stp (cR h A) (cW h P) k v x)) ∧ vbq A P h Q n (k + 1) x w
theorem vbq_imp {A P : Nat} {h : dm_H} {Q Q' : Int → Int → Prop} : ∀ {n : Nat} {k : Int} {v w : mA}, (∀ j t, k ≤ j → j < k + n → gi h (A + 2) j = 0 → Q j t → Q' j t) → vbq A P h Q n k v w → vbq A P h Q' n k v w
  | 0, _, _, _, _, e => e
  | n + 1, k, v, w, hq, ⟨x, e1, e2⟩ => by
    refine ⟨x, ?_, vbq_imp (fun j t j0 j1 z => hq j t (by omega) (by omega) z) e2⟩
    rcases e1 with ⟨a, p, p0, p1, p2, p3⟩ | e1
    · exact Or.inl ⟨a, p, p0, p1, hq k _ (by omega) (by omega) a p2, p3⟩
    · exact Or.inr e1
/-- the stamps of a binding's rows -/
theorem vbq_of {A P : Nat} {h : dm_H} {R : Int} {N : Int} (hw : ∀ k, 0 ≤ k → k < N → gi h (A + 2) k = 0 → 0 ≤ gi h (A + 4) k) (hr : ∀ k, 0 ≤ k → k < N → gi h (A + 2) k = 0 → ∀ x, 0 ≤ x → x < rsz h P (gi h (A + 3) k) → 0 ≤ rst h P (gi h (A + 3) k) x ∧ rst h P (gi h (A + 3) k) x ≤ R) : ∀ (n : Nat) (k : Int) (v w : mA), 0 ≤ k → k + n = N → w ∈ bnd (cR h A) (cW h P) n k v → ∃ s : Int → Int, vbq A P h (fun j t => t = s j ∧ 0 ≤ t ∧ t ≤ R) n k v w := by
  intro n
  induction n with
  | zero => intro k v w _ _ hw; exact ⟨fun _ => 0, List.mem_singleton.mp (show w ∈ [v] from hw)⟩
  | succ n ih =>
    intro k v w k0 kN hm
    obtain ⟨x, hx, hwx⟩ := List.mem_flatMap.mp (show w ∈ (opt (cR h A) (cW h P) k v).flatMap (fun w => bnd (cR h A) (cW h P) n (k + 1) w) from hm)
    obtain ⟨s, hs⟩ := ih (k + 1) x w (by omega) (by omega) hwx
    have hst := (mem_opt (hw k k0 (by omega))).mp hx
    by_cases q : gi h (A + 2) k = 0
    · rcases hst with ⟨_, c, ⟨p, p0, p1, rfl⟩, hb⟩ | ⟨z, _⟩ | ⟨z, _⟩ | ⟨z, _⟩
      · have hrr := hr k k0 (by omega) q p p0 p1
        refine ⟨fun j => if j = k then rst h P (gi h (A + 3) k) p else s j, x, Or.inl ⟨q, p, p0, p1, ⟨(if_pos rfl).symm, hrr⟩, hb⟩, ?_⟩
        refine vbq_imp (fun j t j0 j1 z y => ⟨?_, y.2⟩) hs
        show t = if j = k then _ else s j
        rw [if_neg (by omega)]
        exact y.1
      · have z : gi h (A + 2) k = 1 := z; omega
      · have z : gi h (A + 2) k = 2 := z; omega
      · exact absurd q z
    · exact ⟨s, x, Or.inr ⟨q, hst⟩, hs⟩
/-- the round, and the first of its rows -/
theorem first_of (p : Int → Prop) (s : Int → Int) : ∀ (n : Nat), (∀ k : Int, 0 ≤ k → k < n → p k → 0 ≤ s k) → (∀ k : Int, 0 ≤ k → k < n → p k → s k = 0) ∨ ∃ r na : Int, 0 < r ∧ (0 ≤ na ∧ na < n) ∧ p na ∧ s na = r ∧ (∀ k : Int, 0 ≤ k → k < na → p k → s k < r) ∧ ∀ k : Int, 0 ≤ k → k < n → p k → s k ≤ r
  | 0, _ => Or.inl (fun k k0 k1 => by omega)
  | n + 1, h => by
    by_cases q : p n
    · have hn := h n (by omega) (by omega) q
      rcases first_of p s n (fun k k0 k1 => h k k0 (by omega)) with z | ⟨r, na, z1, z2, z3, z4, z5, z6⟩
      · by_cases y : s n = 0
        · left
          intro k k0 k1 hk
          by_cases e : k = n
          · rw [e]; exact y
          · exact z k k0 (by omega) hk
        · right
          refine ⟨s n, n, by omega, by omega, q, rfl, fun k k0 k1 hk => by rw [z k k0 k1 hk]; omega, fun k k0 k1 hk => ?_⟩
          by_cases e : k = n
          · rw [e]; exact Int.le_refl _
          · rw [z k k0 (by omega) hk]; omega
      · right
        by_cases y : r < s n
        · refine ⟨s n, n, by omega, by omega, q, rfl, fun k k0 k1 hk => by have := z6 k k0 k1 hk; omega, fun k k0 k1 hk => ?_⟩
          by_cases e : k = n
          · rw [e]; exact Int.le_refl _
          · have := z6 k k0 (by omega) hk; omega
        · refine ⟨r, na, z1, by omega, z3, z4, z5, fun k k0 k1 hk => ?_⟩
          by_cases e : k = n
          · rw [e]; omega
          · exact z6 k k0 (by omega) hk
    · rcases first_of p s n (fun k k0 k1 => h k k0 (by omega)) with z | ⟨r, na, z1, z2, z3, z4, z5, z6⟩
      · left
        intro k k0 k1 hk
        by_cases e : k = n
        · rw [e] at hk; exact absurd hk q
        · exact z k k0 (by omega) hk
      · right
        refine ⟨r, na, z1, by omega, z3, z4, z5, fun k k0 k1 hk => ?_⟩
        by_cases e : k = n
        · rw [e] at hk; exact absurd hk q
        · exact z6 k k0 (by omega) hk
/-- what round r with the new row at na may see -/
def Qr (r na k t : Int) : Prop := (if k = na then r else 0) ≤ t ∧ t ≤ (if k < na then r - 1 else r)
theorem round_of {A P : Nat} {h : dm_H} {R : Int} {N : Int} (hN : 0 ≤ N) (hw : ∀ k, 0 ≤ k → k < N → gi h (A + 2) k = 0 → 0 ≤ gi h (A + 4) k) (hr : ∀ k, 0 ≤ k → k < N → gi h (A + 2) k = 0 → ∀ x, 0 ≤ x → x < rsz h P (gi h (A + 3) k) → 0 ≤ rst h P (gi h (A + 3) k) x ∧ rst h P (gi h (A + 3) k) x ≤ R) (R0 : 0 ≤ R) {v w : mA} (hm : w ∈ bnd (cR h A) (cW h P) N.toNat 0 v) :
    vbq A P h (Qr 0 (-1)) N.toNat 0 v w ∨ ∃ r na : Int, (0 < r ∧ r ≤ R) ∧ (0 ≤ na ∧ na < N) ∧ gi h (A + 2) na = 0 ∧ (∃ x, 0 ≤ x ∧ x < rsz h P (gi h (A + 3) na) ∧ rst h P (gi h (A + 3) na) x = r) ∧ vbq A P h (Qr r na) N.toNat 0 v w := by
  obtain ⟨s, hs⟩ := vbq_of hw hr N.toNat 0 v w (by omega) (by omega) hm
  -- the stamps that there are
  have hex : ∀ (n : Nat) (k : Int) (v w : mA), vbq A P h (fun j t => t = s j ∧ 0 ≤ t ∧ t ≤ R) n k v w → ∀ j, k ≤ j → j < k + n → gi h (A + 2) j = 0 → (0 ≤ s j ∧ s j ≤ R) ∧ ∃ x, 0 ≤ x ∧ x < rsz h P (gi h (A + 3) j) ∧ rst h P (gi h (A + 3) j) x = s j := by
    intro n
    induction n with
    | zero => intro k v w _ j j0 j1; omega
    | succ n ih =>
      rintro k v w ⟨x, e1, e2⟩ j j0 j1 hj
      by_cases e : j = k
      · rcases e1 with ⟨a, p, p0, p1, p2, p3⟩ | ⟨a, _⟩
        · have y1 := p2.1
          have y2 := p2.2
          rw [e]
          exact ⟨by omega, p, p0, p1, y1⟩
        · rw [e] at hj; exact absurd hj a
      · exact ih (k + 1) x w e2 j (by omega) (by omega) hj
  have hx := hex N.toNat 0 v w hs
  rcases first_of (fun k => gi h (A + 2) k = 0) s N.toNat (fun k k0 k1 hk => (hx k k0 (by omega) hk).1.1) with z | ⟨r, na, z1, z2, z3, z4, z5, z6⟩
  · left
    refine vbq_imp (fun j t j0 j1 hj y => ?_) hs
    have e := z j j0 (by omega) hj
    have y1 := y.1
    unfold Qr
    rw [if_neg (by omega), if_neg (by omega)]
    omega
  · right
    have hna := hx na z2.1 (by omega) z3
    refine ⟨r, na, ⟨z1, by omega⟩, ⟨z2.1, by omega⟩, z3, ?_, vbq_imp (fun j t j0 j1 hj y => ?_) hs⟩
    · rw [← z4]; exact hna.2
    · have y1 := y.1
      have y2 := y.2
      have e6 := z6 j j0 (by omega) hj
      unfold Qr
      by_cases e : j = na
      · rw [if_pos e, if_neg (by omega)]
        rw [e, z4] at y1
        omega
      · rw [if_neg e]
        by_cases e2 : j < na
        · have := z5 j j0 e2 hj
          rw [if_pos e2]; omega
        · rw [if_neg e2]; omega
/-- what the joiner sees is that -/
theorem vb_vbq {A P : Nat} {h0 h : dm_H} {rd na : Int} (e : ∀ j, j ≤ 6 → ∀ i, gi h (A + j) i = gi h0 (A + j) i) (h9 : gi h 137 9 = rd) (h10 : gi h 137 10 = na) : ∀ (n : Nat) (k : Int) (v w : mA), vbq A P h (Qr rd na) n k v w → vb A P h0 h n k v w := by
  have ec : cR h A = cR h0 A := by
    unfold cR
    rw [show gi h (A + 2) = gi h0 (A + 2) from funext (e 2 (by omega)), show gi h (A + 3) = gi h0 (A + 3) from funext (e 3 (by omega)), show gi h (A + 4) = gi h0 (A + 4) from funext (e 4 (by omega)), show (fun k => tm h A k) = (fun k => tm h0 A k) from funext (fun k => funext (fun i => e 5 (by omega) _))]
  intro n
  induction n with
  | zero => intro k v w hh; exact hh
  | succ n ih =>
    rintro k v w ⟨x, e1, e2⟩
    refine ⟨x, ?_, ih (k + 1) x w e2⟩
    unfold vst
    rw [e 2 (by omega), e 3 (by omega), e 4 (by omega), ec] at e1
    rcases e1 with ⟨a, p, p0, p1, p2, p3⟩ | e1
    · refine Or.inl ⟨a, p, p0, p1, ?_, ?_⟩
      · unfold vis wLo wHi
        rw [h9, h10]
        exact p2
      · rw [show tm h0 A k = tm h A k from funext (fun i => (e 5 (by omega) _).symm)]
        exact p3
    · exact Or.inr e1
