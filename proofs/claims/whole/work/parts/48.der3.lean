/-! BINDINGS that the derivation comes to -/
section DS3
variable {A P : Nat} {h0 : dm_H} {oc : Int → Int → Prop} {ft : Int → Int → Prop} {RL : mU → Prop} {s N rd na : Int}
variable (A P h0 oc ft RL N) in
/-- what has been bound, is bound over any rows that could be, or as good -/
def PS (L k : Int) (v : mA) : Prop := ∀ Dm ω', cnd P h0 ft RL Dm ω' L → Dm (gi h0 A 2) → ∃ v', (∀ w, w ∈ bnd (cR h0 A) ω' (N - k).toNat k v' → w ∈ bnds (uR h0 A) ω') ∧ Jg (cR h0 A) k v' ∧ cle (crs (gi h0 4) oc (cR h0 A) (gi h0 A 2) k.toNat) v' v
def EX (ρ : mR) (k : Int) (v : mA) : Prop := ∀ s, s ≠ -1 → v s ≠ -1 → avr ρ k s
theorem DW_sub (W : DW A P h0 oc RL s N rd) {k : Int} (k0 : 0 ≤ k) (k1 : k < N) (q : gi h0 (A + 2) k = 0 ∨ gi h0 (A + 2) k = 1) : (0 ≤ gi h0 (A + 3) k ∧ gi h0 (A + 3) k < 6) ∧ (0 ≤ gi h0 (A + 4) k ∧ gi h0 (A + 4) k ≤ 3) ∧ gi h0 7 (gi h0 (A + 3) k) ≤ gi h0 7 (gi h0 A 2) ∧ (gi h0 (A + 2) k = 1 → gi h0 7 (gi h0 (A + 3) k) < gi h0 7 (gi h0 A 2)) := by
  obtain ⟨w1, w2, w3, w4, w5, w6, w7, w8, w9, w10, w11, w12⟩ := W
  rcases w3.2.2.2.1 k k0 (by show k < gi h0 A 4; omega) with ⟨s0, s1, s2, s3, s4, s5, s6⟩ | ⟨z, _⟩
  · have s1 : 0 ≤ gi h0 (A + 3) k ∧ gi h0 (A + 3) k < 6 := s1
    have s2 : gi h0 (A + 4) k = cK h0 (gi h0 (A + 3) k) := s2
    have D := (RK_D w2 _ s1.1 s1.2).1
    refine ⟨s1, by omega, ?_, fun z => s6 (fun y => by have y : gi h0 (A + 2) k = 0 := y.1; omega)⟩
    by_cases y : nea (gi h0 4) oc (uR h0 A) k
    · exact s5 y
    · have := s6 y
      exact Int.le_of_lt this
  · have z : gi h0 (A + 2) k = 2 ∨ (gi h0 (A + 2) k = 3 ∧ _) := z
    omega
theorem DW_s3 (W : DW A P h0 oc RL s N rd) {k : Int} (k0 : 0 ≤ k) (k1 : k < N) : (gi h0 (A + 2) k = 3 → slot (tm h0 A k 2) ≠ -1) ∧ (gi h0 (A + 2) k = 0 ∨ gi h0 (A + 2) k = 1 ∨ gi h0 (A + 2) k = 2 ∨ gi h0 (A + 2) k = 3) := by
  have := W.1.2.2.2.2 k k0 k1
  refine ⟨fun q => ?_, ?_⟩
  · rcases this with z | z | z
    · omega
    · omega
    · exact z.2.1
  · rcases this with z | z | z <;> omega
theorem PS_step (W : DW A P h0 oc RL s N rd) {h : dm_H} {k : Int} {v w : mA} (k0 : 0 ≤ k) (k1 : k < N) (I : inv P h0 ft RL s (gi h0 7 (gi h0 A 2)) h) (hp : PS A P h0 oc ft RL N (gi h0 7 (gi h0 A 2)) k v) (he : EX (cR h0 A) k v) (hJ : Jg (cR h0 A) k v) (hst : stp (cR h0 A) (cW h P) k v w) :
    PS A P h0 oc ft RL N (gi h0 7 (gi h0 A 2)) (k + 1) w ∧ EX (cR h0 A) (k + 1) w := by
  have W0 := W
  obtain ⟨w1, w2, w3, w4, w5, w6, w7, w8, w9, w10, w11, w12⟩ := W0
  obtain ⟨i1, i2, i3, i4, i5, i6, i7, i8⟩ := I
  have D := RK_D w2
  have hw0 : (cR h0 A).1 k = 0 → 0 ≤ (cR h0 A).2.2.1 k := fun q => (DW_sub W k0 k1 (Or.inl q)).2.1.1
  have kN : k < (uR h0 A).2.2.2.2 := by show k < gi h0 A 4; omega
  constructor
  · intro Dm ω' cn hD
    obtain ⟨v', p1, p2, p3⟩ := hp Dm ω' cn hD
    obtain ⟨c1, c2, c3, c4⟩ := cn
    have hdw := c1 _ w5 hD k k0 kN
    have hlow : ∀ r, 0 ≤ r → r < 6 → Dm r → gi h0 7 r < gi h0 7 (gi h0 A 2) → ∀ c, inW (cW h P) r c ↔ inW ω' r c := by
      intro r r0 r1 q l c
      rw [← c3 r r0 r1 q l c]
      obtain ⟨e1, e2⟩ := i6 r r0 r1 (by omega)
      unfold inW
      show (∃ x, 0 ≤ x ∧ x < rsz h P r ∧ rws h P r x = c) ↔ (∃ x, 0 ≤ x ∧ x < rsz h0 P r ∧ rws h0 P r x = c)
      rw [e1]
      constructor
      · rintro ⟨x, x0, x1, x2⟩; exact ⟨x, x0, x1, by rw [← e2]; exact x2⟩
      · rintro ⟨x, x0, x1, x2⟩; exact ⟨x, x0, x1, by rw [e2]; exact x2⟩
    obtain ⟨w', y1, y2⟩ := mono_lit (u := uR h0 A) D w3 w4 i2 c2 ⟨k0, kN⟩ (fun q l => by
      have z := DW_sub W k0 k1 q
      exact hlow _ z.1.1 z.1.2 (hdw q) l) (fun q l c hc => by
      have z := DW_sub W k0 k1 (Or.inl q)
      by_cases y : gi h0 7 (gi h0 (A + 3) k) < gi h0 7 (gi h0 A 2)
      · exact cov_in ((hlow _ z.1.1 z.1.2 (hdw (Or.inl q)) y c).mp hc)
      · exact i5 Dm ω' ⟨c1, c2, c3, c4⟩ _ z.1.1 z.1.2 (hdw (Or.inl q)) (by have := z.2.2.1; omega) c hc) hJ p2 he p3 hst
    have hm : w' ∈ opt (cR h0 A) ω' k v' := (mem_opt hw0).mpr y1
    have G' := RU_GW D w3 c2
    refine ⟨w', fun x hx => p1 x ?_, (opt_J G' ⟨k0, kN⟩ p2 hm).1, y2⟩
    rw [show (N - k).toNat = (N - (k + 1)).toNat + 1 by omega]
    exact List.mem_flatMap.mpr ⟨w', hm, hx⟩
  · refine stp_EX k0 hw0 ?_ hst he
    exact (DW_s3 W k0 k1).2
/-- what literal k makes of v by the rows that it may see -/
def vst (A P : Nat) (h0 h : dm_H) (k : Int) (v w : mA) : Prop := (gi h0 (A + 2) k = 0 ∧ ∃ x, 0 ≤ x ∧ x < rsz h P (gi h0 (A + 3) k) ∧ vis h P k (gi h0 (A + 3) k) x ∧ bA (tm h0 A k) (rws h P (gi h0 (A + 3) k) x) (gi h0 (A + 4) k).toNat 0 v = some w) ∨ (gi h0 (A + 2) k ≠ 0 ∧ stp (cR h0 A) (cW h P) k v w)
def vb (A P : Nat) (h0 h : dm_H) : Nat → Int → mA → mA → Prop
  | 0, _, v, w => w = v
  | n + 1, k, v, w => ∃ x, vst A P h0 h k v x ∧ vb A P h0 h n (k + 1) x w
theorem vst_lev {h : dm_H} {k : Int} {v w : mA} (hn : nv v) (hs : gi h0 (A + 2) k = 3 → slot (tm h0 A k 2) ≠ -1) (h3 : gi h0 (A + 2) k = 0 ∨ gi h0 (A + 2) k = 1 ∨ gi h0 (A + 2) k = 2 ∨ gi h0 (A + 2) k = 3) (e : vst A P h0 h k v w) : nv w ∧ lev v w := by
  rcases e with ⟨_, x, _, _, _, hb⟩ | ⟨q, ⟨z, _⟩ | ⟨_, _, rfl⟩ | ⟨_, _, rfl⟩ | ⟨z0, z1, z2, ⟨z4, rfl⟩ | ⟨_, _, rfl⟩⟩⟩
  · exact bA_nv hn hb
  · exact absurd z q
  · exact ⟨hn, lev_refl _⟩
  · exact ⟨hn, lev_refl _⟩
  · have z0 : gi h0 (A + 2) k ≠ 0 := z0
    have z1 : gi h0 (A + 2) k ≠ 1 := z1
    have z2 : gi h0 (A + 2) k ≠ 2 := z2
    exact ⟨nv_upd hn (slotne (hs (by omega))), lev_upd z4⟩
  · exact ⟨hn, lev_refl _⟩
theorem vb_lev (W : DW A P h0 oc RL s N rd) {h : dm_H} : ∀ (n : Nat) (k : Int) (v w : mA), 0 ≤ k → k + n = N → nv v → vb A P h0 h n k v w → lev v w := by
  intro n
  induction n with
  | zero => intro k v w _ _ _ e; rw [show w = v from e]; exact lev_refl v
  | succ n ih =>
    rintro k v w k0 kN hn ⟨x, e1, e2⟩
    obtain ⟨a1, a2⟩ := DW_s3 W k0 (show k < N by omega)
    obtain ⟨b1, b2⟩ := vst_lev hn a1 a2 e1
    exact lev_trans b2 (ih (k + 1) x w (by omega) (by omega) b1 e2)
/-- later less is old -/
theorem vst_mono (W : DW A P h0 oc RL s N rd) {h h' : dm_H} (I : inv P h0 ft RL s (gi h0 7 (gi h0 A 2)) h) (I' : inv P h0 ft RL s (gi h0 7 (gi h0 A 2)) h') (g : gro (cK h0) (gi h0 4) P s h h') (h9 : gi h 137 9 = rd ∧ gi h' 137 9 = rd ∧ gi h' 137 10 = gi h 137 10) {k : Int} (k0 : 0 ≤ k) (k1 : k < N) {v w : mA} (e : vst A P h0 h' k v w) : vst A P h0 h k v w := by
  rcases e with ⟨q, x, x0, x1, x2, hb⟩ | ⟨q, e⟩
  · have z := DW_sub W k0 k1 (Or.inl q)
    have hrd := W.2.2.2.2.2.2.2.2.2.1.2.2.2
    obtain ⟨g1, g2, g3, g4⟩ := g _ z.1.1 z.1.2
    have hns : rst h' P (gi h0 (A + 3) k) x ≠ s := by
      have := x2.2
      unfold wHi at this
      rw [h9.2.1] at this
      split at this <;> omega
    have hlt : x < rsz h P (gi h0 (A + 3) k) := by
      rcases Int.lt_or_le x (rsz h P (gi h0 (A + 3) k)) with y | y
      · exact y
      · exact absurd (g3 x x0 y x1) hns
    rcases g2 x x0 hlt with ⟨y1, y2⟩ | ⟨y1, _⟩
    · refine Or.inl ⟨q, x, x0, hlt, ?_, by rw [← y1]; exact hb⟩
      unfold vis wLo wHi at x2 ⊢
      rw [y2, h9.2.1, h9.2.2] at x2
      rw [h9.1]
      exact x2
    · exact absurd y1 hns
  · refine Or.inr ⟨q, stp_cg (fun y c => ?_) e⟩
    have y1 : gi h0 (A + 2) k = 1 := by rcases y with y | y; exact absurd y q; exact y
    have z := DW_sub W k0 k1 (Or.inr y1)
    obtain ⟨a1, a2⟩ := I.2.2.2.2.2.1 _ z.1.1 z.1.2 (by have := z.2.2.2 y1; omega)
    obtain ⟨b1, b2⟩ := I'.2.2.2.2.2.1 _ z.1.1 z.1.2 (by have := z.2.2.2 y1; omega)
    unfold inW
    show (∃ x, 0 ≤ x ∧ x < rsz h' P (gi h0 (A + 3) k) ∧ rws h' P (gi h0 (A + 3) k) x = c) ↔ (∃ x, 0 ≤ x ∧ x < rsz h P (gi h0 (A + 3) k) ∧ rws h P (gi h0 (A + 3) k) x = c)
    rw [a1, b1]
    constructor
    · rintro ⟨x, x0, x1, x2⟩; exact ⟨x, x0, x1, by rw [a2, ← b2]; exact x2⟩
    · rintro ⟨x, x0, x1, x2⟩; exact ⟨x, x0, x1, by rw [b2, ← a2]; exact x2⟩
theorem vb_mono (W : DW A P h0 oc RL s N rd) {h h' : dm_H} (I : inv P h0 ft RL s (gi h0 7 (gi h0 A 2)) h) (I' : inv P h0 ft RL s (gi h0 7 (gi h0 A 2)) h') (g : gro (cK h0) (gi h0 4) P s h h') (h9 : gi h 137 9 = rd ∧ gi h' 137 9 = rd ∧ gi h' 137 10 = gi h 137 10) : ∀ (n : Nat) (k : Int) (v w : mA), 0 ≤ k → k + n = N → vb A P h0 h' n k v w → vb A P h0 h n k v w := by
  intro n
  induction n with
  | zero => intro k v w _ _ e; exact e
  | succ n ih =>
    rintro k v w k0 kN ⟨x, e1, e2⟩
    exact ⟨x, vst_mono W I I' g h9 k0 (by omega) e1, ih (k + 1) x w (by omega) (by omega) e2⟩
end DS3
