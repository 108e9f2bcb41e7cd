/-! WHAT FOLLOWS is one thing -/
theorem hcd_cv {t : Int → Int} {v : mA} {n : Int} (hn : 0 ≤ n ∧ n ≤ 3) (h : ∀ j, 0 ≤ j → j < n → 0 ≤ tv v (t j) ∧ tv v (t j) ≤ 99) : (∀ i, 0 ≤ i → i < n → cv i (hcd t v n.toNat 0 0) = tv v (t i)) ∧ vcd n (hcd t v n.toNat 0 0) := by
  have e : hcd t v n.toNat 0 0 = (if 0 < n then 10000 * tv v (t 0) else 0) + (if 1 < n then 100 * tv v (t 1) else 0) + (if 2 < n then tv v (t 2) else 0) := by
    rcases (show n = 0 ∨ n = 1 ∨ n = 2 ∨ n = 3 by omega) with rfl | rfl | rfl | rfl
    · rfl
    · show 0 + dm_unit 0 * tv v (t 0) = _
      rw [dm_unit0]
      simp
    · show 0 + dm_unit 0 * tv v (t 0) + dm_unit (0 + 1) * tv v (t (0 + 1)) = _
      rw [show (0 : Int) + 1 = 1 from rfl, dm_unit0, dm_unit1]
      simp
    · show 0 + dm_unit 0 * tv v (t 0) + dm_unit (0 + 1) * tv v (t (0 + 1)) + dm_unit (0 + 1 + 1) * tv v (t (0 + 1 + 1)) = _
      rw [show (0 : Int) + 1 = 1 from rfl, show (1 : Int) + 1 = 2 from rfl, dm_unit0, dm_unit1, dm_unit2]
      simp
  have h0 := h 0 (by omega)
  have h1 := h 1 (by omega)
  have h2 := h 2 (by omega)
  rw [e]
  have key : ∀ (a b c : Int), (0 < n → 0 ≤ a ∧ a ≤ 99) → (1 < n → 0 ≤ b ∧ b ≤ 99) → (2 < n → 0 ≤ c ∧ c ≤ 99) → (0 ≤ (if 0 < n then 10000 * a else 0) + (if 1 < n then 100 * b else 0) + (if 2 < n then c else 0) ∧ (if 0 < n then 10000 * a else 0) + (if 1 < n then 100 * b else 0) + (if 2 < n then c else 0) < 1000000) ∧ (cv 0 ((if 0 < n then 10000 * a else 0) + (if 1 < n then 100 * b else 0) + (if 2 < n then c else 0)) = if 0 < n then a else 0) ∧ (cv 1 ((if 0 < n then 10000 * a else 0) + (if 1 < n then 100 * b else 0) + (if 2 < n then c else 0)) = if 1 < n then b else 0) ∧ (cv 2 ((if 0 < n then 10000 * a else 0) + (if 1 < n then 100 * b else 0) + (if 2 < n then c else 0)) = if 2 < n then c else 0) := by
    intro a b c ha hb hc
    unfold cv
    rcases (show n = 0 ∨ n = 1 ∨ n = 2 ∨ n = 3 by omega) with rfl | rfl | rfl | rfl <;> simp at ha hb hc ⊢ <;> omega
  obtain ⟨K1, K2, K3, K4⟩ := key _ _ _ h0 h1 h2
  refine ⟨fun i i0 i1 => ?_, K1, fun i i0 i1 i2 => ?_⟩
  · rcases (show i = 0 ∨ i = 1 ∨ i = 2 by omega) with q | q | q <;> rw [q]
    · rw [K2, if_pos (by omega)]
    · rw [K3, if_pos (by omega)]
    · rw [K4, if_pos (by omega)]
  · rcases (show i = 0 ∨ i = 1 ∨ i = 2 by omega) with q | q | q <;> rw [q]
    · rw [K2, if_neg (by omega)]
    · rw [K3, if_neg (by omega)]
    · rw [K4, if_neg (by omega)]
section CLO2
variable {cl kd ly : Int → Int} {oc : Int → Int → Prop}
theorem mono_bnd {u : mU} {ω ω' : mW} {Dm : Int → Prop} (D : DC cl kd) (R : RU cl kd ly oc u) (hu : u.1 = 0) (V : VW cl kd ω) (V' : VW cl kd ω') (HD : ∀ k, 0 ≤ k → k < u.2.2.2.2 → (u.2.2.2.1.1 k = 0 ∨ u.2.2.2.1.1 k = 1) → Dm (u.2.2.2.1.2.1 k))
    (A1 : ∀ r, 0 ≤ r → r < 6 → Dm r → ly r < ly u.2.1 → ∀ c, inW ω r c ↔ inW ω' r c) (A2 : ∀ r, 0 ≤ r → r < 6 → Dm r → ly r ≤ ly u.2.1 → ∀ c, inW ω r c → cov cl kd ω' r c) : ∀ (n : Nat) (k : Int) (v' v w : mA), 0 ≤ k → k + n = u.2.2.2.2 → Jg u.2.2.2.1 k v → Jg u.2.2.2.1 k v' → (∀ s, s ≠ -1 → v s ≠ -1 → avr u.2.2.2.1 k s) → cle (crs kd oc u.2.2.2.1 u.2.1 k.toNat) v' v → w ∈ bnd u.2.2.2.1 ω n k v →
      ∃ w', w' ∈ bnd u.2.2.2.1 ω' n k v' ∧ cle (crs kd oc u.2.2.2.1 u.2.1 u.2.2.2.2.toNat) w' w ∧ Jg u.2.2.2.1 u.2.2.2.2 w ∧ Jg u.2.2.2.1 u.2.2.2.2 w' := by
  have G := RU_GW D R V
  have G' := RU_GW D R V'
  have hsub : ∀ k, 0 ≤ k → k < u.2.2.2.2 → (u.2.2.2.1.1 k = 0 ∨ u.2.2.2.1.1 k = 1) → (0 ≤ u.2.2.2.1.2.1 k ∧ u.2.2.2.1.2.1 k < 6) ∧ 0 ≤ u.2.2.2.1.2.2.1 k := by
    intro k k0 k1 hs
    rcases R.2.2.2.1 k k0 k1 with ⟨_, q, q2, _⟩ | ⟨q, _⟩
    · exact ⟨q, by rw [q2]; have := (D _ q.1 q.2).1; omega⟩
    · omega
  have hsort : ∀ k, 0 ≤ k → k < u.2.2.2.2 → u.2.2.2.1.1 k = 0 ∨ u.2.2.2.1.1 k = 1 ∨ u.2.2.2.1.1 k = 2 ∨ u.2.2.2.1.1 k = 3 := by
    intro k k0 k1
    rcases R.2.2.2.1 k k0 k1 with ⟨q, _⟩ | ⟨q, _⟩ <;> omega
  intro n
  induction n with
  | zero =>
    intro k v' v w k0 kN hJ hJ' hEX hc hw
    have hw := List.mem_singleton.mp (show w ∈ [v] from hw)
    subst hw
    have e : k = u.2.2.2.2 := by omega
    refine ⟨v', List.mem_singleton.mpr rfl, ?_, ?_, ?_⟩
    · rw [← e]; exact hc
    · rw [← e]; exact hJ
    · rw [← e]; exact hJ'
  | succ n ih =>
    intro k v' v w k0 kN hJ hJ' hEX hc hw
    have hk : 0 ≤ k ∧ k < u.2.2.2.2 := ⟨k0, by omega⟩
    obtain ⟨x, hx, hwx⟩ := List.mem_flatMap.mp (show w ∈ (opt u.2.2.2.1 ω k v).flatMap (fun w => bnd u.2.2.2.1 ω n (k + 1) w) from hw)
    have hw0 : u.2.2.2.1.1 k = 0 → 0 ≤ u.2.2.2.1.2.2.1 k := fun q => (hsub k k0 hk.2 (Or.inl q)).2
    have hst := (mem_opt hw0).mp hx
    obtain ⟨x', hx', hcx⟩ := mono_lit D R hu V V' hk (fun q => A1 _ (hsub k k0 hk.2 q).1.1 (hsub k k0 hk.2 q).1.2 (HD k k0 hk.2 q)) (fun q => A2 _ (hsub k k0 hk.2 (Or.inl q)).1.1 (hsub k k0 hk.2 (Or.inl q)).1.2 (HD k k0 hk.2 (Or.inl q))) hJ hJ' hEX hc hst
    have hm' := (mem_opt (ω := ω') hw0).mpr hx'
    obtain ⟨w', y1, y2⟩ := ih (k + 1) x' x w (by omega) (by omega) (opt_J G hk hJ hx).1 (opt_J G' hk hJ' hm').1 (stp_EX k0 hw0 (hsort k k0 hk.2) hst hEX) hcx hwx
    exact ⟨w', List.mem_flatMap.mpr ⟨x', hm', y1⟩, y2⟩
end CLO2
