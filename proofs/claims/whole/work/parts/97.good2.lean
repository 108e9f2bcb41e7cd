/-! RULES THAT ARE GOOD, on -/
section GD2
variable {cl kd : Int → Int} {oc oc' : Int → Int → Prop} {u : mU}
theorem gud_less (hoc : ∀ r q, oc' r q → oc r q) (hw : ∀ j : Int, 0 ≤ j → j < u.2.2.2.2 → u.2.2.2.1.1 j = 0 → 1 ≤ u.2.2.2.1.2.2.1 j) (hg : ∀ j : Int, 0 ≤ j → j < u.2.2.2.2 → gud kd oc u.2.2.2.1 u.2.1 j) (hn : ∀ j : Int, 0 ≤ j → j < u.2.2.2.2 → u.2.2.2.1.1 j = 3 → ¬ avr u.2.2.2.1 j (slot (u.2.2.2.1.2.2.2 j 2))) {k : Int} (k0 : 0 ≤ k) (k1 : k < u.2.2.2.2) : gud kd oc' u.2.2.2.1 u.2.1 k := by
  have G := hg k k0 k1
  have cl0 := crs_less (kd := kd) (ρ := u.2.2.2.1) (hdr := u.2.1) hoc hw hg hn k.toNat (by omega)
  have t := fun x => crs_less.coT_less cl0 x
  have tz : ∀ x, coT (crs kd oc u.2.2.2.1 u.2.1 k.toNat) x = 0 → coT (crs kd oc' u.2.2.2.1 u.2.1 k.toNat) x = 0 := fun x hx => by
    rcases t x with y | y
    · exact y
    · rw [y, hx]
  refine ⟨fun g' => ?_, fun ha g' i i0 i1 => ?_, fun h2 => ?_, fun h3 => ?_⟩
  · obtain ⟨a1, a2⟩ := G.1 ⟨g'.1, g'.2.1, hoc _ _ g'.2.2⟩
    exact ⟨fun i i0 i1 => tz _ (a1 i i0 i1), a2⟩
  · by_cases g : grw kd oc u.2.2.2.1 u.2.1 k
    · obtain ⟨a1, a2, a3⟩ := G.1 g
      by_cases e : i = u.2.2.2.1.2.2.1 k - 1
      · rw [e]
        unfold coT
        by_cases y : slot (u.2.2.2.1.2.2.2 k (u.2.2.2.1.2.2.1 k - 1)) = -1
        · rw [if_pos y]
        · rw [if_neg y]
          have z0 := crs_avr (kd := kd) (oc := oc') (ρ := u.2.2.2.1) (hdr := u.2.1) k.toNat (slot (u.2.2.2.1.2.2.2 k (u.2.2.2.1.2.2.1 k - 1))) (fun j j0 j1 => hw j j0 (by omega))
          rw [show (k.toNat : Int) = k by omega] at z0
          by_cases v : crs kd oc' u.2.2.2.1 u.2.1 k.toNat (slot (u.2.2.2.1.2.2.2 k (u.2.2.2.1.2.2.1 k - 1))) = 0
          · exact v
          · exact absurd (z0 v) (a3 y).1
      · exact tz _ (a1 i i0 (by omega))
    · exact tz _ (G.2.1 ha g i i0 i1)
  · have r1 := t (u.2.2.2.1.2.2.2 k 0)
    have r2 := t (u.2.2.2.1.2.2.2 k 1)
    have := G.2.2.1 h2
    omega
  · have r1 := t (u.2.2.2.1.2.2.2 k 0)
    have r2 := t (u.2.2.2.1.2.2.2 k 1)
    have q := G.2.2.2 h3
    have c1 := coT_r (c := crs kd oc u.2.2.2.1 u.2.1 k.toNat) (crs_r k.toNat) (u.2.2.2.1.2.2.2 k 0)
    have c2 := coT_r (c := crs kd oc u.2.2.2.1 u.2.1 k.toNat) (crs_r k.toNat) (u.2.2.2.1.2.2.2 k 1)
    generalize coT (crs kd oc' u.2.2.2.1 u.2.1 k.toNat) (u.2.2.2.1.2.2.2 k 0) = x' at r1 ⊢
    generalize coT (crs kd oc' u.2.2.2.1 u.2.1 k.toNat) (u.2.2.2.1.2.2.2 k 1) = y' at r2 ⊢
    generalize coT (crs kd oc u.2.2.2.1 u.2.1 k.toNat) (u.2.2.2.1.2.2.2 k 0) = x at r1 q c1 ⊢
    generalize coT (crs kd oc u.2.2.2.1 u.2.1 k.toNat) (u.2.2.2.1.2.2.2 k 1) = y at r2 q c2 ⊢
    generalize u.2.2.2.1.2.1 k = w at q ⊢
    unfold cmb at q ⊢
    rcases c1 with rfl | rfl | rfl <;> rcases c2 with rfl | rfl | rfl <;> rcases r1 with rfl | rfl <;> rcases r2 with rfl | rfl <;> simp at q ⊢ <;> omega
theorem NSH_less (hoc : ∀ r q, oc' r q → oc r q) (hw : ∀ j : Int, 0 ≤ j → j < u.2.2.2.2 → u.2.2.2.1.1 j = 0 → 1 ≤ u.2.2.2.1.2.2.1 j) (hN : 0 ≤ u.2.2.2.2) (hn : ∀ j : Int, 0 ≤ j → j < u.2.2.2.2 → u.2.2.2.1.1 j = 3 → ¬ avr u.2.2.2.1 j (slot (u.2.2.2.1.2.2.2 j 2))) {cols : Int} (h : NSH kd oc u cols) : NSH kd oc' u cols := by
  refine ⟨fun k k0 k1 => gud_less hoc hw h.1 hn k0 k1, fun i i0 i1 => ?_⟩
  have cl0 := crs_less (kd := kd) (ρ := u.2.2.2.1) (hdr := u.2.1) hoc hw h.1 hn u.2.2.2.2.toNat (by omega)
  have t := crs_less.coT_less cl0 (u.2.2.1 i)
  have q := h.2 i i0 i1
  rcases t with y | y
  · exact Or.inl y
  · rw [y]; exact q
theorem LYL_less (hoc : ∀ r q, oc' r q → oc r q) (h : LYL oc' u) : LYL oc u := by
  obtain ⟨k, a, b, c, d, e⟩ := h
  exact ⟨k, a, b, c, d, hoc _ _ e⟩
/-- what one rule (not NEVER) is, by itself -/
def G1 (cl : Int → Int) (n : Int) (u : mU) : Prop := (0 ≤ u.1 ∧ u.1 ≤ 2) ∧ (0 ≤ u.2.1 ∧ u.2.1 < n) ∧ RGD cl n u ∧ SAFE u.2.2.2.1 u.2.2.2.2 u.1 (cl u.2.1) u.2.2.1 ∧ ∀ i, 0 ≤ i → i < cl u.2.1 → 0 ≤ u.2.2.1 i ∧ u.2.2.1 i ≤ 107
/-- what one is among others -/
def G2 (cl kd : Int → Int) (oc : Int → Int → Prop) (u : mU) : Prop := ¬ LYL oc u ∧ (u.1 = 0 → NSH kd oc u (cl u.2.1))
def GOOD (cl kd : Int → Int) (n : Int) (RL : mU → Prop) : Prop := ∀ u, RL u → G1 cl n u ∧ G2 cl kd (ocL RL) u
theorem G1_nav {n : Int} (g : G1 cl n u) : ∀ j : Int, 0 ≤ j → j < u.2.2.2.2 → u.2.2.2.1.1 j = 3 → ¬ avr u.2.2.2.1 j (slot (u.2.2.2.1.2.2.2 j 2)) := by
  obtain ⟨_, _, ⟨_, _, hL, hS⟩, _⟩ := g
  intro j j0 j1 h3 z
  have hv : 100 ≤ u.2.2.2.1.2.2.2 j 2 ∧ u.2.2.2.1.2.2.2 j 2 ≤ 107 := by
    rcases hL j j0 j1 with q | q | q
    · omega
    · omega
    · exact q.2.2.2.2
  have sv := slot_v hv
  exact (hS j j0 j1 (by omega)).2 h3 (avr_kng (fun i i0 i1 => hS i i0 (by omega)) (by omega) z)
theorem GOOD_less {n : Int} {RL RL' : mU → Prop} (s : ∀ u, RL' u → RL u) (g : GOOD cl kd n RL) : GOOD cl kd n RL' := by
  intro u hu
  obtain ⟨g1, g2, g3⟩ := g u (s u hu)
  have hL := g1.2.2.1.2.2.1
  exact ⟨g1, fun z => g2 (LYL_less (fun r q => ocL_mono s) z), fun z => NSH_less (fun r q => ocL_mono s) (fun j j0 j1 _ => (LSH_w (hL j j0 j1)).1) g1.2.2.1.1.2.1.1 (G1_nav g1) (g3 z)⟩
theorem GOOD_cg {n : Int} {RL RL' : mU → Prop} (s : ∀ u, RL' u ↔ RL u) (g : GOOD cl kd n RL) : GOOD cl kd n RL' := GOOD_less (fun u => (s u).mp) g
theorem RU_of {n : Int} (hn : n ≤ 6) {RL : mU → Prop} {ly : Int → Int} (g : GOOD cl kd n RL) (l : lyS kd (ocL RL) RL ly) : ∀ u, RL u → RU cl kd ly (ocL RL) u := by
  intro u hu
  obtain ⟨g1, g2, g3⟩ := g u hu
  obtain ⟨a1, a2, ⟨a3, a4, a5, a6⟩, a7, a8⟩ := g1
  refine ⟨a1, by omega, a3.2.1, fun k k0 k1 => ?_, fun h0 k k0 k1 => (g3 h0).1 k k0 k1, fun i i0 i1 => ⟨a8 i i0 i1, a7.2.2 i i0 i1⟩, fun h0 => (g3 h0).2⟩
  have L := l.2 u hu k k0 k1
  have hs := a6 k k0 k1
  rcases a5 k k0 k1 with ⟨b1, b2, b3, b4, b5, b6⟩ | ⟨b1, b2, b3, b4, b5⟩ | ⟨b1, b2, b3, b4, b5⟩
  · refine Or.inl ⟨b1, by omega, b3, b5, fun h1 i i0 i1 hi => (hs (by omega)).1 _ hi ⟨i, i0, i1, rfl⟩, fun hne => ?_, fun hne => ?_⟩
    · have := (wgk_r kd (ocL RL) u k).1
      have := L b1
      omega
    · have e : wgk kd (ocL RL) u k = 1 := by unfold wgk; rw [if_neg hne]
      have := L b1
      omega
  · refine Or.inr ⟨Or.inl b1, fun i hi => ⟨b4 i (by omega) (by omega), fun z => (hs (by omega)).1 _ z ⟨i, by omega, by omega, rfl⟩⟩⟩
  · refine Or.inr ⟨Or.inr ⟨b1, b5, b2, ?_⟩, fun i hi => ⟨b4 i (by omega) (by omega), fun z => (hs (by omega)).1 _ z ⟨i, by omega, by omega, rfl⟩⟩⟩
    exact G1_nav ⟨a1, a2, ⟨a3, a4, a5, a6⟩, a7, a8⟩ k k0 k1 b1
/-- three atoms at most: the bindings are not too many -/
theorem abf_le {ρ : mR} {N : Int} (hN : 0 ≤ N ∧ N ≤ 4) (h : N = 4 → ∃ k, 0 ≤ k ∧ k < 4 ∧ ρ.1 k ≠ 0) : abf ρ N.toNat 0 ≤ 999999 := by
  rcases (show N = 0 ∨ N = 1 ∨ N = 2 ∨ N = 3 ∨ N = 4 by omega) with rfl | rfl | rfl | rfl | rfl
  · show (1 : Int) ≤ 999999; omega
  · show (if ρ.1 0 = 0 then 32 else 1) * (1 : Int) ≤ 999999
    split <;> omega
  · show (if ρ.1 0 = 0 then 32 else 1) * ((if ρ.1 (0 + 1) = 0 then 32 else 1) * (1 : Int)) ≤ 999999
    repeat' split
    all_goals omega
  · show (if ρ.1 0 = 0 then 32 else 1) * ((if ρ.1 (0 + 1) = 0 then 32 else 1) * ((if ρ.1 (0 + 1 + 1) = 0 then 32 else 1) * (1 : Int))) ≤ 999999
    repeat' split
    all_goals omega
  · obtain ⟨k, k0, k1, k2⟩ := h rfl
    have : k = 0 ∨ k = 0 + 1 ∨ k = 0 + 1 + 1 ∨ k = 0 + 1 + 1 + 1 := by omega
    show (if ρ.1 0 = 0 then 32 else 1) * ((if ρ.1 (0 + 1) = 0 then 32 else 1) * ((if ρ.1 (0 + 1 + 1) = 0 then 32 else 1) * ((if ρ.1 (0 + 1 + 1 + 1) = 0 then 32 else 1) * (1 : Int)))) ≤ 999999
    rcases this with rfl | rfl | rfl | rfl
    all_goals
      rw [if_neg k2]
      repeat' split
      all_goals omega
end GD2
