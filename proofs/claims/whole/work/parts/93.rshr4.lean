/-! SHRINKING: the reference, its whole -/
section RS4
variable {h : dm_H} {cl kd : Int → Int} {u : mU} {p : Int}
theorem avr_kng {ρ : mR} {k s : Int} (h : ∀ j, 0 ≤ j → j < k → SAFL ρ j) (hs : s ≠ -1) (a : avr ρ k s) : kng ρ k s := by
  obtain ⟨j, j0, j1, j2⟩ := a
  by_cases z : ρ.1 j = 0
  · rcases j2 with y | y
    · exact ⟨j, j0, j1, Or.inl ⟨z, y⟩⟩
    · exact ⟨j, j0, j1, Or.inr y⟩
  · rcases j2 with y | y
    · exact kng_le (by omega) ((h j j0 j1 z).1 s hs y)
    · exact ⟨j, j0, j1, Or.inr y⟩
theorem vrs_2 {ρ : mR} {k s : Int} (w : ρ.2.2.1 k = 2) : vrs ρ k s ↔ slot (ρ.2.2.2 k 0) = s ∨ slot (ρ.2.2.2 k 1) = s := by
  constructor
  · rintro ⟨i, i0, i1, i2⟩
    rw [w] at i1
    rcases (show i = 0 ∨ i = 1 by omega) with e | e
    · rw [e] at i2; exact Or.inl i2
    · rw [e] at i2; exact Or.inr i2
  · rintro (z | z)
    · exact ⟨0, by omega, by omega, z⟩
    · exact ⟨1, by omega, by omega, z⟩
theorem lit_cmp {d : Nat} (hd : 5 ≤ d) (V : UR cl kd u p h) (hu : HSu u) {n : Int} (hL : ∀ k, 0 ≤ k → k < u.2.2.2.2 → LSH cl n u.2.2.2.1 k) {oc : Int → Int → Prop} {k : Int} (k0 : 0 ≤ k) (k1 : k < u.2.2.2.2) (ha : u.2.2.2.1.1 k = 2) {is F R hd_ : Int} (S : SI kd oc u k is F R hd_) (w9 w10 w11 w12 w13 w14 : Option dm_V) :
    ∃ is' F' R' hd' w9' w10' w11' w12' w13' w14', dL (d - 1) 235 51 [lR 1 11 165, lI p, lI F, lI R, lI hd_, lI is, lI k, lI (lq h p k 3), lI (lq h p k 4), w9, w10, w11, w12, w13, w14] [dI 0] h = dL (d - 1) 235 869 [lR 1 11 165, lI p, lI F', lI R', lI hd', lI is', lI k, lI (lq h p k 3), lI (lq h p k 4), w9', w10', w11', w12', w13', w14'] [] h ∧ SI kd oc u (k + 1) is' F' R' hd' := by
  obtain ⟨l1, l2, l3, l4, l5⟩ := UR_lit V k0 k1
  obtain ⟨m1, m2, m3⟩ := UR_trm V k0 k1
  have hp := V.1
  have hN := hu.2.1
  have q0 := l3.mpr ha
  have es := l5 (by omega)
  have L := hL k k0 k1
  obtain ⟨hs, hw, ht, -⟩ : (0 ≤ u.2.2.2.1.2.1 k ∧ u.2.2.2.1.2.1 k ≤ 3) ∧ u.2.2.2.1.2.2.1 k = 2 ∧ (∀ i, 0 ≤ i → i < 2 → 0 ≤ u.2.2.2.1.2.2.2 k i ∧ u.2.2.2.1.2.2.2 k i ≤ 107) ∧ u.2.2.2.1.2.2.2 k 2 = 0 := by
    rcases L with q | q | q
    · omega
    · exact q.2
    · omega
  have ea : lq h p k 3 = u.2.2.2.1.2.2.2 k 0 := m1 0 (by omega) (by omega) (by omega)
  have eb : lq h p k 4 = u.2.2.2.1.2.2.2 k 1 := m1 1 (by omega) (by omega) (by omega)
  have ta := ht 0 (by omega) (by omega)
  have tb := ht 1 (by omega) (by omega)
  rw [ea, eb]
  have hgud : gud kd oc u.2.2.2.1 u.2.1 k ↔ (coT (crs kd oc u.2.2.2.1 u.2.1 k.toNat) (u.2.2.2.1.2.2.2 k 0) = 0 ∧ coT (crs kd oc u.2.2.2.1 u.2.1 k.toNat) (u.2.2.2.1.2.2.2 k 1) = 0) ∨ ((u.2.2.2.1.2.1 k = 2 ∨ u.2.2.2.1.2.1 k = 3) ∧ ((coT (crs kd oc u.2.2.2.1 u.2.1 k.toNat) (u.2.2.2.1.2.2.2 k 0) = -1 ∧ coT (crs kd oc u.2.2.2.1 u.2.1 k.toNat) (u.2.2.2.1.2.2.2 k 1) = 0) ∨ (coT (crs kd oc u.2.2.2.1 u.2.1 k.toNat) (u.2.2.2.1.2.2.2 k 0) = 0 ∧ coT (crs kd oc u.2.2.2.1 u.2.1 k.toNat) (u.2.2.2.1.2.2.2 k 1) = 1))) := by
    constructor
    · intro g
      exact g.2.2.1 ha
    · intro g
      exact ⟨fun z => by have := z.1; omega, fun z => by omega, fun _ => g, fun z => by omega⟩
  have go : ∀ (le : Int) w9, dL (d - 1) 235 357 [lR 1 11 165, lI p, lI F, lI R, lI hd_, lI is, lI k, lI (u.2.2.2.1.2.2.2 k 0), lI (u.2.2.2.1.2.2.2 k 1), w9, w10, w11, w12, w13, w14] [dI le] h = dL (d - 1) 235 869 [lR 1 11 165, lI p, lI F, lI R, lI (dm_or (dm_or hd_ (bitO (u.2.2.2.1.2.2.2 k 0))) (bitO (u.2.2.2.1.2.2.2 k 1))), lI (cis F R (u.2.2.2.1.2.2.2 k 0) (u.2.2.2.1.2.2.2 k 1) le is), lI k, lI (u.2.2.2.1.2.2.2 k 0), lI (u.2.2.2.1.2.2.2 k 1), lI le, lI (cfst F R (u.2.2.2.1.2.2.2 k 0) (u.2.2.2.1.2.2.2 k 1) le), lI (csnd F R (u.2.2.2.1.2.2.2 k 0) (u.2.2.2.1.2.2.2 k 1) le), w12, w13, w14] [] h := by
    intro le w9
    rw [b235_357, s181 (by omega) p k 0 h hp (by omega) (by omega), bk_v, b235_367, q0, if_pos rfl, s237 (by omega) _ _ h (by omega), bk_v, c_all (by omega) (by omega) (by omega), t_had (by omega) (by omega) (by omega)]
  have key : ∀ le : Int, (le = 0 ∨ le = 1) → (le = 1 ↔ u.2.2.2.1.2.1 k = 2 ∨ u.2.2.2.1.2.1 k = 3) → SI kd oc u (k + 1) (cis F R (u.2.2.2.1.2.2.2 k 0) (u.2.2.2.1.2.2.2 k 1) le is) F R (dm_or (dm_or hd_ (bitO (u.2.2.2.1.2.2.2 k 0))) (bitO (u.2.2.2.1.2.2.2 k 1))) := by
    intro le le01 hle
    rcases S.1 with i0 | i1
    · obtain ⟨s1, s2, s3, s4⟩ := S.2.1 i0
      have c1 := isn_c s2 s3 (crs_r k.toNat) (show u.2.2.2.1.2.2.2 k 0 ≤ 107 by omega)
      have c2 := isn_c s2 s3 (crs_r k.toNat) (show u.2.2.2.1.2.2.2 k 1 ≤ 107 by omega)
      have r1 := coT_r (c := crs kd oc u.2.2.2.1 u.2.1 k.toNat) (crs_r k.toNat) (u.2.2.2.1.2.2.2 k 0)
      have r2 := coT_r (c := crs kd oc u.2.2.2.1 u.2.1 k.toNat) (crs_r k.toNat) (u.2.2.2.1.2.2.2 k 1)
      have ec := crs_atom (kd := kd) (oc := oc) (ρ := u.2.2.2.1) (hdr := u.2.1) k0 (fun z => by have := z.1; omega) (by omega)
      have hi : (cis F R (u.2.2.2.1.2.2.2 k 0) (u.2.2.2.1.2.2.2 k 1) le is = 0 ∨ cis F R (u.2.2.2.1.2.2.2 k 0) (u.2.2.2.1.2.2.2 k 1) le is = 1) ∧ (cis F R (u.2.2.2.1.2.2.2 k 0) (u.2.2.2.1.2.2.2 k 1) le is = 0 ↔ gud kd oc u.2.2.2.1 u.2.1 k) := by
        rw [hgud]
        unfold cis cfst csnd
        rw [c1.1, c1.2.2, c2.2.1, c2.2.2, if_pos i0]
        generalize coT (crs kd oc u.2.2.2.1 u.2.1 k.toNat) (u.2.2.2.1.2.2.2 k 0) = x at r1 ⊢
        generalize coT (crs kd oc u.2.2.2.1 u.2.1 k.toNat) (u.2.2.2.1.2.2.2 k 1) = y at r2 ⊢
        rcases r1 with rfl | rfl | rfl <;> rcases r2 with rfl | rfl | rfl <;> rcases le01 with rfl | rfl <;> simp <;> omega
      refine ⟨hi.1, fun q => ⟨?_, by rw [ec]; exact s2, by rw [ec]; exact s3, ?_⟩, fun q => ⟨k, k0, k1, fun g => by have := hi.2.mpr g; omega⟩⟩
      · intro l l0 l1
        by_cases e : l = k
        · rw [e]; exact hi.2.mp q
        · exact s1 l l0 (by omega)
      · refine bst_or (bst_or s4 (bst_b (u.2.2.2.1.2.2.2 k 0)) (fun s _ _ => Iff.rfl)) (bst_b (u.2.2.2.1.2.2.2 k 1)) (fun s _ _ => ?_)
        rw [avr_s k0, vrs_2 hw]
        constructor
        · rintro (y | (y | y) | y)
          · exact Or.inl (Or.inl y)
          · exact Or.inl (Or.inr y)
          · exact Or.inr y
          · omega
        · rintro ((y | y) | y)
          · exact Or.inl y
          · exact Or.inr (Or.inl (Or.inl y))
          · exact Or.inr (Or.inl (Or.inr y))
    · refine SI_bad S i1 ?_
      unfold cis
      rw [if_neg (by omega)]
  rw [b235_51, if_pos rfl, s181 (by omega) p k 0 h hp (by omega) (by omega), bk_v, b235_336, q0, if_pos rfl, s181 (by omega) p k 2 h hp (by omega) (by omega), bk_v, b235_348, es]
  by_cases z : u.2.2.2.1.2.1 k < 2
  · rw [if_pos z, b235_356, go]
    exact ⟨_, _, _, _, _, _, _, _, _, _, rfl, key 0 (Or.inl rfl) (by omega)⟩
  · rw [if_neg z, go]
    exact ⟨_, _, _, _, _, _, _, _, _, _, rfl, key 1 (Or.inr rfl) (by omega)⟩
theorem lit_rck {d : Nat} (hd : 5 ≤ d) (V : UR cl kd u p h) (hu : HSu u) {n : Int} (hL : ∀ k, 0 ≤ k → k < u.2.2.2.2 → LSH cl n u.2.2.2.1 k) (hS : ∀ k, 0 ≤ k → k < u.2.2.2.2 → SAFL u.2.2.2.1 k) {oc : Int → Int → Prop} {k : Int} (k0 : 0 ≤ k) (k1 : k < u.2.2.2.2) (ha : u.2.2.2.1.1 k = 3) {is F R hd_ : Int} (S : SI kd oc u k is F R hd_) (w9 w10 w11 w12 w13 w14 : Option dm_V) :
    ∃ is' F' R' hd' w9' w10' w11' w12' w13' w14', dL (d - 1) 235 51 [lR 1 11 165, lI p, lI F, lI R, lI hd_, lI is, lI k, lI (lq h p k 3), lI (lq h p k 4), w9, w10, w11, w12, w13, w14] [dI 0] h = dL (d - 1) 235 869 [lR 1 11 165, lI p, lI F', lI R', lI hd', lI is', lI k, lI (lq h p k 3), lI (lq h p k 4), w9', w10', w11', w12', w13', w14'] [] h ∧ SI kd oc u (k + 1) is' F' R' hd' := by
  obtain ⟨l1, l2, l3, l4, l5⟩ := UR_lit V k0 k1
  obtain ⟨m1, m2, m3⟩ := UR_trm V k0 k1
  have hp := V.1
  have hN := hu.2.1
  have q0 := l4.mpr ha
  have es := l5 (by omega)
  have L := hL k k0 k1
  obtain ⟨hs, hw, ht, hv⟩ : (0 ≤ u.2.2.2.1.2.1 k ∧ u.2.2.2.1.2.1 k ≤ 5) ∧ u.2.2.2.1.2.2.1 k = 2 ∧ (∀ i, 0 ≤ i → i < 2 → 0 ≤ u.2.2.2.1.2.2.2 k i ∧ u.2.2.2.1.2.2.2 k i ≤ 107) ∧ 100 ≤ u.2.2.2.1.2.2.2 k 2 ∧ u.2.2.2.1.2.2.2 k 2 ≤ 107 := by
    rcases L with q | q | q
    · omega
    · omega
    · exact q.2
  have ea : lq h p k 3 = u.2.2.2.1.2.2.2 k 0 := m1 0 (by omega) (by omega) (by omega)
  have eb : lq h p k 4 = u.2.2.2.1.2.2.2 k 1 := m1 1 (by omega) (by omega) (by omega)
  have ev := m2 ha
  have ta := ht 0 (by omega) (by omega)
  have tb := ht 1 (by omega) (by omega)
  have sv := slot_v hv
  have hwd : ∀ j : Int, 0 ≤ j → j < k.toNat → u.2.2.2.1.1 j = 0 → 1 ≤ u.2.2.2.1.2.2.1 j := fun j j0 j1 _ => (LSH_w (hL j j0 (by omega))).1
  have hnav : ¬ avr u.2.2.2.1 k (slot (u.2.2.2.1.2.2.2 k 2)) := fun z => (hS k k0 k1 (by omega)).2 ha (avr_kng (fun j j0 j1 => hS j j0 (by omega)) (by omega) z)
  have c0 : crs kd oc u.2.2.2.1 u.2.1 k.toNat (slot (u.2.2.2.1.2.2.2 k 2)) = 0 := by
    by_cases w : crs kd oc u.2.2.2.1 u.2.1 k.toNat (slot (u.2.2.2.1.2.2.2 k 2)) = 0
    · exact w
    · have := crs_avr k.toNat _ hwd w
      rw [show (k.toNat : Int) = k by omega] at this
      exact absurd this hnav
  rw [ea, eb]
  have hgud : gud kd oc u.2.2.2.1 u.2.1 k ↔ (coT (crs kd oc u.2.2.2.1 u.2.1 k.toNat) (u.2.2.2.1.2.2.2 k 0) = 0 ∧ coT (crs kd oc u.2.2.2.1 u.2.1 k.toNat) (u.2.2.2.1.2.2.2 k 1) = 0) ∨ cmb (u.2.2.2.1.2.1 k) (coT (crs kd oc u.2.2.2.1 u.2.1 k.toNat) (u.2.2.2.1.2.2.2 k 0)) (coT (crs kd oc u.2.2.2.1 u.2.1 k.toNat) (u.2.2.2.1.2.2.2 k 1)) ≠ 0 := by
    constructor
    · intro g
      exact g.2.2.2 ha
    · intro g
      exact ⟨fun z => by have := z.1; omega, fun z => by omega, fun z => by omega, fun _ => g⟩
  have go : ∀ (mi ot x10 : Int), dL (d - 1) 235 521 [lR 1 11 165, lI p, lI F, lI R, lI hd_, lI is, lI k, lI (u.2.2.2.1.2.2.2 k 0), lI (u.2.2.2.1.2.2.2 k 1), lI 0, lI x10, lI mi, w12, w13, w14] [dI ot] h = dL (d - 1) 235 869 [lR 1 11 165, lI p, lI (dm_or F (if rfall F R (u.2.2.2.1.2.2.2 k 0) (u.2.2.2.1.2.2.2 k 1) mi ot = 0 then 0 else bitO (u.2.2.2.1.2.2.2 k 2))), lI (dm_or R (if rrise F R (u.2.2.2.1.2.2.2 k 0) (u.2.2.2.1.2.2.2 k 1) mi ot = 0 then 0 else bitO (u.2.2.2.1.2.2.2 k 2))), lI (dm_or (dm_or (dm_or hd_ (bitO (u.2.2.2.1.2.2.2 k 2))) (bitO (u.2.2.2.1.2.2.2 k 0))) (bitO (u.2.2.2.1.2.2.2 k 1))), lI (ris F R (u.2.2.2.1.2.2.2 k 0) (u.2.2.2.1.2.2.2 k 1) (rfall F R (u.2.2.2.1.2.2.2 k 0) (u.2.2.2.1.2.2.2 k 1) mi ot) (rrise F R (u.2.2.2.1.2.2.2 k 0) (u.2.2.2.1.2.2.2 k 1) mi ot) is), lI k, lI (u.2.2.2.1.2.2.2 k 0), lI (u.2.2.2.1.2.2.2 k 1), lI 0, lI x10, lI mi, lI ot, lI (rfall F R (u.2.2.2.1.2.2.2 k 0) (u.2.2.2.1.2.2.2 k 1) mi ot), lI (rrise F R (u.2.2.2.1.2.2.2 k 0) (u.2.2.2.1.2.2.2 k 1) mi ot)] [] h := by
    intro mi ot x10
    rw [r_fall (by omega) (by omega) (by omega), r_rise (by omega) (by omega) (by omega), r_is (by omega) (by omega) (by omega), r_sets (by omega) hp (by omega) _ ev hv, t_had (by omega) (by omega) (by omega)]
  have key : ∀ mi ot : Int, (mi = 0 ∨ mi = 1) → (ot = 0 ∨ ot = 1) → (mi = 1 ↔ u.2.2.2.1.2.1 k = 1) → (ot = 1 ↔ u.2.2.2.1.2.1 k = 1 ∨ u.2.2.2.1.2.1 k = 5) → SI kd oc u (k + 1) (ris F R (u.2.2.2.1.2.2.2 k 0) (u.2.2.2.1.2.2.2 k 1) (rfall F R (u.2.2.2.1.2.2.2 k 0) (u.2.2.2.1.2.2.2 k 1) mi ot) (rrise F R (u.2.2.2.1.2.2.2 k 0) (u.2.2.2.1.2.2.2 k 1) mi ot) is) (dm_or F (if rfall F R (u.2.2.2.1.2.2.2 k 0) (u.2.2.2.1.2.2.2 k 1) mi ot = 0 then 0 else bitO (u.2.2.2.1.2.2.2 k 2))) (dm_or R (if rrise F R (u.2.2.2.1.2.2.2 k 0) (u.2.2.2.1.2.2.2 k 1) mi ot = 0 then 0 else bitO (u.2.2.2.1.2.2.2 k 2))) (dm_or (dm_or (dm_or hd_ (bitO (u.2.2.2.1.2.2.2 k 2))) (bitO (u.2.2.2.1.2.2.2 k 0))) (bitO (u.2.2.2.1.2.2.2 k 1))) := by
    intro mi ot mi01 ot01 hmi hot
    rcases S.1 with i0 | i1
    · obtain ⟨s1, s2, s3, s4⟩ := S.2.1 i0
      have c1 := isn_c s2 s3 (crs_r k.toNat) (show u.2.2.2.1.2.2.2 k 0 ≤ 107 by omega)
      have c2 := isn_c s2 s3 (crs_r k.toNat) (show u.2.2.2.1.2.2.2 k 1 ≤ 107 by omega)
      have r1 := coT_r (c := crs kd oc u.2.2.2.1 u.2.1 k.toNat) (crs_r k.toNat) (u.2.2.2.1.2.2.2 k 0)
      have r2 := coT_r (c := crs kd oc u.2.2.2.1 u.2.1 k.toNat) (crs_r k.toNat) (u.2.2.2.1.2.2.2 k 1)
      have ec := crs_rck (kd := kd) (oc := oc) (ρ := u.2.2.2.1) (hdr := u.2.1) k0 ha
      have hf : (rfall F R (u.2.2.2.1.2.2.2 k 0) (u.2.2.2.1.2.2.2 k 1) mi ot = 0 ∨ rfall F R (u.2.2.2.1.2.2.2 k 0) (u.2.2.2.1.2.2.2 k 1) mi ot = 1) ∧ (rfall F R (u.2.2.2.1.2.2.2 k 0) (u.2.2.2.1.2.2.2 k 1) mi ot = 1 ↔ cmb (u.2.2.2.1.2.1 k) (coT (crs kd oc u.2.2.2.1 u.2.1 k.toNat) (u.2.2.2.1.2.2.2 k 0)) (coT (crs kd oc u.2.2.2.1 u.2.1 k.toNat) (u.2.2.2.1.2.2.2 k 1)) = -1) := by
        unfold rfall cmb
        rw [c1.1, c1.2.1, c1.2.2, c2.1, c2.2.1, c2.2.2]
        generalize coT (crs kd oc u.2.2.2.1 u.2.1 k.toNat) (u.2.2.2.1.2.2.2 k 0) = x at r1 ⊢
        generalize coT (crs kd oc u.2.2.2.1 u.2.1 k.toNat) (u.2.2.2.1.2.2.2 k 1) = y at r2 ⊢
        generalize u.2.2.2.1.2.1 k = w at hmi hot ⊢
        rcases r1 with rfl | rfl | rfl <;> rcases r2 with rfl | rfl | rfl <;> rcases mi01 with rfl | rfl <;> rcases ot01 with rfl | rfl <;> simp at hmi hot ⊢ <;> omega
      have hr : (rrise F R (u.2.2.2.1.2.2.2 k 0) (u.2.2.2.1.2.2.2 k 1) mi ot = 0 ∨ rrise F R (u.2.2.2.1.2.2.2 k 0) (u.2.2.2.1.2.2.2 k 1) mi ot = 1) ∧ (rrise F R (u.2.2.2.1.2.2.2 k 0) (u.2.2.2.1.2.2.2 k 1) mi ot = 1 ↔ cmb (u.2.2.2.1.2.1 k) (coT (crs kd oc u.2.2.2.1 u.2.1 k.toNat) (u.2.2.2.1.2.2.2 k 0)) (coT (crs kd oc u.2.2.2.1 u.2.1 k.toNat) (u.2.2.2.1.2.2.2 k 1)) = 1) := by
        unfold rrise cmb
        rw [c1.1, c1.2.1, c1.2.2, c2.1, c2.2.1, c2.2.2]
        generalize coT (crs kd oc u.2.2.2.1 u.2.1 k.toNat) (u.2.2.2.1.2.2.2 k 0) = x at r1 ⊢
        generalize coT (crs kd oc u.2.2.2.1 u.2.1 k.toNat) (u.2.2.2.1.2.2.2 k 1) = y at r2 ⊢
        generalize u.2.2.2.1.2.1 k = w at hmi hot ⊢
        rcases r1 with rfl | rfl | rfl <;> rcases r2 with rfl | rfl | rfl <;> rcases mi01 with rfl | rfl <;> rcases ot01 with rfl | rfl <;> simp at hmi hot ⊢ <;> omega
      have hi : (ris F R (u.2.2.2.1.2.2.2 k 0) (u.2.2.2.1.2.2.2 k 1) (rfall F R (u.2.2.2.1.2.2.2 k 0) (u.2.2.2.1.2.2.2 k 1) mi ot) (rrise F R (u.2.2.2.1.2.2.2 k 0) (u.2.2.2.1.2.2.2 k 1) mi ot) is = 0 ∨ ris F R (u.2.2.2.1.2.2.2 k 0) (u.2.2.2.1.2.2.2 k 1) (rfall F R (u.2.2.2.1.2.2.2 k 0) (u.2.2.2.1.2.2.2 k 1) mi ot) (rrise F R (u.2.2.2.1.2.2.2 k 0) (u.2.2.2.1.2.2.2 k 1) mi ot) is = 1) ∧ (ris F R (u.2.2.2.1.2.2.2 k 0) (u.2.2.2.1.2.2.2 k 1) (rfall F R (u.2.2.2.1.2.2.2 k 0) (u.2.2.2.1.2.2.2 k 1) mi ot) (rrise F R (u.2.2.2.1.2.2.2 k 0) (u.2.2.2.1.2.2.2 k 1) mi ot) is = 0 ↔ gud kd oc u.2.2.2.1 u.2.1 k) := by
        have rc := cmb_r (w := u.2.2.2.1.2.1 k) r1 r2
        rw [hgud]
        unfold ris
        rw [c1.2.2, c2.2.2, if_pos i0]
        generalize rfall F R (u.2.2.2.1.2.2.2 k 0) (u.2.2.2.1.2.2.2 k 1) mi ot = f at hf ⊢
        generalize rrise F R (u.2.2.2.1.2.2.2 k 0) (u.2.2.2.1.2.2.2 k 1) mi ot = r at hr ⊢
        generalize cmb (u.2.2.2.1.2.1 k) (coT (crs kd oc u.2.2.2.1 u.2.1 k.toNat) (u.2.2.2.1.2.2.2 k 0)) (coT (crs kd oc u.2.2.2.1 u.2.1 k.toNat) (u.2.2.2.1.2.2.2 k 1)) = m at rc hf hr ⊢
        generalize coT (crs kd oc u.2.2.2.1 u.2.1 k.toNat) (u.2.2.2.1.2.2.2 k 0) = x at r1 ⊢
        generalize coT (crs kd oc u.2.2.2.1 u.2.1 k.toNat) (u.2.2.2.1.2.2.2 k 1) = y at r2 ⊢
        obtain ⟨f1, f2⟩ := hf
        obtain ⟨r3, r4⟩ := hr
        rcases r1 with rfl | rfl | rfl <;> rcases r2 with rfl | rfl | rfl <;> rcases f1 with rfl | rfl <;> rcases r3 with rfl | rfl <;> rcases rc with rfl | rfl | rfl <;> simp at f2 r4 ⊢
      -- no course from none
      have hz : coT (crs kd oc u.2.2.2.1 u.2.1 k.toNat) (u.2.2.2.1.2.2.2 k 0) = 0 ∧ coT (crs kd oc u.2.2.2.1 u.2.1 k.toNat) (u.2.2.2.1.2.2.2 k 1) = 0 → cmb (u.2.2.2.1.2.1 k) (coT (crs kd oc u.2.2.2.1 u.2.1 k.toNat) (u.2.2.2.1.2.2.2 k 0)) (coT (crs kd oc u.2.2.2.1 u.2.1 k.toNat) (u.2.2.2.1.2.2.2 k 1)) = 0 := by
        rintro ⟨z1, z2⟩
        rw [z1, z2]
        unfold cmb
        simp
      have hcr : ∀ s, crs kd oc u.2.2.2.1 u.2.1 (k + 1).toNat s = if s = slot (u.2.2.2.1.2.2.2 k 2) then cmb (u.2.2.2.1.2.1 k) (coT (crs kd oc u.2.2.2.1 u.2.1 k.toNat) (u.2.2.2.1.2.2.2 k 0)) (coT (crs kd oc u.2.2.2.1 u.2.1 k.toNat) (u.2.2.2.1.2.2.2 k 1)) else crs kd oc u.2.2.2.1 u.2.1 k.toNat s := by
        intro s
        rw [ec]
        by_cases z : coT (crs kd oc u.2.2.2.1 u.2.1 k.toNat) (u.2.2.2.1.2.2.2 k 0) = 0 ∧ coT (crs kd oc u.2.2.2.1 u.2.1 k.toNat) (u.2.2.2.1.2.2.2 k 1) = 0
        · rw [if_pos z, hz z]
          by_cases y : s = slot (u.2.2.2.1.2.2.2 k 2)
          · rw [if_pos y, y, c0]
          · rw [if_neg y]
        · rw [if_neg z]
          rfl
      have rc := cmb_r (w := u.2.2.2.1.2.1 k) r1 r2
      refine ⟨hi.1, fun q => ⟨?_, ?_, ?_, ?_⟩, fun q => ⟨k, k0, k1, fun g => by have := hi.2.mpr g; omega⟩⟩
      · intro l l0 l1
        by_cases e : l = k
        · rw [e]; exact hi.2.mp q
        · exact s1 l l0 (by omega)
      · refine bst_or s2 (q := fun s => cmb (u.2.2.2.1.2.1 k) (coT (crs kd oc u.2.2.2.1 u.2.1 k.toNat) (u.2.2.2.1.2.2.2 k 0)) (coT (crs kd oc u.2.2.2.1 u.2.1 k.toNat) (u.2.2.2.1.2.2.2 k 1)) = -1 ∧ slot (u.2.2.2.1.2.2.2 k 2) = s) ?_ (fun s _ _ => ?_)
        · by_cases y : rfall F R (u.2.2.2.1.2.2.2 k 0) (u.2.2.2.1.2.2.2 k 1) mi ot = 0
          · rw [if_pos y]; exact bst_0 (fun s _ _ z => by have := hf.2.mpr z.1; omega)
          · rw [if_neg y]; exact bst_c (bst_b _) (fun s _ _ => ⟨fun z => z.2, fun z => ⟨hf.2.mp (by omega), z⟩⟩)
        · rw [hcr]
          by_cases y : s = slot (u.2.2.2.1.2.2.2 k 2)
          · rw [if_pos y, y, c0]
            exact ⟨fun z => Or.inr ⟨z, rfl⟩, fun z => z.elim (fun w => by omega) (fun w => w.1)⟩
          · rw [if_neg y]
            exact ⟨Or.inl, fun z => z.resolve_right (fun w => y w.2.symm)⟩
      · refine bst_or s3 (q := fun s => cmb (u.2.2.2.1.2.1 k) (coT (crs kd oc u.2.2.2.1 u.2.1 k.toNat) (u.2.2.2.1.2.2.2 k 0)) (coT (crs kd oc u.2.2.2.1 u.2.1 k.toNat) (u.2.2.2.1.2.2.2 k 1)) = 1 ∧ slot (u.2.2.2.1.2.2.2 k 2) = s) ?_ (fun s _ _ => ?_)
        · by_cases y : rrise F R (u.2.2.2.1.2.2.2 k 0) (u.2.2.2.1.2.2.2 k 1) mi ot = 0
          · rw [if_pos y]; exact bst_0 (fun s _ _ z => by have := hr.2.mpr z.1; omega)
          · rw [if_neg y]; exact bst_c (bst_b _) (fun s _ _ => ⟨fun z => z.2, fun z => ⟨hr.2.mp (by omega), z⟩⟩)
        · rw [hcr]
          by_cases y : s = slot (u.2.2.2.1.2.2.2 k 2)
          · rw [if_pos y, y, c0]
            exact ⟨fun z => Or.inr ⟨z, rfl⟩, fun z => z.elim (fun w => by omega) (fun w => w.1)⟩
          · rw [if_neg y]
            exact ⟨Or.inl, fun z => z.resolve_right (fun w => y w.2.symm)⟩
      · refine bst_or (bst_or (bst_or s4 (bst_b (u.2.2.2.1.2.2.2 k 2)) (fun s _ _ => Iff.rfl)) (bst_b (u.2.2.2.1.2.2.2 k 0)) (fun s _ _ => Iff.rfl)) (bst_b (u.2.2.2.1.2.2.2 k 1)) (fun s _ _ => ?_)
        rw [avr_s k0, vrs_2 hw]
        constructor
        · rintro (y | (y | y) | y)
          · exact Or.inl (Or.inl (Or.inl y))
          · exact Or.inl (Or.inr y)
          · exact Or.inr y
          · exact Or.inl (Or.inl (Or.inr y.2))
        · rintro (((y | y) | y) | y)
          · exact Or.inl y
          · exact Or.inr (Or.inr ⟨ha, y⟩)
          · exact Or.inr (Or.inl (Or.inl y))
          · exact Or.inr (Or.inl (Or.inr y))
    · refine SI_bad S i1 ?_
      unfold ris
      rw [if_neg (by omega)]
  rw [b235_51, if_pos rfl, s181 (by omega) p k 0 h hp (by omega) (by omega), bk_v, b235_336, q0, if_neg (by omega), b235_356, b235_357, s181 (by omega) p k 0 h hp (by omega) (by omega), bk_v, b235_367, q0, if_neg (by omega), s181 (by omega) p k 2 h hp (by omega) (by omega), bk_v, b235_490, es]
  by_cases z : u.2.2.2.1.2.1 k = 1
  · rw [if_pos z, b235_503, if_neg (by decide), b235_516, go]
    exact ⟨_, _, _, _, _, _, _, _, _, _, rfl, key 1 1 (Or.inr rfl) (Or.inr rfl) (by omega) (by omega)⟩
  · rw [if_neg z, b235_503, if_pos rfl]
    by_cases y : u.2.2.2.1.2.1 k = 5
    · rw [if_pos y, b235_516, go]
      exact ⟨_, _, _, _, _, _, _, _, _, _, rfl, key 0 1 (Or.inl rfl) (Or.inr rfl) (by omega) (by omega)⟩
    · rw [if_neg y, go]
      exact ⟨_, _, _, _, _, _, _, _, _, _, rfl, key 0 0 (Or.inl rfl) (Or.inl rfl) (by omega) (by omega)⟩
end RS4
