/-! SHRINKING: the reference -/
section RS2
variable {h : dm_H} {cl kd : Int → Int} {u : mU} {p : Int}
theorem s236 {d : Nat} (hd : 4 ≤ d) (V : UR cl kd u p h) (hu : HSu u) (hk : ∀ r, gi h 167 r = kd r) (s : st6 h 175) {k : Int} (k0 : 0 ≤ k) (k1 : k < u.2.2.2.2) (ha : lq h p k 0 = 0) : ∃ b, dF d 236 [dR 1 11 165, dI p, dI k] h = rI b h ∧ (b = 0 ∨ b = 1) ∧ (b = 1 ↔ grw kd (ocH h 175) u.2.2.2.1 u.2.1 k) := by
  obtain ⟨l1, l2, -⟩ := UR_lit V k0 k1
  obtain ⟨e1, e2⟩ := l2 ha
  have hq := hu.2.2 k k0 k1 (l1.mp ha)
  have hN := hu.2.1
  have hp := V.1
  have hh : gi h 172 (38 * p + 1) = u.2.1 := V.2.2.1
  have hne : grw kd (ocH h 175) u.2.2.2.1 u.2.1 k ↔ u.2.2.2.1.1 k = 0 ∧ kd (u.2.2.2.1.2.1 k) ≠ 0 ∧ ocH h 175 (u.2.2.2.1.2.1 k) u.2.1 := Iff.rfl
  have no : ∀ w2 w3, ¬ grw kd (ocH h 175) u.2.2.2.1 u.2.1 k → ∃ b, dL (d - 1) 236 44 [lR 1 11 165, lI p, w2, w3] [] h = rI b h ∧ (b = 0 ∨ b = 1) ∧ (b = 1 ↔ grw kd (ocH h 175) u.2.2.2.1 u.2.1 k) := by
    intro w2 w3 hn
    rw [b236_44, b236_45, z1_p (Or.inl rfl)]
    exact ⟨0, rfl, Or.inl rfl, fun w => by omega, fun w => absurd w hn⟩
  rw [f236 (by omega), b236_0, s181 (by omega) p k 1 h hp (by omega) (by omega), bk_v, b236_7, s193 (by omega) p k h hp (by omega), bk_v, b236_14, e1]
  by_cases z2 : lq h p k 0 = 0 ∧ lq h p k 2 = 0
  case neg => rw [bi_0 z2, if_pos rfl]; exact no _ _ (fun w => z2 ⟨ha, e2.mpr (hne.mp w).1⟩)
  rw [bi_1 z2, if_neg (by decide), ix_p hq.1 hq.2, hk]
  by_cases z3 : kd (u.2.2.2.1.2.1 k) = 0
  · rw [if_pos z3]; exact no _ _ (fun w => (hne.mp w).2.1 z3)
  obtain ⟨b, x1, x2, x3⟩ := s184 (d := d - 1) (by omega) s hq hu.1
  rw [if_neg z3, s179 (by omega) p 1 h hp (by omega), bk_v, b236_34, hh, x1, bk_v, b236_37]
  rcases x2 with rfl | rfl
  · rw [if_pos rfl]; exact no _ _ (fun w => by have := x3.mpr (hne.mp w).2.2; omega)
  · rw [if_neg (by decide), b236_45, z1_p (Or.inr rfl)]
    exact ⟨1, rfl, Or.inr rfl, fun _ => hne.mpr ⟨e2.mp z2.2, z3, x3.mp rfl⟩, fun _ => rfl⟩
/-- raw terms are the terms -/
theorem UR_trm (V : UR cl kd u p h) {k : Int} (k0 : 0 ≤ k) (k1 : k < u.2.2.2.2) : (∀ i, 0 ≤ i → i < 3 → ¬ (u.2.2.2.1.1 k = 3 ∧ i = 2) → lq h p k (3 + i) = u.2.2.2.1.2.2.2 k i) ∧ (u.2.2.2.1.1 k = 3 → lq h p k 1 = u.2.2.2.1.2.2.2 k 2) ∧ (u.2.2.2.1.1 k = 0 ∨ u.2.2.2.1.1 k = 1 → gi h 166 (u.2.2.2.1.2.1 k) = u.2.2.2.1.2.2.1 k) := by
  obtain ⟨e1, e2, e3, e4⟩ := V.2.2.2.2.2.1 k k0 k1
  obtain ⟨l1, l2, l3, l4, l5⟩ := UR_lit V k0 k1
  refine ⟨fun i i0 i1 hi => ?_, fun q => ?_, fun q => ?_⟩
  · rw [← e4 i i0 i1]
    show _ = if lq h p k 0 = 2 ∧ i = 2 then lq h p k 1 else lq h p k (3 + i)
    rw [if_neg (fun w => hi ⟨l4.mp w.1, w.2⟩)]
  · rw [← e4 2 (by omega) (by omega)]
    show _ = if lq h p k 0 = 2 ∧ (2 : Int) = 2 then lq h p k 1 else lq h p k (3 + 2)
    rw [if_pos ⟨l4.mpr q, rfl⟩]
  · have ha := l1.mpr q
    have e3 : rwid h p k = u.2.2.2.1.2.2.1 k := e3
    unfold rwid at e3
    rw [if_pos ha, (l2 ha).1] at e3
    exact e3
/-- a variable that goes one way stands somewhere -/
theorem crs_avr {kd : Int → Int} {oc : Int → Int → Prop} {ρ : mR} {hdr : Int} : ∀ (k : Nat) (s : Int), (∀ j : Int, 0 ≤ j → j < k → ρ.1 j = 0 → 1 ≤ ρ.2.2.1 j) → crs kd oc ρ hdr k s ≠ 0 → avr ρ k s
  | 0, s, _, h => absurd rfl h
  | k + 1, s, hw, h => by
    have ih := crs_avr (kd := kd) (oc := oc) (ρ := ρ) (hdr := hdr) k s (fun j j0 j1 => hw j j0 (by omega))
    rw [show ((k + 1 : Nat) : Int) = (k : Int) + 1 by omega, avr_s (by omega)]
    have e := crs_atom (kd := kd) (oc := oc) (ρ := ρ) (hdr := hdr) (k := (k : Int)) (by omega)
    have eg := crs_grw (kd := kd) (oc := oc) (ρ := ρ) (hdr := hdr) (k := (k : Int)) (by omega)
    have er := crs_rck (kd := kd) (oc := oc) (ρ := ρ) (hdr := hdr) (k := (k : Int)) (by omega)
    rw [show ((k : Int) + 1).toNat = k + 1 by omega, show ((k : Int)).toNat = k by omega] at e eg er
    by_cases g : grw kd oc ρ hdr k
    · rw [eg g] at h
      by_cases z : slot (ρ.2.2.2 k (ρ.2.2.1 k - 1)) = -1
      · rw [if_pos z] at h; exact Or.inl (ih h)
      · rw [if_neg z] at h
        unfold upd1 at h
        by_cases y : s = slot (ρ.2.2.2 k (ρ.2.2.1 k - 1))
        · have := hw k (by omega) (by omega) g.1
          exact Or.inr (Or.inl ⟨_, by omega, by omega, y.symm⟩)
        · rw [if_neg y] at h; exact Or.inl (ih h)
    · by_cases s3 : ρ.1 k = 3
      · rw [er s3] at h
        split at h
        · exact Or.inl (ih h)
        · unfold upd1 at h
          by_cases y : s = slot (ρ.2.2.2 k 2)
          · exact Or.inr (Or.inr ⟨s3, y.symm⟩)
          · rw [if_neg y] at h; exact Or.inl (ih h)
      · rw [e g s3] at h; exact Or.inl (ih h)
/-- of sets that tell the courses, whether a term is in them -/
theorem isn_c {F R : Int} {c : Int → Int} (hF : bst F (fun s => c s = -1)) (hR : bst R (fun s => c s = 1)) (cr : ∀ s, c s = -1 ∨ c s = 0 ∨ c s = 1) {x : Int} (hx : x ≤ 107) : isn F x = (if coT c x = -1 then 1 else 0) ∧ isn R x = (if coT c x = 1 then 1 else 0) ∧ isn (dm_or F R) x = (if coT c x = 0 then 0 else 1) := by
  have hFR : bst (dm_or F R) (fun s => c s = -1 ∨ c s = 1) := bst_or hF hR (fun s _ _ => Iff.rfl)
  have bF := isn_b hF hx
  have bR := isn_b hR hx
  have bFR := isn_b hFR hx
  have f01 := isn_01 F x
  have r01 := isn_01 R x
  have o01 := isn_01 (dm_or F R) x
  have hc := coT_r cr x
  by_cases z : slot x = -1
  · have e : coT c x = 0 := by unfold coT; rw [if_pos z]
    rw [e, if_neg (by omega), if_neg (by omega), if_pos rfl]
    refine ⟨f01.resolve_right (fun w => (bF.mp w).1 z), r01.resolve_right (fun w => (bR.mp w).1 z), o01.resolve_right (fun w => (bFR.mp w).1 z)⟩
  · have e : coT c x = c (slot x) := by unfold coT; rw [if_neg z]
    rw [e] at hc ⊢
    rcases hc with q | q | q
    · rw [q, if_pos rfl, if_neg (by omega), if_neg (by omega)]
      exact ⟨bF.mpr ⟨z, q⟩, r01.resolve_right (fun w => by have := (bR.mp w).2; omega), bFR.mpr ⟨z, Or.inl q⟩⟩
    · rw [q, if_neg (by omega), if_neg (by omega), if_pos rfl]
      exact ⟨f01.resolve_right (fun w => by have := (bF.mp w).2; omega), r01.resolve_right (fun w => by have := (bR.mp w).2; omega), o01.resolve_right (fun w => by have := (bFR.mp w).2; omega)⟩
    · rw [q, if_neg (by omega), if_pos rfl, if_neg (by omega)]
      exact ⟨f01.resolve_right (fun w => by have := (bF.mp w).2; omega), bR.mpr ⟨z, q⟩, bFR.mpr ⟨z, Or.inr q⟩⟩
def gis (hd_ v is : Int) : Int := if is = 0 then (if v = -1 then 0 else if v < 100 then 1 else isn hd_ v) else 1
/-- a growing atom's value -/
theorem a_val {d : Nat} (hd : 2 ≤ d) {F R hd_ is k r v : Int} (hr : 0 ≤ r ∧ r < 6) (hv : -1 ≤ v ∧ v ≤ 107) (w7 w8 w11 w12 w13 w14 : Option dm_V) : dL d 235 89 [lR 1 11 165, lI p, lI F, lI R, lI hd_, lI is, lI k, w7, w8, lI r, lI v, w11, w12, w13, w14] [dI 1] h = dL d 235 194 [lR 1 11 165, lI p, lI (dm_or F (if gi h 167 r = 1 then bitO v else 0)), lI (dm_or R (if gi h 167 r = 2 then bitO v else 0)), lI hd_, lI (gis hd_ v is), lI k, w7, w8, lI r, lI v, w11, w12, w13, w14] [] h := by
  obtain ⟨v1, v2, v3⟩ := var_or (d := d) (by omega) v h hv
  have s3 : ∀ F' is', dL d 235 159 [lR 1 11 165, lI p, lI F, lI R, lI hd_, lI is', lI k, w7, w8, lI r, lI v, w11, w12, w13, w14] [dI F', dI F] h = dL d 235 194 [lR 1 11 165, lI p, lI (dm_or F F'), lI (dm_or R (if gi h 167 r = 2 then bitO v else 0)), lI hd_, lI is', lI k, w7, w8, lI r, lI v, w11, w12, w13, w14] [] h := by
    intro F' is'
    rw [b235_159, v1, bk_v, b235_167]
    by_cases z : 100 ≤ v
    · rw [if_pos z, if_neg (by decide), ix_p hr.1 hr.2]
      by_cases y : gi h 167 r = 2
      · rw [if_pos y, if_pos y, ck_p (by omega) (by omega), b235_192, v2 z]
      · rw [if_neg y, if_neg y, b235_191, b235_192]
    · rw [if_neg z, if_pos rfl, b235_191, b235_192, v3 z]
      congr 6
      split <;> rfl
  have s2 : ∀ is', dL d 235 126 [lR 1 11 165, lI p, lI F, lI R, lI hd_, lI is, lI k, w7, w8, lI r, lI v, w11, w12, w13, w14] [dI is'] h = dL d 235 194 [lR 1 11 165, lI p, lI (dm_or F (if gi h 167 r = 1 then bitO v else 0)), lI (dm_or R (if gi h 167 r = 2 then bitO v else 0)), lI hd_, lI is', lI k, w7, w8, lI r, lI v, w11, w12, w13, w14] [] h := by
    intro is'
    rw [b235_126, v1, bk_v, b235_134]
    by_cases z : 100 ≤ v
    · rw [if_pos z, if_neg (by decide), ix_p hr.1 hr.2]
      by_cases y : gi h 167 r = 1
      · rw [if_pos y, if_pos y, ck_p (by omega) (by omega), v2 z, s3]
      · rw [if_neg y, if_neg y, b235_158, s3]
    · rw [if_neg z, if_pos rfl, b235_158, s3, v3 z]
      congr 6
      split <;> rfl
  unfold gis
  rw [b235_89, if_neg (by decide)]
  by_cases z0 : is = 0
  case neg => rw [if_neg z0, if_neg z0, b235_121, s2]
  rw [if_pos z0, if_pos z0]
  by_cases z1 : v = -1
  · rw [if_pos z1, if_pos z1, b235_125, s2]
  rw [if_neg z1, if_neg z1, v1, bk_v, b235_108]
  by_cases z2 : 100 ≤ v
  · rw [if_pos z2, if_neg (by decide), if_neg (show ¬ v < 100 by omega), s237 hd _ _ h hv, bk_v, b235_118]
    rcases isn_01 hd_ v with q | q
    · rw [if_pos q, b235_125, s2, q]
    · rw [if_neg (by omega), b235_121, s2, q]
  · rw [if_neg z2, if_pos rfl, if_pos (show v < 100 by omega), b235_121, s2]
end RS2
