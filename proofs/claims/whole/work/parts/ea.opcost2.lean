/-! THE CALLS height and price: both sides alike -/
section OCP
variable {h : dm_H} {π : Int → Int}
theorem op_height {d : Nat} (hd : 17 ≤ d) (I : IN0 π h) (S : still h (gr h 1 8)) (C : ICo h) (R : IRp h) (r a b c : Int) : ∃ k h1 v h2, dF d 150 [dR 1 10 1, dI r, dI a, dI b, dI c, dR 4 1 196] h = rI k h1 ∧ dF d 260 [dR 1 11 165, dI r, dI a, dI b, dI c] h1 = rI v h2 ∧ gi h2 165 0 = k ∧ (k = 0 → gl h2 0 = v) ∧ IN0 π h2 ∧ ICo h2 ∧ frRp h h2 ∧ rm h h2 := by
  have n6 := I.1.1.1
  obtain ⟨a1, a2, a3⟩ := thr_all I 1
  obtain ⟨b1, b2, b3⟩ := thr_all I 2
  have wr : ∀ (x : dm_O), dF (d - 1) 151 [dR 1 10 1, dI r, dI a, dI b, dI c] h = x → (∀ v h', x = rI v h' → dF d 150 [dR 1 10 1, dI r, dI a, dI b, dI c, dR 4 1 196] h = rI 0 (sl h' 0 v)) ∧ (∀ h', x = rX 0 h' → dF d 150 [dR 1 10 1, dI r, dI a, dI b, dI c, dR 4 1 196] h = rI 1 h') ∧ ∀ h', x = rX 1 h' → dF d 150 [dR 1 10 1, dI r, dI a, dI b, dI c, dR 4 1 196] h = rI 2 h' := by
    intro x e
    rw [f150 (by omega), b150_0, e]
    refine ⟨fun v h' ex => ?_, fun h' ex => ?_, fun h' ex => ?_⟩
    · rw [ex, bk_v, b150_12, ix_p (by omega) (by omega)]
    · rw [ex, bk_c (g := 17) (j := 6) (n := 2) (L' := [lR 1 10 1, lI r, lI a, lI b, lI c, lR 4 1 196, none]) rfl (fun f => rfl)]
      exact b150_19 _ _ _ _ _ _ _ _ _
    · rw [ex, bk_c (g := 21) (j := 6) (n := 2) (L' := [lR 1 10 1, lI r, lI a, lI b, lI c, lR 4 1 196, none]) rfl (fun f => rfl)]
      exact b150_23 _ _ _ _ _ _ _ _ _
  obtain ⟨w1, w2, w3⟩ := wr _ rfl
  have rf : ∀ (H : dm_H) (x : Int) (H2 : dm_H), dF (d - 1) 261 [dR 1 11 165, dI r, dI a, dI b, dI c, dI 0] H = rI x H2 → dF d 260 [dR 1 11 165, dI r, dI a, dI b, dI c] H = rI x H2 := fun H x H2 q => by
    rw [f260 (by omega), b260_0, q, bk_v, b260_10]
  rcases s72 (h := h) (d := d - 1 - 1) (by omega) r a b c n6 with ⟨y, e⟩ | ⟨y, y2, e⟩ | ⟨y, y2, e⟩
  · have c0 : dF (d - 1) 151 [dR 1 10 1, dI r, dI a, dI b, dI c] h = rX 0 (sg h 6) := by rw [f151 (by omega), b151_0, e, bk_x rfl]
    obtain ⟨r1, -, -, -⟩ := s261 (d := d - 1) (by omega) I S (pr := 0) (Or.inl rfl) r a b c 0 (sg h 6) (fun _ _ _ => rfl)
    exact ⟨1, _, 0, _, w2 _ c0, rf _ _ _ (r1 y), thr0, fun q => by omega, a1, ICo_fr I (frCo_2 (frZ_2 a2)) C, frRp_2 (frZ_2 a2), a3⟩
  · have c0 : dF (d - 1) 151 [dR 1 10 1, dI r, dI a, dI b, dI c] h = rX 1 (sg h 6) := by rw [f151 (by omega), b151_0, e, bk_x rfl]
    obtain ⟨-, r1, -, -⟩ := s261 (d := d - 1) (by omega) I S (pr := 0) (Or.inl rfl) r a b c 0 (sg h 6) (fun _ _ _ => rfl)
    exact ⟨2, _, 0, _, w3 _ c0, rf _ _ _ (r1 y y2), thr0, fun q => by omega, b1, ICo_fr I (frCo_2 (frZ_2 b2)) C, frRp_2 (frZ_2 b2), b3⟩
  · have hr : 0 ≤ r ∧ r < 6 := by omega
    obtain ⟨h', x1, x2, x3, x4, x5, x6, x7, x8⟩ := s152 (d := d - 1 - 1) (by omega) I S C (c := a * 10000 + b * 100 + c) hr
    have e8 : gr h' 1 8 = gr h 1 8 := x3 _ _ (by omega)
    have hP8 : gr h 1 8 = 95 ∨ gr h 1 8 = 112 := I.2.2.2.2.2.2.2.2.2.1.1
    have S' : still h' (gr h' 1 8) := still_rp ⟨e8, fun a i p => x2 a i (by omega) (by omega)⟩ S
    have eplc : plc h' (gr h' 1 8) r (a * 10000 + b * 100 + c) = plc h (gr h 1 8) r (a * 10000 + b * 100 + c) := by
      rw [e8]
      unfold plc
      rw [show rsz h' (gr h 1 8) r = rsz h (gr h 1 8) r from x2 _ _ (by omega) (by omega)]
      exact fz_same _ _ (fun j _ _ => by rw [show rws h' (gr h 1 8) r j = rws h (gr h 1 8) r j from x2 _ _ (by omega) (by omega)])
    have y' : 0 ≤ r ∧ r < gi h' 2 0 := by rw [x2 2 0 (by omega) (by omega)]; exact y
    have y2' : wit (gi h' 3 r) 0 99 a b c := by rw [x2 3 r (by omega) (by omega)]; exact y2
    obtain ⟨p, ep⟩ : ∃ p, p = plc h (gr h 1 8) r (a * 10000 + b * 100 + c) := ⟨_, rfl⟩
    rw [← ep] at x1 x8 eplc
    by_cases q : p = -1
    · have c0 : dF (d - 1) 151 [dR 1 10 1, dI r, dI a, dI b, dI c] h = rI (-1) h' := by
        rw [f151 (by omega), b151_0, e, bk_v, b151_9, x1, bk_v, b151_18, if_pos q, b151_42]
      obtain ⟨-, -, r1, -⟩ := s261 (d := d - 1) (by omega) x5 S' (pr := 0) (Or.inl rfl) r a b c 0 (sl h' 0 (-1)) (fun _ _ _ => rfl)
      obtain ⟨t1, t2, t3, t4, t5, t6⟩ := cost_fr I R x2 x3 x4 x7 x5 x6 (frQ_refl (si (sl h' 0 (-1)) 165 0 0))
      exact ⟨0, _, -1, _, w1 _ _ c0, rf _ _ _ (r1 y' y2' (eplc.trans q)), t5, fun _ => t6, t1, t2, t3, t4⟩
    · obtain ⟨g0, g1, k0, k1, k2⟩ := x8 q
      have hp : 0 ≤ p ∧ p < rsz h (gr h 1 8) r := by
        rw [ep] at q ⊢
        rcases fz_spec (fun x => rws h (gr h 1 8) r x = a * 10000 + b * 100 + c) (rsz h (gr h 1 8) r).toNat 0 with ⟨z1, -⟩ | ⟨z1, z2, -, -⟩
        · exact absurd z1 q
        · have z1 : 0 ≤ plc h (gr h 1 8) r (a * 10000 + b * 100 + c) := z1
          have z2 : plc h (gr h 1 8) r (a * 10000 + b * 100 + c) < 0 + ((rsz h (gr h 1 8) r).toNat : Int) := z2
          exact ⟨z1, by omega⟩
      have z32 := (rows_z I r hr.1 hr.2).1
      have V : VW (cK h) (gi h 4) (cW h (gr h 1 8)) := I.2.2.2.2.2.2.2.2.2.2.2.2.2.2.2.1
      have p32 : p < 32 := by have := (V r hr.1 hr.2).1.2; have e1 : (cW h (gr h 1 8)).1 r = rsz h (gr h 1 8) r := rfl; omega
      obtain ⟨m1, m2, m3⟩ := k2 r p hr.1 hr.2 hp.1 hp.2
      have c0 : dF (d - 1) 151 [dR 1 10 1, dI r, dI a, dI b, dI c] h = rI (gi h' (145 + 1 + Int.toNat r) p) h' := by
        rw [f151 (by omega), b151_0, e, bk_v, b151_9, x1, bk_v, b151_18, if_neg q, ix_p hr.1 hr.2, ix_p hp.1 p32, b151_42]
      obtain ⟨-, -, -, r1⟩ := s261 (d := d - 1) (by omega) x5 S' (pr := 0) (Or.inl rfl) r a b c 0 (sl h' 0 (gi h' (145 + 1 + Int.toNat r) p)) (fun _ _ _ => rfl)
      obtain ⟨H', f, u1, u2, u3⟩ := r1 y' y2' (by rw [eplc]; exact q)
      obtain ⟨t1, t2, t3, t4, t5, t6⟩ := cost_fr I R x2 x3 x4 x7 x5 x6 u2
      -- the same on both sides
      have K' : knC h' h' := knC_to (h' := h') I e8 x6 (fun a i p => x2 a i (by omega) (by omega)) ⟨x2 _ _ (by omega) (by omega), fun p p0 p1 => by
        unfold fL
        rw [x2 _ _ (by omega) (by omega), x2 _ _ (by omega) (by omega), x2 _ _ (by omega) (by omega), x2 _ _ (by omega) (by omega)]⟩ (x := h') (x' := h') (fun _ _ _ => rfl) (x8 q)
      obtain ⟨g0', g1', k0', k1', k2'⟩ := K'
      have hz : rsz h' (gr h' 1 8) r = rsz h (gr h 1 8) r := by rw [e8]; exact x2 _ _ (by omega) (by omega)
      obtain ⟨m1, m2, m3⟩ := k2' r p hr.1 hr.2 hp.1 (by rw [hz]; exact hp.2)
      have efc : fcX 0 h' = fcH h' := if_pos rfl
      rw [efc] at u1
      have one := GSB_one u1 k0' r p hr.1 hr.2 hp.1 (by show p < rsz h' (gr h' 1 8) r; rw [hz]; exact hp.2)
      rw [eplc] at u3
      have ev : (if f r p = 1000000 then -1 else f r p) = gi h' (145 + 1 + Int.toNat r) p := by
        rw [one, ← m2]
        unfold c2v at m1
        unfold kc
        by_cases z : gi h' (145 + 1 + Int.toNat r) p = -1
        · rw [if_pos z, if_pos rfl, z]
        · rw [if_neg z, if_neg (by omega)]
      rw [ev] at u3
      exact ⟨0, _, _, H', w1 _ _ c0, rf _ _ _ u3, t5, fun _ => t6, t1, t2, t3, t4⟩
theorem op_price {d : Nat} (hd : 17 ≤ d) (I : IN0 π h) (S : still h (gr h 1 8)) (C : ICo h) (R : IRp h) (r a b c : Int) : ∃ k h1 v h2, dF d 155 [dR 1 10 1, dI r, dI a, dI b, dI c, dR 4 1 196] h = rI k h1 ∧ dF d 267 [dR 1 11 165, dI r, dI a, dI b, dI c] h1 = rI v h2 ∧ gi h2 165 0 = k ∧ (k = 0 → gl h2 0 = v) ∧ IN0 π h2 ∧ ICo h2 ∧ frRp h h2 ∧ rm h h2 := by
  have n6 := I.1.1.1
  obtain ⟨a1, a2, a3⟩ := thr_all I 1
  obtain ⟨b1, b2, b3⟩ := thr_all I 2
  have wr : ∀ (x : dm_O), dF (d - 1) 156 [dR 1 10 1, dI r, dI a, dI b, dI c] h = x → (∀ v h', x = rI v h' → dF d 155 [dR 1 10 1, dI r, dI a, dI b, dI c, dR 4 1 196] h = rI 0 (sl h' 0 v)) ∧ (∀ h', x = rX 0 h' → dF d 155 [dR 1 10 1, dI r, dI a, dI b, dI c, dR 4 1 196] h = rI 1 h') ∧ ∀ h', x = rX 1 h' → dF d 155 [dR 1 10 1, dI r, dI a, dI b, dI c, dR 4 1 196] h = rI 2 h' := by
    intro x e
    rw [f155 (by omega), b155_0, e]
    refine ⟨fun v h' ex => ?_, fun h' ex => ?_, fun h' ex => ?_⟩
    · rw [ex, bk_v, b155_12, ix_p (by omega) (by omega)]
    · rw [ex, bk_c (g := 17) (j := 6) (n := 2) (L' := [lR 1 10 1, lI r, lI a, lI b, lI c, lR 4 1 196, none]) rfl (fun f => rfl)]
      exact b155_19 _ _ _ _ _ _ _ _ _
    · rw [ex, bk_c (g := 21) (j := 6) (n := 2) (L' := [lR 1 10 1, lI r, lI a, lI b, lI c, lR 4 1 196, none]) rfl (fun f => rfl)]
      exact b155_23 _ _ _ _ _ _ _ _ _
  obtain ⟨w1, w2, w3⟩ := wr _ rfl
  have rf : ∀ (H : dm_H) (x : Int) (H2 : dm_H), dF (d - 1) 261 [dR 1 11 165, dI r, dI a, dI b, dI c, dI 1] H = rI x H2 → dF d 267 [dR 1 11 165, dI r, dI a, dI b, dI c] H = rI x H2 := fun H x H2 q => by
    rw [f267 (by omega), b267_0, q, bk_v, b267_10]
  rcases s72 (h := h) (d := d - 1 - 1) (by omega) r a b c n6 with ⟨y, e⟩ | ⟨y, y2, e⟩ | ⟨y, y2, e⟩
  · have c0 : dF (d - 1) 156 [dR 1 10 1, dI r, dI a, dI b, dI c] h = rX 0 (sg h 6) := by rw [f156 (by omega), b156_0, e, bk_x rfl]
    obtain ⟨r1, -, -, -⟩ := s261 (d := d - 1) (by omega) I S (pr := 1) (Or.inr rfl) r a b c 0 (sg h 6) (fun _ _ _ => rfl)
    exact ⟨1, _, 0, _, w2 _ c0, rf _ _ _ (r1 y), thr0, fun q => by omega, a1, ICo_fr I (frCo_2 (frZ_2 a2)) C, frRp_2 (frZ_2 a2), a3⟩
  · have c0 : dF (d - 1) 156 [dR 1 10 1, dI r, dI a, dI b, dI c] h = rX 1 (sg h 6) := by rw [f156 (by omega), b156_0, e, bk_x rfl]
    obtain ⟨-, r1, -, -⟩ := s261 (d := d - 1) (by omega) I S (pr := 1) (Or.inr rfl) r a b c 0 (sg h 6) (fun _ _ _ => rfl)
    exact ⟨2, _, 0, _, w3 _ c0, rf _ _ _ (r1 y y2), thr0, fun q => by omega, b1, ICo_fr I (frCo_2 (frZ_2 b2)) C, frRp_2 (frZ_2 b2), b3⟩
  · have hr : 0 ≤ r ∧ r < 6 := by omega
    obtain ⟨h', x1, x2, x3, x4, x5, x6, x7, x8⟩ := s152 (d := d - 1 - 1) (by omega) I S C (c := a * 10000 + b * 100 + c) hr
    have e8 : gr h' 1 8 = gr h 1 8 := x3 _ _ (by omega)
    have hP8 : gr h 1 8 = 95 ∨ gr h 1 8 = 112 := I.2.2.2.2.2.2.2.2.2.1.1
    have S' : still h' (gr h' 1 8) := still_rp ⟨e8, fun a i p => x2 a i (by omega) (by omega)⟩ S
    have eplc : plc h' (gr h' 1 8) r (a * 10000 + b * 100 + c) = plc h (gr h 1 8) r (a * 10000 + b * 100 + c) := by
      rw [e8]
      unfold plc
      rw [show rsz h' (gr h 1 8) r = rsz h (gr h 1 8) r from x2 _ _ (by omega) (by omega)]
      exact fz_same _ _ (fun j _ _ => by rw [show rws h' (gr h 1 8) r j = rws h (gr h 1 8) r j from x2 _ _ (by omega) (by omega)])
    have y' : 0 ≤ r ∧ r < gi h' 2 0 := by rw [x2 2 0 (by omega) (by omega)]; exact y
    have y2' : wit (gi h' 3 r) 0 99 a b c := by rw [x2 3 r (by omega) (by omega)]; exact y2
    obtain ⟨p, ep⟩ : ∃ p, p = plc h (gr h 1 8) r (a * 10000 + b * 100 + c) := ⟨_, rfl⟩
    rw [← ep] at x1 x8 eplc
    by_cases q : p = -1
    · have c0 : dF (d - 1) 156 [dR 1 10 1, dI r, dI a, dI b, dI c] h = rI (-1) h' := by
        rw [f156 (by omega), b156_0, e, bk_v, b156_9, x1, bk_v, b156_18, if_pos q, b156_42]
      obtain ⟨-, -, r1, -⟩ := s261 (d := d - 1) (by omega) x5 S' (pr := 1) (Or.inr rfl) r a b c 0 (sl h' 0 (-1)) (fun _ _ _ => rfl)
      obtain ⟨t1, t2, t3, t4, t5, t6⟩ := cost_fr I R x2 x3 x4 x7 x5 x6 (frQ_refl (si (sl h' 0 (-1)) 165 0 0))
      exact ⟨0, _, -1, _, w1 _ _ c0, rf _ _ _ (r1 y' y2' (eplc.trans q)), t5, fun _ => t6, t1, t2, t3, t4⟩
    · obtain ⟨g0, g1, k0, k1, k2⟩ := x8 q
      have hp : 0 ≤ p ∧ p < rsz h (gr h 1 8) r := by
        rw [ep] at q ⊢
        rcases fz_spec (fun x => rws h (gr h 1 8) r x = a * 10000 + b * 100 + c) (rsz h (gr h 1 8) r).toNat 0 with ⟨z1, -⟩ | ⟨z1, z2, -, -⟩
        · exact absurd z1 q
        · have z1 : 0 ≤ plc h (gr h 1 8) r (a * 10000 + b * 100 + c) := z1
          have z2 : plc h (gr h 1 8) r (a * 10000 + b * 100 + c) < 0 + ((rsz h (gr h 1 8) r).toNat : Int) := z2
          exact ⟨z1, by omega⟩
      have z32 := (rows_z I r hr.1 hr.2).1
      have V : VW (cK h) (gi h 4) (cW h (gr h 1 8)) := I.2.2.2.2.2.2.2.2.2.2.2.2.2.2.2.1
      have p32 : p < 32 := by have := (V r hr.1 hr.2).1.2; have e1 : (cW h (gr h 1 8)).1 r = rsz h (gr h 1 8) r := rfl; omega
      obtain ⟨m1, m2, m3⟩ := k2 r p hr.1 hr.2 hp.1 hp.2
      have c0 : dF (d - 1) 156 [dR 1 10 1, dI r, dI a, dI b, dI c] h = rI (gi h' (152 + 1 + Int.toNat r) p) h' := by
        rw [f156 (by omega), b156_0, e, bk_v, b156_9, x1, bk_v, b156_18, if_neg q, ix_p hr.1 hr.2, ix_p hp.1 p32, b156_42]
      obtain ⟨-, -, -, r1⟩ := s261 (d := d - 1) (by omega) x5 S' (pr := 1) (Or.inr rfl) r a b c 0 (sl h' 0 (gi h' (152 + 1 + Int.toNat r) p)) (fun _ _ _ => rfl)
      obtain ⟨H', f, u1, u2, u3⟩ := r1 y' y2' (by rw [eplc]; exact q)
      obtain ⟨t1, t2, t3, t4, t5, t6⟩ := cost_fr I R x2 x3 x4 x7 x5 x6 u2
      -- the same on both sides
      have K' : knC h' h' := knC_to (h' := h') I e8 x6 (fun a i p => x2 a i (by omega) (by omega)) ⟨x2 _ _ (by omega) (by omega), fun p p0 p1 => by
        unfold fL
        rw [x2 _ _ (by omega) (by omega), x2 _ _ (by omega) (by omega), x2 _ _ (by omega) (by omega), x2 _ _ (by omega) (by omega)]⟩ (x := h') (x' := h') (fun _ _ _ => rfl) (x8 q)
      obtain ⟨g0', g1', k0', k1', k2'⟩ := K'
      have hz : rsz h' (gr h' 1 8) r = rsz h (gr h 1 8) r := by rw [e8]; exact x2 _ _ (by omega) (by omega)
      obtain ⟨m1, m2, m3⟩ := k2' r p hr.1 hr.2 hp.1 (by rw [hz]; exact hp.2)
      have efc : fcX 1 h' = fcP h' := if_neg (by decide)
      rw [efc] at u1
      have one := GSB_one u1 k1' r p hr.1 hr.2 hp.1 (by show p < rsz h' (gr h' 1 8) r; rw [hz]; exact hp.2)
      rw [eplc] at u3
      have ev : (if f r p = 1000000 then -1 else f r p) = gi h' (152 + 1 + Int.toNat r) p := by
        rw [one, ← m3]
        unfold c2v at m1
        unfold kc
        by_cases z : gi h' (152 + 1 + Int.toNat r) p = -1
        · rw [if_pos z, if_pos rfl, z]
        · rw [if_neg z, if_neg (by omega)]
      rw [ev] at u3
      exact ⟨0, _, _, H', w1 _ _ c0, rf _ _ _ u3, t5, fun _ => t6, t1, t2, t3, t4⟩
end OCP
