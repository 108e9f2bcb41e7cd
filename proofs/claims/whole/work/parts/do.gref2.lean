/-! GOALS: the reference goes through a rule -/
section GRG
variable {h H : dm_H} {π : Int → Int}
/-- rules and rows of the reference are those of h -/
def celR (h H : dm_H) : Prop := ∀ a i, 166 ≤ a → a ≤ 178 → gi H a i = gi h a i
theorem celR_f {H H' : dm_H} (c : celR h H) (f : fgR H H') : celR h H' := fun a i p q => by rw [f.1 a i (by omega) (by omega) (by omega) (by omega) (by omega), c a i p q]
theorem celR_e (c : celR h H) : eqf h H := ⟨fun i => c _ _ (by omega) (by omega), fun i => c _ _ (by omega) (by omega), fun i => c _ _ (by omega) (by omega), fun i => c _ _ (by omega) (by omega)⟩
theorem s253 {d : Nat} (hd : 3 ≤ d) (I : IN0 π h) (c : celR h H) {j : Int} (j0 : 0 ≤ j) (j1 : j < gi h 13 1) (h3 : gi h (gr h 14 j) 1 ≠ 3) : dF d 253 [dR 1 11 165, dI (π j)] H = rI (mcl h (gr h 14 j)) H := by
  have R := I.2.2.1.2.2.1 j j0 j1
  have S := R.2.2.2.2.2.1
  have q4 := R.2.1.2.2.2.1 h3
  have h6 := I.1.1.1
  have m := mcl_r I j0 j1 h3
  have e172 : ∀ i, gi H 172 i = gi h 172 i := fun i => c _ _ (by omega) (by omega)
  have e166 : gi H 166 (gi h (gr h 14 j) 2) = gi h (gr h 14 j) 3 := by rw [c _ _ (by omega) (by omega), (I.1.2.2.1 _).1, q4.2]
  have e167 : gi H 167 (gi h (gr h 14 j) 2) = gi h 4 (gi h (gr h 14 j) 2) := by rw [c _ _ (by omega) (by omega), (I.1.2.2.1 _).2]
  rw [f253 (by omega), b253_0, s206 (n := gi h (gr h 14 j) 3) (by omega) S.1 (by rw [e172, S.2.1]; exact h3) (by rw [e172, S.2.2.1]; omega) (by rw [e172, S.2.2.1]; exact e166), bk_v, b253_5, s179 (by omega) (π j) 1 H S.1 (by omega), bk_v, e172, S.2.2.1, b253_15, ix_p (by omega) (by omega), e167]
  unfold mcl at m ⊢
  have e28 : dL (d - 1) 253 28 [lR 1 11 165, lI (π j)] [dI (gi h (gr h 14 j) 3)] H = rI (gi h (gr h 14 j) 3 - 1) H := by
    rw [b253_28, b253_33, ck_p (by omega) (by omega)]
  by_cases z : gi h 4 (gi h (gr h 14 j) 2) = 0
  · rw [if_pos z, s179 (by omega) (π j) 0 H S.1 (by omega), bk_v, Int.add_zero, e172, S.2.1, b253_25]
    by_cases y : gi h (gr h 14 j) 1 = 0
    · rw [if_pos y, b253_33, ck_p (by omega) (by omega), if_pos ⟨y, z⟩, Int.sub_zero]
    · rw [if_neg y, e28, if_neg (fun q => y q.1)]
  · rw [if_neg z, e28, if_neg (fun q => z q.2)]
theorem s252 {d : Nat} (hd : 8 ≤ d) (I : IN0 π h) {R : Int → Prop} (hR : ∀ g, R g → okG g) (hN : ∀ a b, R a → nxt h a b → R b) (c : celR h H) (GI : RGs R H) {x j : Int} (hx : 0 ≤ x ∧ x < gi H 165 43) (hj : 0 ≤ j ∧ j < gi h 13 1) (h3 : gi h (gr h 14 j) 1 ≠ 3) (kr : gi h (gr h 14 j) 2 = grl (rgl H x)) : ∃ H', dF d 252 [dR 1 11 165, dI (π j), dI x] H = rV H' ∧ fgR H H' ∧ RGs R H' ∧ rmo H H' ∧ (fulR H' ∨ ∀ b, nxj h j (rgl H x) b → fndr H' b) := by
  have RR := I.2.2.1.2.2.1 j hj.1 hj.2
  have S := RR.2.2.2.2.2.1
  obtain ⟨G1, F1, E1⟩ := bothr I hj.1 hj.2
  have V : VW (cK h) (gi h 4) (cW h (gr h 1 8)) := I.2.2.2.2.2.2.2.2.2.2.2.2.2.2.2.1
  have GG := GWc I.1.1 (RIN_c RR) V
  have hN4 := GG.1
  have q4 := RR.2.1.2.2.2.1 h3
  have h6 := I.1.1.1
  have mr := mcl_r I hj.1 hj.2 h3
  have d5 := RR.2.1.2.2.2.2.1
  have hz := GI.1
  obtain ⟨A, eA⟩ : ∃ A, gr h 14 j = A := ⟨_, rfl⟩
  obtain ⟨P, eP⟩ : ∃ P, gr h 1 8 = P := ⟨_, rfl⟩
  have nR : ∀ b, nxj h j (rgl H x) b → R b := fun b n => hN _ b (GI.2.1 x hx.1 hx.2).2 ⟨j, hj, n⟩
  have s253' := fun (K : dm_H) (cK : celR h K) => s253 (d := d - 1) (by omega) I cK hj.1 hj.2 h3
  unfold nxj at nR ⊢
  rw [eA] at S G1 F1 E1 GG hN4 q4 mr d5 nR s253' kr h3 ⊢
  rw [eP] at E1 V GG nR ⊢
  have hp := S.1
  have sim := S.2.2.2.2.2.1
  have og := hR _ (GI.2.1 x hx.1 hx.2).2
  -- atoms of both
  have at1 : ∀ k, 0 ≤ k → k < gi h A 4 → (lq h (π j) k 0 = 0 ↔ ((cR h A).1 k = 0 ∨ (cR h A).1 k = 1)) := by
    intro k k0 k1
    have s1 := (sim k k0 k1).1
    have s7 := F1.2 k k0 k1
    have e : (rRl h (π j)).1 k = rsrt h (π j) k := rfl
    rw [e] at s1
    unfold rsrt at s1
    rw [← s1]
    by_cases z : lq h (π j) k 0 = 0
    · rw [if_pos z]
      refine ⟨fun _ => ?_, fun _ => z⟩
      split <;> omega
    · rw [if_neg z]
      refine ⟨fun w => absurd w z, fun w => ?_⟩
      split at w <;> omega
  have atk : ∀ k, 0 ≤ k → k < gi h A 4 → ((cR h A).1 k = 0 ∨ (cR h A).1 k = 1) → (0 ≤ (cR h A).2.1 k ∧ (cR h A).2.1 k < 6) ∧ (0 ≤ (cR h A).2.2.1 k ∧ (cR h A).2.2.1 k ≤ 3) ∧ ∀ i, 0 ≤ i → i < 3 → -1 ≤ (cR h A).2.2.2 k i ∧ (cR h A).2.2.2 k i ≤ 107 := by
    intro k k0 k1 q
    rcases GG.2 k k0 k1 with z | z | z
    · exact ⟨z.2.1, z.2.2.1, z.2.2.2.1⟩
    · exact ⟨z.2.1, z.2.2.1, z.2.2.2.1⟩
    · rcases z.1 with y | y <;> omega
  -- the bindings of the first literals, all asked for
  have ask : ∀ (k : Int), 0 ≤ k → k < gi h A 4 → ((cR h A).1 k = 0 ∨ (cR h A).1 k = 1) → ∀ (w : mA), pG (gi h (A + 1)) (gcl (rgl H x)) (mcl h A).toNat 0 v0 = some w → ∀ (l : List mA) (H1 : dm_H), (∀ v, v ∈ l → v ∈ bnd (cR h A) (cW h P) k.toNat 0 w) → celR h H1 → RGs R H1 → Itr (rRl h (π j)) (rW h) k H1 l → ∃ H', dL (d - 1) 252 56 [lR 1 11 165, lI (π j), lI x, lI k, lI 1] [] H1 = dL (d - 1) 252 104 [lR 1 11 165, lI (π j), lI x, lI k, lI 1] [] H' ∧ fgR H1 H' ∧ RGs R H' ∧ rmo H1 H' ∧ (fulR H' ∨ ∀ v, v ∈ l → fndr H' (gkk (cR h A) (gi h 4) k v)) := by
    intro k k0 k1 ka w hw l
    obtain ⟨k2, k3, k4⟩ := atk k k0 k1 ka
    have l0 := (at1 k k0 k1).mpr ka
    have hJw := pG_J (fun i _ _ => (okG_r og).2 i) (v0_J (cR h A)).1 (v0_J (cR h A)).2.1 hw
    induction l with
    | nil =>
      intro H1 hl c1 S1 It
      obtain ⟨H2, y1, y2⟩ := (s190e (d := d - 1) (by omega) (GW_le G1 k0 (by omega)) (RF_le F1 (by omega)) (celR_e c1) It).1 rfl
      refine ⟨H2, ?_, fgR_M (frM_r y2), RGs_cg (fun a i q => y2.1 a i (by omega) (by omega) (by omega) (by omega)) S1, rmo_s (fun a i q => y2.1 a i (by omega) (by omega) (by omega) (by omega)), Or.inr (fun v hv => by cases hv)⟩
      rw [b252_56, if_neg (by decide), y1, bk_v, b252_66, if_pos rfl]
    | cons v l ih =>
      intro H1 hl c1 S1 It
      obtain ⟨H2, y1, y2, y3, y4⟩ := (s190e (d := d - 1) (by omega) (GW_le G1 k0 (by omega)) (RF_le F1 (by omega)) (celR_e c1) It).2 v l rfl
      have f2 : fgR H1 H2 := fgR_M (frM_r y2)
      have c2 := celR_f c1 f2
      have S2 : RGs R H2 := RGs_cg (fun a i q => y2.1 a i (by omega) (by omega) (by omega) (by omega)) S1
      have hv := hl v List.mem_cons_self
      have hJv : Jg (cR h A) k v := by
        have key : ∀ (n : Nat) (i : Int) (u v : mA), 0 ≤ i → i + n ≤ gi h A 4 → Jg (cR h A) i u → v ∈ bnd (cR h A) (cW h P) n i u → Jg (cR h A) (i + n) v := by
          intro n
          induction n with
          | zero =>
            intro i u v _ _ J q
            rw [List.mem_singleton.mp (show v ∈ [u] from q), show i + ((0 : Nat) : Int) = i by omega]
            exact J
          | succ n ih =>
            intro i u v i0 i1 J q
            obtain ⟨w, w1, w2⟩ := List.mem_flatMap.mp (show v ∈ (opt (cR h A) (cW h P) i u).flatMap (fun w => bnd (cR h A) (cW h P) n (i + 1) w) from q)
            have := ih (i + 1) w v (by omega) (by omega) (opt_J GG ⟨i0, by omega⟩ J w1).1 w2
            rw [show i + ((n + 1 : Nat) : Int) = i + 1 + (n : Int) by omega]
            exact this
        have := key k.toNat 0 w v (by omega) (by omega) ⟨hJw.1, hJw.2.1, fun s _ ⟨j, j1, j2, _⟩ => by omega⟩ hv
        rw [show (0 : Int) + (k.toNat : Int) = k by omega] at this
        exact this
      have rr := fun i (i0 : (0 : Int) ≤ i) => akv_r (ρ := cR h A) (kd := gi h 4) (k := k) hJv.2.1 (fun i i0 i1 => k4 i i0 (by omega)) i0
      have eR : rRl H2 (π j) = rRl h (π j) := eqf_R (celR_e c2) (π j)
      have e167 : ∀ i, gi H2 167 i = gi h 4 i := fun i => by rw [c2 _ _ (by omega) (by omega), (I.1.2.2.1 i).2]
      have elq : ∀ w, lq H2 (π j) k w = lq h (π j) k w := fun w => c2 _ _ (by omega) (by omega)
      obtain ⟨m1, m2, m3, m4⟩ := sim k k0 k1
      have n2 : (rRl h (π j)).2.1 k = lq h (π j) k 1 := if_pos l0
      have n3 : (rRl h (π j)).2.2.1 k = gi h 166 (lq h (π j) k 1) := if_pos l0
      have n4 : ∀ i, (rRl h (π j)).2.2.2 k i = lq h (π j) k (3 + i) := fun i => if_neg (by omega)
      have eak : ∀ i, 0 ≤ i → i < 3 → akv (rRl H2 (π j)) (gi H2 167) k (va H2 185) i = akv (cR h A) (gi h 4) k v i := by
        intro i i0 i1
        unfold akv
        rw [eR, m3, m2, m4 i i0 i1, e167, y3]
      have sa : ∀ i, 0 ≤ i → i < 3 → dF (d - 1) 255 [dR 1 11 165, dI (π j), dI k, dI i] H2 = rI (akv (cR h A) (gi h 4) k v i) H2 := by
        intro i i0 i1
        rw [← eak i i0 i1]
        refine s255 (by omega) hp ⟨k0, by omega⟩ ⟨i0, i1⟩ ?_ ?_ ?_ ?_
        · rw [elq, ← n2, m2]; exact k2
        · rw [elq, c2 _ _ (by omega) (by omega), ← n3, m3]; exact k3
        · rw [elq, ← n4, m4 i i0 i1]; exact (k4 i i0 i1).2
        · rw [elq]; exact l0
      have hRg : R (gkk (cR h A) (gi h 4) k v) := by
        refine nR _ ⟨h3, kr, w, hw, (Tg_iff _ _ _ _).mpr ⟨k.toNat, by omega, ?_, v, hv, ?_⟩⟩
        · rw [show (0 : Int) + (k.toNat : Int) = k by omega]; exact ka
        · rw [show (0 : Int) + (k.toNat : Int) = k by omega]
      obtain ⟨H3, u1, u2, u3, u4, u5⟩ := s251 (d := d - 1) (by omega) S2 k2 (rr 0 (by omega)) (rr 1 (by omega)) (rr 2 (by omega)) hRg
      have f3 := fgR_trans f2 (fgR_A u3)
      have c3 := celR_f c1 f3
      obtain ⟨H4, t1, t2, t3, t4, t5⟩ := ih H3 (fun v hv => hl v (List.mem_cons_of_mem _ hv)) c3 u2 (Itr_cg (fun i q => u3.1 _ _ (by omega) (by omega)) (fun a i q => u3.1 _ _ (by omega) (by omega)) y4)
      refine ⟨H4, ?_, fgR_trans f3 t2, t3, rmo_trans (rmo_trans (rmo_s (fun a i q => y2.1 a i (by omega) (by omega) (by omega) (by omega))) u4) t4, ?_⟩
      · rw [b252_56, if_neg (by decide), y1, bk_v, b252_66, if_neg (by decide), s181 (by omega) (π j) k 1 H2 hp ⟨k0, by omega⟩ (by omega), bk_v, b252_77, sa 0 (by omega) (by omega), bk_v, b252_84, sa 1 (by omega) (by omega), bk_v, b252_91, sa 2 (by omega) (by omega), bk_v, b252_98, elq, ← n2, m2, u1, bk_n, b252_101, t1]
      · by_cases y : fulR H4
        · exact Or.inl y
        refine Or.inr (fun u hu => ?_)
        rcases List.mem_cons.mp hu with rfl | hu
        · rcases u5 with z | z
          · exact fndr_rmo t4 z
          · exact absurd (fulR_rmo t4 t3 z.1) y
        · exact t5.resolve_left y u hu
  have eqx : ∀ H1, RGs R H1 → rmo H H1 → f3 (gi H1 193 x) (gi H1 194 x) (gi H1 195 x) = gcl (rgl H x) := by
    intro H1 S1 m1
    have o := (S1.2.1 x hx.1 (by have := m1.1; omega)).1
    rw [← m1.2 x hx.1 hx.2]
    unfold rgl
    exact (gcode_r o.1 o.2.1 o.2.2.1 o.2.2.2).2.2.symm
  have loop : ∀ (m : Nat) (k : Int) (H1 : dm_H) (w4 : Option dm_V), 0 ≤ k → k + m = gi h A 4 → fgR H H1 → RGs R H1 → rmo H H1 → (fulR H1 ∨ ∀ i, 0 ≤ i → i < k → ((cR h A).1 i = 0 ∨ (cR h A).1 i = 1) → ∀ w, pG (gi h (A + 1)) (gcl (rgl H x)) (mcl h A).toNat 0 v0 = some w → ∀ v, v ∈ bnd (cR h A) (cW h P) i.toNat 0 w → fndr H1 (gkk (cR h A) (gi h 4) i v)) → ∃ H', dL (d - 1) 252 2 [lR 1 11 165, lI (π j), lI x, lI k, w4] [] H1 = rV H' ∧ fgR H H' ∧ RGs R H' ∧ rmo H H' ∧ (fulR H' ∨ ∀ i, 0 ≤ i → i < gi h A 4 → ((cR h A).1 i = 0 ∨ (cR h A).1 i = 1) → ∀ w, pG (gi h (A + 1)) (gcl (rgl H x)) (mcl h A).toNat 0 v0 = some w → ∀ v, v ∈ bnd (cR h A) (cW h P) i.toNat 0 w → fndr H' (gkk (cR h A) (gi h 4) i v)) := by
    intro m
    induction m with
    | zero =>
      intro k H1 w4 k0 km f S1 m1 cl
      have c1 := celR_f c f
      refine ⟨H1, ?_, f, S1, m1, cl.imp id (fun z i i0 i1 => z i i0 (by omega))⟩
      rw [b252_2, s179 (by omega) (π j) 5 H1 hp (by omega), bk_v, c1 _ _ (by omega) (by omega), S.2.2.2.2.1, b252_9, if_neg (by omega)]
    | succ m ih =>
      intro k H1 w4 k0 km f S1 m1 cl
      have c1 := celR_f c f
      have on : ∀ (H2 : dm_H) (w4 : Option dm_V), fgR H H2 → RGs R H2 → rmo H1 H2 → (fulR H2 ∨ (((cR h A).1 k = 0 ∨ (cR h A).1 k = 1) → ∀ w, pG (gi h (A + 1)) (gcl (rgl H x)) (mcl h A).toNat 0 v0 = some w → ∀ v, v ∈ bnd (cR h A) (cW h P) k.toNat 0 w → fndr H2 (gkk (cR h A) (gi h 4) k v))) → ∃ H', dL (d - 1) 252 104 [lR 1 11 165, lI (π j), lI x, lI k, w4] [] H2 = rV H' ∧ fgR H H' ∧ RGs R H' ∧ rmo H H' ∧ (fulR H' ∨ ∀ i, 0 ≤ i → i < gi h A 4 → ((cR h A).1 i = 0 ∨ (cR h A).1 i = 1) → ∀ w, pG (gi h (A + 1)) (gcl (rgl H x)) (mcl h A).toNat 0 v0 = some w → ∀ v, v ∈ bnd (cR h A) (cW h P) i.toNat 0 w → fndr H' (gkk (cR h A) (gi h 4) i v)) := by
        intro H2 w4 f2 S2 m2 c2
        rw [b252_104, ck_p (by omega) (by omega)]
        refine ih (k + 1) H2 w4 (by omega) (by omega) f2 S2 (rmo_trans m1 m2) ?_
        by_cases y : fulR H2
        · exact Or.inl y
        refine Or.inr (fun i i0 i1 ia w hw v hv => ?_)
        by_cases e : i = k
        · subst e
          exact c2.resolve_left y ia w hw v hv
        · rcases cl with z | z
          · exact absurd (fulR_rmo m2 S2 z) y
          · exact fndr_rmo m2 (z i i0 (by omega) ia w hw v hv)
      rw [b252_2, s179 (by omega) (π j) 5 H1 hp (by omega), bk_v, c1 _ _ (by omega) (by omega), S.2.2.2.2.1, b252_9, if_pos (by omega), s180 (by omega) (π j) k H1 hp ⟨k0, by omega⟩, bk_v, show lq H1 (π j) k 0 = lq h (π j) k 0 from c1 _ _ (by omega) (by omega), b252_18]
      by_cases la : lq h (π j) k 0 = 0
      case neg =>
        rw [bi_0 la, if_pos rfl]
        exact on H1 _ f S1 (rmo_refl H1) (Or.inr (fun ia => absurd ((at1 k k0 (by omega)).mpr ia) la))
      rw [bi_1 la, if_neg (by decide)]
      have ka := (at1 k k0 (by omega)).mp la
      obtain ⟨H2, z1, z2, ⟨z3, z4, z5, z6, z7⟩, z8⟩ := s189v (d := d - 1) (by omega) k H1
      have f2 := fgR_trans f (fgR_M z2)
      have c2 := celR_f c f2
      have S2 : RGs R H2 := RGs_cg (fun a i q => z2.1 a i (by omega) (by omega) (by omega) (by omega)) S1
      have m2 : rmo H1 H2 := rmo_s (fun a i q => z2.1 a i (by omega) (by omega) (by omega) (by omega))
      have e2 : ∀ i, gi H2 172 i = gi h 172 i := fun i => c2 _ _ (by omega) (by omega)
      have s254' := s254 (d := d - 1) (h := H2) (p := π j) (n := gi h A 3) (a := gi H2 193 x) (b := gi H2 194 x) (c := gi H2 195 x) (e := mcl h A) (m := (mcl h A).toNat) (t := gi h (A + 1)) (by omega) hp (by rw [e2, S.2.1]; exact h3) (by rw [e2, S.2.2.1]; omega) (by rw [e2, S.2.2.1, c2 _ _ (by omega) (by omega), (I.1.2.2.1 _).1, q4.2]) (by omega) (by omega) (fun i i0 i1 => by rw [e2]; exact S.2.2.2.1 i i0 i1) (fun i i0 i1 => d5 i i0 (by omega))
      rw [eqx H2 S2 (rmo_trans m1 m2), z7] at s254'
      have st : dL (d - 1) 252 26 [lR 1 11 165, lI (π j), lI x, lI k, w4] [] H2 = dm_back (dL (d - 1) 252) dm_t252 51 [lR 1 11 165, lI (π j), lI x, lI k, w4] [] (dF (d - 1) 254 [dR 1 11 165, dI (π j), dI (gi H2 193 x), dI (gi H2 194 x), dI (gi H2 195 x), dI (mcl h A)] H2) := by
        rw [b252_26, ix_p hx.1 (by omega), ix_p hx.1 (by omega), ix_p hx.1 (by omega), s253' H2 c2, bk_v, b252_51]
      rw [z1, bk_n, st]
      rcases (show pG (gi h (A + 1)) (gcl (rgl H x)) (mcl h A).toNat 0 v0 = none ∨ ∃ w, pG (gi h (A + 1)) (gcl (rgl H x)) (mcl h A).toNat 0 v0 = some w from by
        cases pG (gi h (A + 1)) (gcl (rgl H x)) (mcl h A).toNat 0 v0 with
        | none => exact Or.inl rfl
        | some w => exact Or.inr ⟨w, rfl⟩) with hw | ⟨w, hw⟩
      · obtain ⟨u, y1⟩ := s254'.2 hw
        rw [y1, bk_v, b252_54, b252_56, if_pos rfl]
        exact on (sv H2 185 u) _ (fgR_trans f2 (fgR_M frM_sv)) (RGs_cg (fun a i q => gi_svn (by omega)) S2) (rmo_trans m2 (rmo_s (fun a i q => gi_svn (by omega)))) (Or.inr (fun _ w hw' => by rw [hw] at hw'; cases hw'))
      · have y1 := s254'.1 w hw
        have hJw := pG_J (fun i _ _ => (okG_r og).2 i) (v0_J (cR h A)).1 (v0_J (cR h A)).2.1 hw
        have It : Itr (rRl h (π j)) (rW h) k (sv H2 185 w) (bnd (cR h A) (cW h P) k.toNat 0 w) := Itr_put z3 z4 z5 z6 ⟨hJw.1, hJw.2.1⟩ (E1 k.toNat 0 w (by omega) (by omega))
        have f3 := fgR_trans f2 (fgR_M (frM_sv (h := H2) (w := w)))
        obtain ⟨H3, t1, t2, t3, t4, t5⟩ := ask k k0 (by omega) ka w hw (bnd (cR h A) (cW h P) k.toNat 0 w) (sv H2 185 w) (fun _ q => q) (celR_f c f3) (RGs_cg (fun a i q => gi_svn (by omega)) S2) It
        rw [y1, bk_v, b252_54, t1]
        exact on H3 _ (fgR_trans f3 t2) t3 (rmo_trans m2 (rmo_trans (rmo_s (fun a i q => gi_svn (by omega))) t4)) (t5.imp id (fun z _ w' hw' v hv => by
          rw [hw] at hw'
          cases hw'
          exact z v hv))
  obtain ⟨H', x1, x2, x3, x4, x5⟩ := loop (gi h A 4).toNat 0 H none (by omega) (by omega) (fgR_refl H) GI (rmo_refl H) (Or.inr (fun i i0 i1 => by omega))
  refine ⟨H', ?_, x2, x3, x4, x5.imp id (fun z b n => ?_)⟩
  · rw [f252 (by omega), b252_0, x1]
  · obtain ⟨-, -, w, hw, n4⟩ := n
    obtain ⟨m, m1, m2, v, v1, v2⟩ := (Tg_iff _ _ _ _).mp n4
    rw [show (0 : Int) + (m : Int) = (m : Int) by omega] at m2 v2
    rw [v2]
    exact z m (by omega) (by omega) m2 w hw v (by rw [Int.toNat_natCast]; exact v1)
end GRG
