/-! GOALS: a rule is gone through -/
section GST
variable {A P : Nat} {N L : Int} {h0 : dm_H} {R : Int → Prop}
theorem gol_step (W : SW A P N 0 h0) (hst : stl h0 A P N) (hAW : AW h0 A P N) (hrd : gi h0 137 9 = 0) (hna : gi h0 137 10 = -1) (h4 : gi h0 137 4 = 1000000) (hA3 : gr h0 161 3 = A) (hL : gi h0 A 6 = L ∧ L < N ∨ (gi h0 A 6 = L ∧ N = 0 ∧ L = -1)) (hLm : ∀ k, 0 ≤ k → k < N → (gi h0 (A + 2) k = 0 ∨ gi h0 (A + 2) k = 1) → k ≤ L)
    (hsh : ∀ k, 0 ≤ k → k < N → gi h0 (A + 2) k = 0 ∨ gi h0 (A + 2) k = 1 → ∀ i, 0 ≤ i → i < gi h0 (A + 4) k → -1 ≤ tm h0 A k i ∧ tm h0 A k i ≤ 107)
    {v : mA} (hv : Jv A h0 0 v) {h : dm_H} (J : Js A P 161 N 0 (-1) h0 h) (hva : va h 138 = v) (f0 : frVg h0 h) (S0 : GIs R h) (hB : ∀ g, Tg (cR h0 A) (cW h0 P) (gi h0 4) N.toNat 0 v g → R g) (h5 : gi h 137 5 = 0) (h2 : gi h 137 2 = 0) {d : Nat} (hd : 8 ≤ d) :
    ∃ h', dF d 22 [dR 1 5 137, dI 0] h = rV h' ∧ frVg h0 h' ∧ GIs R h' ∧ gmo h h' ∧ (fullG h' ∨ ∀ g, Tg (cR h0 A) (cW h0 P) (gi h0 4) N.toNat 0 v g → fnd h' g) := by
  have hru := W.1
  have hrw := W.2.1
  have hN4 := W.2.2.1
  have hr := ru_r hru
  have hP : P = 95 ∨ P = 112 := hrw
  have hT : ∀ k v g, 0 ≤ k → k < N → (Tg (cR h0 A) (cW h0 P) (gi h0 4) (N - k).toNat k v g ↔ (((cR h0 A).1 k = 0 ∨ (cR h0 A).1 k = 1) ∧ g = gkk (cR h0 A) (gi h0 4) k v) ∨ ∃ w, w ∈ opt (cR h0 A) (cW h0 P) k v ∧ Tg (cR h0 A) (cW h0 P) (gi h0 4) (N - (k + 1)).toNat (k + 1) w g) := by
    intro k v g a b
    rw [show (N - k).toNat = (N - (k + 1)).toNat + 1 by omega]
    rfl
  have hTN : ∀ v g, ¬ Tg (cR h0 A) (cW h0 P) (gi h0 4) (N - N).toNat N v g := by
    intro v g
    rw [show (N - N).toNat = 0 by omega]
    exact fun q => q
  have hLL : L < N ∨ N = 0 := by omega
  have hL6 : gi h0 A 6 = L := by rcases hL with z | z <;> exact z.1
  have hTL : ∀ k v g, 0 ≤ k → k < N → L ≤ k → Tg (cR h0 A) (cW h0 P) (gi h0 4) (N - k).toNat k v g → ((cR h0 A).1 k = 0 ∨ (cR h0 A).1 k = 1) ∧ g = gkk (cR h0 A) (gi h0 4) k v := by
    intro k v g a b c q
    rcases (hT k v g a b).mp q with z | ⟨w, -, z⟩
    · exact z
    · exact absurd z (Tg_none (N := N) (L := L) hLm (by omega) (by omega) (by omega))
  have hsub : ∀ k, 0 ≤ k → k < N → gi h0 (A + 2) k = 0 ∨ gi h0 (A + 2) k = 1 → (0 ≤ gi h0 (A + 3) k ∧ gi h0 (A + 3) k < 6) ∧ (0 ≤ gi h0 (A + 4) k ∧ gi h0 (A + 4) k ≤ 3) := by
    intro k k0 kN q
    rcases W.2.2.2.2 k k0 kN with z | z | z
    · exact z.2
    · omega
    · omega
  have extF : ∀ {h h' : dm_H}, frC h0 h → frC h0 h' → ext P h h' := fun a b r _ _ => by rw [(frC_e hrw hru a).1, (frC_e hrw hru b).1]; exact Int.le_refl _
  have gq : ∀ {h h' : dm_H}, Jq P h h' → GIs R h → GIs R h' := fun q s => GIs_cg (fun a i z => q.1.1 a i (by omega) (by omega) (by omega)) s
  have mq : ∀ {h h' : dm_H}, Jq P h h' → gmo h h' := fun q => gmo_s (fun a i z => q.1.1 a i (by omega) (by omega) (by omega))
  have fq : ∀ {h h' : dm_H}, Jq P h h' → fullG h → fullG h' := fun q z => by unfold fullG at z ⊢; rw [q.1.1 161 4 (by omega) (by omega) (by omega)]; exact z
  have hk1 : ∀ k, 0 ≤ k → k < L → k < N → k + 1 < N := fun k a b c => by omega
  -- a literal without, or with one way on
  have hempty : ∀ k v (hh h2 : dm_H), 0 ≤ k → k < N → opt (cR h0 A) (cW h0 P) k v = [] → frVg h0 h2 → GIs R h2 → gmo hh h2 → gi h2 137 2 = 0 → gi h2 137 5 = 0 → ((gi h0 (A + 2) k = 0 ∨ gi h0 (A + 2) k = 1) → fnd h2 (gkk (cR h0 A) (gi h0 4) k v) ∨ fullG h2) → (frVg h0 h2 ∧ GIs R h2 ∧ gmo hh h2 ∧ (gi h2 137 5 ≠ 0 → fullG h2) ∧ (k < N → gi h2 137 2 = 0) ∧ (fullG h2 ∨ ∀ g, Tg (cR h0 A) (cW h0 P) (gi h0 4) (N - k).toNat k v g → fnd h2 g)) := by
    intro k v hh h2 k0 kN ho a b c e e5 own
    refine ⟨a, b, c, fun z => absurd e5 z, fun _ => e, ?_⟩
    by_cases z : fullG h2
    · exact Or.inl z
    · refine Or.inr (fun g q => ?_)
      rcases (hT k v g k0 kN).mp q with ⟨y1, y2⟩ | ⟨w, y1, -⟩
      · rw [y2]; exact (own y1).resolve_right z
      · rw [ho] at y1; cases y1
  have hsingle : ∀ k v w (hh h2 h' : dm_H), 0 ≤ k → k < N → k < L → opt (cR h0 A) (cW h0 P) k v = [w] → gmo hh h2 → ((gi h0 (A + 2) k = 0 ∨ gi h0 (A + 2) k = 1) → fnd h2 (gkk (cR h0 A) (gi h0 4) k v) ∨ fullG h2) → (frVg h0 h' ∧ GIs R h' ∧ gmo h2 h' ∧ (gi h' 137 5 ≠ 0 → fullG h') ∧ (k + 1 < N → gi h' 137 2 = 0) ∧ (fullG h' ∨ ∀ g, Tg (cR h0 A) (cW h0 P) (gi h0 4) (N - (k + 1)).toNat (k + 1) w g → fnd h' g)) → (frVg h0 h' ∧ GIs R h' ∧ gmo hh h' ∧ (gi h' 137 5 ≠ 0 → fullG h') ∧ (k < N → gi h' 137 2 = 0) ∧ (fullG h' ∨ ∀ g, Tg (cR h0 A) (cW h0 P) (gi h0 4) (N - k).toNat k v g → fnd h' g)) := by
    rintro k v w hh h2 h' k0 kN kL ho m own ⟨a1, a2, a3, a4, a5, a6⟩
    refine ⟨a1, a2, gmo_trans m a3, a4, fun _ => a5 (by omega), ?_⟩
    rcases a6 with z | z
    · exact Or.inl z
    · by_cases y : fullG h'
      · exact Or.inl y
      refine Or.inr (fun g q => ?_)
      rcases (hT k v g k0 kN).mp q with ⟨y1, y2⟩ | ⟨u, y1, y2⟩
      · rw [y2]
        rcases own y1 with x | x
        · exact fnd_gmo a3 x
        · exact absurd (full_gmo a3 a2 x) y
      · rw [ho] at y1
        rw [List.mem_singleton.mp y1] at y2
        exact z g y2
  have hRw : ∀ k v w, 0 ≤ k → k < N → w ∈ opt (cR h0 A) (cW h0 P) k v → (∀ g, Tg (cR h0 A) (cW h0 P) (gi h0 4) (N - k).toNat k v g → R g) → ∀ g, Tg (cR h0 A) (cW h0 P) (gi h0 4) (N - (k + 1)).toNat (k + 1) w g → R g := fun k v w k0 kN hw r g q => r g ((hT k v g k0 kN).mpr (Or.inr ⟨w, hw, q⟩))
  have key := step_rule (A := A) (P := P) (V := 161) (d0 := 3) (N := N) (rd := 0) (na := -1) (h0 := h0)
    (Pre := fun k v h => frVg h0 h ∧ GIs R h ∧ gi h 137 5 = 0 ∧ gi h 137 2 = 0 ∧ (k < N ∨ k = 0) ∧ ∀ g, Tg (cR h0 A) (cW h0 P) (gi h0 4) (N - k).toNat k v g → R g)
    (Mid := fun k v h g h2 => frVg h0 h2 ∧ GIs R h2 ∧ gmo h h2 ∧ gi h2 137 2 = 0 ∧ (gi h2 137 5 ≠ 0 → fullG h2) ∧ (∀ g, Tg (cR h0 A) (cW h0 P) (gi h0 4) (N - k).toNat k v g → R g) ∧ (k < N → ((gi h0 (A + 2) k = 0 ∨ gi h0 (A + 2) k = 1) → fnd h2 (gkk (cR h0 A) (gi h0 4) k v) ∨ fullG h2) ∧ (g = 1 ↔ k < L)))
    (Post := fun k v h h' => frVg h0 h' ∧ GIs R h' ∧ gmo h h' ∧ (gi h' 137 5 ≠ 0 → fullG h') ∧ (k < N → gi h' 137 2 = 0) ∧ (fullG h' ∨ ∀ g, Tg (cR h0 A) (cW h0 P) (gi h0 4) (N - k).toNat k v g → fnd h' g))
    (LI := fun k v h h2 p hh => frVg h0 hh ∧ GIs R hh ∧ gmo h hh ∧ gi hh 137 2 = 0 ∧ (gi hh 137 5 ≠ 0 → fullG hh) ∧ (∀ g, Tg (cR h0 A) (cW h0 P) (gi h0 4) (N - k).toNat k v g → R g) ∧ k < L ∧ rsz h2 P (gi h0 (A + 3) k) = rsz h0 P (gi h0 (A + 3) k) ∧ (fnd hh (gkk (cR h0 A) (gi h0 4) k v) ∨ fullG hh) ∧ (fullG hh ∨ ∀ w, w ∈ opA (tm h0 A k) (gi h0 (A + 4) k) (rws h0 P (gi h0 (A + 3) k)) v p.toNat → ∀ g, Tg (cR h0 A) (cW h0 P) (gi h0 4) (N - (k + 1)).toNat (k + 1) w g → fnd hh g))
    W (by omega) ?hR ?hE ?hS ?hN1 ?hN2 ?hM ?hL0 ?hLt ?hLf ?hLe
  case hR =>
    rintro d k v h hd k0 kN J hva Jv ⟨p1, p2, p3, p4, p5, p6⟩
    have q : Jq P h (dpt h k) := Jq_d
    have va1 : va (dpt h k) 138 = v := by rw [← hva]; funext x; unfold va dpt; rw [gi_sin (by decide)]
    have c5 : gi (dpt h k) 137 5 = 0 := by unfold dpt; rw [gi_sij (by decide)]; exact p3
    have c2 : gi (dpt h k) 137 2 = gi h 137 2 := by unfold dpt; rw [gi_sij (by decide)]
    have f1 : frVg h0 (dpt h k) := frVg_trans p1 (frVg_q q)
    have hrch : rch d 161 k (dpt h k) = dF d 38 [dR 1 3 161, dI k] (dpt h k) := by
      unfold rch
      rw [if_neg (by omega), if_neg (by omega), if_neg (by omega), if_pos rfl]
    have A161 : gr (dpt h k) 161 3 = A := by rw [f1.2.1]; exact hA3
    have eN : gi (dpt h k) A 4 = N := by
      have := J.2.2.2.1
      unfold dpt
      rw [gi_sin (by omega)]; exact this
    have lo : ∀ a i, a < 137 → gi (dpt h k) a i = gi h0 a i := fun a i z => f1.1 a i (by omega) (by omega) (by omega) (by omega) (by omega) (by omega)
    have eR : cR (dpt h k) A = cR h0 A := (uR_cg (fun a i p q _ => lo a i (by omega))).2
    have e4 : gi (dpt h k) 4 = gi h0 4 := funext (fun i => lo _ _ (by omega))
    rw [hrch]
    by_cases e : k < N
    · obtain ⟨g, h2, x1, x2, x3, x4, x5, x6, x7, x8, x9, x10⟩ := s38 (d := d) (by omega) (R := R) A161 hru (k := k) ⟨k0, by rw [eN]; exact e⟩ (by rw [eN]; omega) (fun z => by
        rw [lo (A + 2) k (by omega)] at z
        rw [lo (A + 3) k (by omega), lo (A + 4) k (by omega)]
        exact ⟨(hsub k k0 e z).1, (hsub k k0 e z).2, fun i i0 i1 => by rw [show tm (dpt h k) A k i = tm h0 A k i from lo (A + 5) (k * 3 + i) (by omega)]; exact hsh k k0 e z i i0 i1⟩) (by rw [va1]; exact Jv.2.1) (gq q p2) (fun z => by
        rw [lo (A + 2) k (by omega)] at z
        rw [eR, e4, va1]
        exact p6 _ ((hT k v _ k0 e).mpr (Or.inl ⟨z, rfl⟩))) c5
      rw [lo (A + 2) k (by omega), eR, e4, va1] at x6
      rw [lo A 6 (by omega), hL6] at x3
      have f2 := frVg_trans f1 x8
      refine ⟨g, h2, x1, x2, frC_Js hru hrw (frC_Js hru hrw J (frC_q q)) (frVg_C x8), x9.trans va1, by rw [x10, c2], extF (frVg_C p1) (frVg_C f2), f2, x4, gmo_trans (mq q) x5, by rw [x10, c2]; exact p4, x7, p6, fun _ => ⟨x6, x3⟩⟩
    · refine ⟨0, dpt h k, ?_, Or.inl rfl, frC_Js hru hrw J (frC_q q), va1, c2, extF (frVg_C p1) (frVg_C f1), f1, gq q p2, mq q, by rw [c2]; exact p4, fun z => absurd c5 z, p6, fun z => absurd z e⟩
      rw [f38 (by omega), b38_0, A161, eN, if_neg e]
  case hE =>
    rintro v h g h2 J2 va2 Jv ⟨m1, m2, m3, m4, m5, m6, -⟩
    have q : Jq P h2 (fin h2) := Jq_tr (Jq_j (Or.inl rfl)) (Jq_j (Or.inr (Or.inr rfl)))
    have f5 : gi (fin h2) 137 5 = if gi h2 137 5 = 0 ∧ gi h2 137 2 + 1 < gi h2 137 4 then 0 else 1 := by unfold fin; rw [gi_sis]
    have e4 : gi h2 137 4 = 1000000 := by rw [m1.1 137 4 (by omega) (by omega) (by omega) (by omega) (by omega) (by omega)]; exact h4
    refine ⟨frVg_trans m1 (frVg_q q), gq q m2, gmo_trans m3 (mq q), fun z => ?_, fun z => by omega, Or.inr (fun g w => absurd w (hTN v g))⟩
    refine fq q (m5 (fun w => z ?_))
    rw [f5, if_pos ⟨w, by omega⟩]
  case hS =>
    rintro k v h g h2 k0 kN J2 va2 ⟨m1, m2, m3, m4, m5, m6, m7⟩ hz
    obtain ⟨own, gL⟩ := m7 kN
    refine ⟨m1, m2, m3, m5, fun _ => m4, ?_⟩
    rcases hz with y | y
    · by_cases z : fullG h2
      · exact Or.inl z
      refine Or.inr (fun g' w => ?_)
      obtain ⟨a, b⟩ := hTL k v g' k0 kN (by
        rcases Int.lt_or_le k L with u | u
        · have := gL.mpr u; omega
        · exact u) w
      rw [b]; exact (own a).resolve_right z
    · exact Or.inl (m5 y)
  case hN1 =>
    rintro k v h h2 k0 kN s1 J2 va2 Jv ⟨m1, m2, m3, m4, m5, m6, m7⟩ z5
    obtain ⟨own, gL⟩ := m7 kN
    have kL := gL.mp rfl
    have hr' := (hsub k k0 kN (Or.inr s1)).1
    obtain ⟨e1, e2, -, -, -⟩ := frC_e hrw hru (frVg_C m1)
    have hiff : (∃ p, 0 ≤ p ∧ p < rsz h2 P (gi h0 (A + 3) k) ∧ fitb (tm h0 A k) (gi h0 (A + 4) k).toNat v (rws h2 P (gi h0 (A + 3) k) p)) ↔ fitE (tm h0 A k) (gi h0 (A + 4) k) (rws h0 P (gi h0 (A + 3) k)) (rsz h0 P (gi h0 (A + 3) k)) v := by
      unfold fitE
      rw [e1]
      constructor
      · rintro ⟨p, p1, p2, p3⟩
        exact ⟨p, p1, p2, by rw [← e2 _ p hr'.1 hr'.2]; exact p3⟩
      · rintro ⟨p, p1, p2, p3⟩
        exact ⟨p, p1, p2, by rw [e2 _ p hr'.1 hr'.2]; exact p3⟩
    have ho : opt (cR h0 A) (cW h0 P) k v = @ite _ (fitE (tm h0 A k) (gi h0 (A + 4) k) (rws h0 P (gi h0 (A + 3) k)) (rsz h0 P (gi h0 (A + 3) k)) v) (Classical.propDecidable _) [] [v] := by
      show (if gi h0 (A + 2) k = 0 then _ else if gi h0 (A + 2) k = 1 then _ else _) = _
      rw [if_neg (by omega), if_pos s1]
      rfl
    refine ⟨fun hf => ?_, fun hf => ?_⟩
    · rw [@if_pos _ (Classical.propDecidable _) (hiff.mp hf)] at ho
      exact hempty k v h h2 k0 kN ho m1 m2 m3 m4 z5 own
    · rw [@if_neg _ (Classical.propDecidable _) (fun z => hf (hiff.mpr z))] at ho
      exact ⟨⟨m1, m2, z5, m4, Or.inl (by omega), hRw k v v k0 kN (by rw [ho]; exact List.mem_singleton.mpr rfl) m6⟩, fun h' _ _ hp => hsingle k v v h h2 h' k0 kN kL ho m3 own hp⟩
  case hN2 =>
    rintro k v h h2 k0 kN s1 J2 va2 Jv ⟨m1, m2, m3, m4, m5, m6, m7⟩ z5
    obtain ⟨own, gL⟩ := m7 kN
    have kL := gL.mp rfl
    have ho : opt (cR h0 A) (cW h0 P) k v = if cmpb (gi h0 (A + 3) k) (tv v (tm h0 A k 0)) (tv v (tm h0 A k 1)) = true then [v] else [] := by
      show (if gi h0 (A + 2) k = 0 then _ else if gi h0 (A + 2) k = 1 then _ else if gi h0 (A + 2) k = 2 then _ else _) = _
      rw [if_neg (by omega), if_neg (by omega), if_pos s1]
      rfl
    refine ⟨fun hf => ?_, fun hf => ?_⟩
    · rw [if_neg (by rw [hf]; decide)] at ho
      exact hempty k v h h2 k0 kN ho m1 m2 m3 m4 z5 own
    · rw [if_pos hf] at ho
      exact ⟨⟨m1, m2, z5, m4, Or.inl (by omega), hRw k v v k0 kN (by rw [ho]; exact List.mem_singleton.mpr rfl) m6⟩, fun h' _ _ hp => hsingle k v v h h2 h' k0 kN kL ho m3 own hp⟩
  case hM =>
    rintro k v h h2 k0 kN s1 J2 va2 Jv ⟨m1, m2, m3, m4, m5, m6, m7⟩ z5
    obtain ⟨own, gL⟩ := m7 kN
    have kL := gL.mp rfl
    have ho : opt (cR h0 A) (cW h0 P) k v = if v (slot (tm h0 A k 2)) = -1 then [upd1 v (slot (tm h0 A k 2)) (rck (gi h0 (A + 3) k) (tv v (tm h0 A k 0)) (tv v (tm h0 A k 1)))] else if v (slot (tm h0 A k 2)) = rck (gi h0 (A + 3) k) (tv v (tm h0 A k 0)) (tv v (tm h0 A k 1)) then [v] else [] := by
      show (if gi h0 (A + 2) k = 0 then _ else if gi h0 (A + 2) k = 1 then _ else if gi h0 (A + 2) k = 2 then _ else _) = _
      rw [if_neg (by omega), if_neg (by omega), if_neg (by omega)]
      rfl
    refine ⟨fun c1 => ?_, fun c1 c2 => ?_, fun c1 c2 => ?_⟩
    · rw [if_pos c1] at ho
      generalize upd1 v (slot (tm h0 A k 2)) (rck (gi h0 (A + 3) k) (tv v (tm h0 A k 0)) (tv v (tm h0 A k 1))) = w at *
      have q : Jq P h2 (sv h2 138 w) := Jq_v
      refine ⟨⟨frVg_trans m1 (frVg_q q), gq q m2, by rw [gi_svn (by decide)]; exact z5, by rw [gi_svn (by decide)]; exact m4, Or.inl (by omega), hRw k v w k0 kN (by rw [ho]; exact List.mem_singleton.mpr rfl) m6⟩, fun h' _ hp => ?_⟩
      have q' : Jq P h' (sv h' 138 v) := Jq_v
      obtain ⟨a1, a2, a3, a4, a5, a6⟩ := hsingle k v w h (sv h2 138 w) h' k0 kN kL ho (gmo_trans m3 (mq q)) (fun z => (own z).imp (fnd_gmo (mq q)) (fq q)) hp
      exact ⟨frVg_trans a1 (frVg_q q'), gq q' a2, gmo_trans a3 (mq q'), fun z => fq q' (a4 (by rw [gi_svn (by decide)] at z; exact z)), fun z => by rw [gi_svn (by decide)]; exact a5 z, a6.imp (fq q') (fun z g w => fnd_gmo (mq q') (z g w))⟩
    · rw [if_neg c1, if_pos c2] at ho
      exact ⟨⟨m1, m2, z5, m4, Or.inl (by omega), hRw k v v k0 kN (by rw [ho]; exact List.mem_singleton.mpr rfl) m6⟩, fun h' _ _ hp => hsingle k v v h h2 h' k0 kN kL ho m3 own hp⟩
    · rw [if_neg c1, if_neg c2] at ho
      exact hempty k v h h2 k0 kN ho m1 m2 m3 m4 z5 own
  case hL0 =>
    rintro k v h h2 k0 kN s1 J2 va2 Jv ⟨m1, m2, m3, m4, m5, m6, m7⟩ z5
    obtain ⟨own, gL⟩ := m7 kN
    have kL := gL.mp rfl
    exact ⟨m1, m2, m3, m4, m5, m6, kL, (frC_e hrw hru (frVg_C m1)).1 _, own (Or.inl s1), Or.inr (fun w hw => by cases hw)⟩
  case hLt =>
    rintro k v h h2 p hh w k0 kN s1 Jh vah Jv p0 pE ⟨l1, l2, l3, l4, l5, l6, l7, l8, l9, l10⟩ hst' hvis hba hrep
    have hr' := (hsub k k0 kN (Or.inl s1)).1
    obtain ⟨e1, e2, -, -, -⟩ := frC_e hrw hru (frVg_C l1)
    rw [l8] at pE
    obtain ⟨-, o2⟩ := frC_one hrw hru (frVg_C l1) ⟨k0, kN⟩ s1 hr' hst hrd hna hAW ⟨p0, pE⟩
    rw [e2 _ p hr'.1 hr'.2] at hba
    have hone := one_some (c := rws h0 P (gi h0 (A + 3) k)) (fun z => hrep (o2.mpr z)) hba
    have hop : opA (tm h0 A k) (gi h0 (A + 4) k) (rws h0 P (gi h0 (A + 3) k)) v (p + 1).toNat = opA (tm h0 A k) (gi h0 (A + 4) k) (rws h0 P (gi h0 (A + 3) k)) v p.toNat ++ [w] := by
      rw [show (p + 1).toNat = p.toNat + 1 by omega, opA_s, show ((p.toNat : Nat) : Int) = p by omega, hone]
    have ho : opt (cR h0 A) (cW h0 P) k v = opA (tm h0 A k) (gi h0 (A + 4) k) (rws h0 P (gi h0 (A + 3) k)) v (rsz h0 P (gi h0 (A + 3) k)).toNat := by
      show (if gi h0 (A + 2) k = 0 then _ else _) = _
      rw [if_pos s1]
      rfl
    have hw : w ∈ opt (cR h0 A) (cW h0 P) k v := by
      obtain ⟨r, hrr⟩ := opA_pre (tm h0 A k) (gi h0 (A + 4) k) (rws h0 P (gi h0 (A + 3) k)) v (p := (p + 1).toNat) (q := (rsz h0 P (gi h0 (A + 3) k)).toNat) (by omega)
      rw [ho, hrr, hop]
      exact List.mem_append_left _ (List.mem_append_right _ (List.mem_singleton.mpr rfl))
    have q : Jq P hh (si (sv hh 138 w) 139 k p) := Jq_tr Jq_v Jq_p
    have eX : ∀ i, gi (si (sv hh 138 w) 139 k p) 137 i = gi hh 137 i := fun i => by rw [gi_sin (by decide), gi_svn (by decide)]
    refine ⟨⟨frVg_trans l1 (frVg_q q), gq q l2, by rw [eX]; exact hst', by rw [eX]; exact l4, Or.inl (by omega), hRw k v w k0 kN hw l6⟩, fun h' J' ⟨a1, a2, a3, a4, a5, a6⟩ => ?_⟩
    have q' : Jq P h' (sv h' 138 v) := Jq_v
    have gg : gmo hh h' := gmo_trans (mq q) a3
    refine ⟨frVg_trans a1 (frVg_q q'), gq q' a2, gmo_trans l3 (gmo_trans gg (mq q')), by rw [gi_svn (by decide)]; exact a5 (hk1 k k0 l7 kN), fun z => fq q' (a4 (by rw [gi_svn (by decide)] at z; exact z)), l6, l7, l8, ?_, ?_⟩
    · rcases l9 with z | z
      · exact Or.inl (fnd_gmo (mq q') (fnd_gmo gg z))
      · exact Or.inr (fq q' (full_gmo gg a2 z))
    · by_cases y : fullG h'
      · exact Or.inl (fq q' y)
      refine Or.inr (fun u hu g ht => ?_)
      rw [hop] at hu
      rcases List.mem_append.mp hu with z | z
      · rcases l10 with x | x
        · exact absurd (full_gmo gg a2 x) y
        · exact fnd_gmo (mq q') (fnd_gmo gg (x u z g ht))
      · rw [List.mem_singleton.mp z] at ht
        exact fnd_gmo (mq q') (a6.resolve_left y g ht)
  case hLf =>
    rintro k v h h2 p hh z k0 kN s1 Jh vah Jv p0 pE ⟨l1, l2, l3, l4, l5, l6, l7, l8, l9, l10⟩ hst' hno
    have hr' := (hsub k k0 kN (Or.inl s1)).1
    obtain ⟨e1, e2, -, -, -⟩ := frC_e hrw hru (frVg_C l1)
    rw [l8] at pE
    obtain ⟨o1, o2⟩ := frC_one hrw hru (frVg_C l1) ⟨k0, kN⟩ s1 hr' hst hrd hna hAW ⟨p0, pE⟩
    rw [e2 _ p hr'.1 hr'.2] at hno
    have hone : one (tm h0 A k) (gi h0 (A + 4) k) (rws h0 P (gi h0 (A + 3) k)) v p = [] := by
      refine one_none ?_
      by_cases c1 : ∃ e, 0 ≤ e ∧ e < p ∧ alike (tm h0 A k) (gi h0 (A + 4) k) (rws h0 P (gi h0 (A + 3) k) e) (rws h0 P (gi h0 (A + 3) k) p)
      · exact Or.inl c1
      · right
        cases hb : bA (tm h0 A k) (rws h0 P (gi h0 (A + 3) k) p) (gi h0 (A + 4) k).toNat 0 v with
        | none => rfl
        | some u => exact absurd ⟨o1, ⟨u, hb⟩, fun z => c1 (o2.mp z)⟩ hno
    have hop : opA (tm h0 A k) (gi h0 (A + 4) k) (rws h0 P (gi h0 (A + 3) k)) v (p + 1).toNat = opA (tm h0 A k) (gi h0 (A + 4) k) (rws h0 P (gi h0 (A + 3) k)) v p.toNat := by
      rw [show (p + 1).toNat = p.toNat + 1 by omega, opA_s, show ((p.toNat : Nat) : Int) = p by omega, hone, List.append_nil]
    have q : Jq P hh (si hh 139 k z) := Jq_p
    have eY : ∀ i, gi (si hh 139 k z) 137 i = gi hh 137 i := fun i => gi_sin (by decide)
    refine ⟨frVg_trans l1 (frVg_q q), gq q l2, gmo_trans l3 (mq q), by rw [eY]; exact l4, fun w => fq q (l5 (by rw [eY] at w; exact w)), l6, l7, l8, l9.imp (fnd_gmo (mq q)) (fq q), ?_⟩
    rw [hop]
    exact l10.imp (fq q) (fun y u hu g ht => fnd_gmo (mq q) (y u hu g ht))
  case hLe =>
    rintro k v h h2 p hh k0 kN s1 Jh vah ⟨l1, l2, l3, l4, l5, l6, l7, l8, l9, l10⟩ p0 pE hend
    refine ⟨l1, l2, l3, l5, fun _ => l4, ?_⟩
    by_cases y : fullG hh
    · exact Or.inl y
    have l9' := l9.resolve_right y
    have l10' := l10.resolve_left y
    rcases hend with z | z
    · rw [l8] at z
      have ho : opt (cR h0 A) (cW h0 P) k v = opA (tm h0 A k) (gi h0 (A + 4) k) (rws h0 P (gi h0 (A + 3) k)) v (rsz h0 P (gi h0 (A + 3) k)).toNat := by
        show (if gi h0 (A + 2) k = 0 then _ else _) = _
        rw [if_pos s1]
        rfl
      refine Or.inr (fun g q => ?_)
      rcases (hT k v g k0 kN).mp q with ⟨y1, y2⟩ | ⟨u, y1, y2⟩
      · rw [y2]; exact l9'
      · rw [ho, ← z] at y1
        exact l10' u y1 g y2
    · exact absurd (l5 z) y
  obtain ⟨h', x1, x2, x3, x4, x5, x6, x7⟩ := key N.toNat d 0 v h (by omega) (by omega) (by omega) J hva hv ⟨f0, S0, h5, h2, Or.inr rfl, by rw [show (N - 0).toNat = N.toNat by omega]; exact hB⟩ (by omega) (by
    have hb0 : gi h 137 2 = 0 := h2
    rw [hb0]
    have : bb ((N.toNat : Nat) : Int) ≤ 1048576 := by
      unfold bb
      have h1 : 32 ^ ((N.toNat : Nat) : Int).toNat ≤ 32 ^ 4 := Nat.pow_le_pow_right (by omega) (by omega)
      omega
    omega)
  rw [show (N - 0).toNat = N.toNat by omega] at x7
  exact ⟨h', x1, x7.1, x7.2.1, x7.2.2.1, x7.2.2.2.2.2⟩
end GST
