/-! GOALS that a rule asks on its way -/
section GVI
/-- what literal k asks of its i-th column -/
def akv (ρ : mR) (kd : Int → Int) (k : Int) (v : mA) (i : Int) : Int := if ρ.2.2.1 k ≤ i then 0 else if kd (ρ.2.1 k) ≠ 0 ∧ i = ρ.2.2.1 k - 1 then -1 else tv v (ρ.2.2.2 k i)
def gkk (ρ : mR) (kd : Int → Int) (k : Int) (v : mA) : Int := gcode (ρ.2.1 k) (akv ρ kd k v 0) (akv ρ kd k v 1) (akv ρ kd k v 2)
/-- what is asked from literal k on -/
def Tg (ρ : mR) (ω : mW) (kd : Int → Int) : Nat → Int → mA → Int → Prop
  | 0, _, _, _ => False
  | n + 1, k, v, g => ((ρ.1 k = 0 ∨ ρ.1 k = 1) ∧ g = gkk ρ kd k v) ∨ ∃ w, w ∈ opt ρ ω k v ∧ Tg ρ ω kd n (k + 1) w g
theorem Tg_iff {ρ : mR} {ω : mW} {kd : Int → Int} : ∀ (n : Nat) (k : Int) (v : mA) (g : Int), Tg ρ ω kd n k v g ↔ ∃ m : Nat, m < n ∧ (ρ.1 (k + m) = 0 ∨ ρ.1 (k + m) = 1) ∧ ∃ w, w ∈ bnd ρ ω m k v ∧ g = gkk ρ kd (k + m) w
  | 0, k, v, g => ⟨fun q => q.elim, fun ⟨m, q, _⟩ => by omega⟩
  | n + 1, k, v, g => by
    show (((ρ.1 k = 0 ∨ ρ.1 k = 1) ∧ g = gkk ρ kd k v) ∨ ∃ w, w ∈ opt ρ ω k v ∧ Tg ρ ω kd n (k + 1) w g) ↔ _
    constructor
    · rintro (⟨q1, q2⟩ | ⟨w, w1, w2⟩)
      · refine ⟨0, by omega, ?_, v, List.mem_singleton.mpr rfl, ?_⟩
        · rw [show k + ((0 : Nat) : Int) = k by omega]; exact q1
        · rw [show k + ((0 : Nat) : Int) = k by omega]; exact q2
      · obtain ⟨m, m1, m2, x, x1, x2⟩ := (Tg_iff n (k + 1) w g).mp w2
        have e : k + ((m + 1 : Nat) : Int) = k + 1 + (m : Int) := by omega
        exact ⟨m + 1, by omega, by rw [e]; exact m2, x, List.mem_flatMap.mpr ⟨w, w1, x1⟩, by rw [e]; exact x2⟩
    · rintro ⟨m, m1, m2, x, x1, x2⟩
      cases m with
      | zero =>
        rw [show k + ((0 : Nat) : Int) = k by omega] at m2 x2
        have := List.mem_singleton.mp (show x ∈ [v] from x1)
        rw [this] at x2
        exact Or.inl ⟨m2, x2⟩
      | succ m =>
        have e : k + ((m + 1 : Nat) : Int) = k + 1 + (m : Int) := by omega
        rw [e] at m2 x2
        obtain ⟨w, w1, w2⟩ := List.mem_flatMap.mp (show x ∈ (opt ρ ω k v).flatMap (fun w => bnd ρ ω m (k + 1) w) from x1)
        exact Or.inr ⟨w, w1, (Tg_iff n (k + 1) w g).mpr ⟨m, by omega, m2, x, w2, x2⟩⟩
theorem Tg_none {ρ : mR} {ω : mW} {kd : Int → Int} {N L : Int} (hL : ∀ k, 0 ≤ k → k < N → (ρ.1 k = 0 ∨ ρ.1 k = 1) → k ≤ L) {n : Nat} {k : Int} {v : mA} {g : Int} (k0 : 0 ≤ k) (kn : k + n ≤ N) (kL : L < k) : ¬ Tg ρ ω kd n k v g := by
  intro q
  obtain ⟨m, m1, m2, -⟩ := (Tg_iff n k v g).mp q
  have := hL (k + m) (by omega) (by omega) m2
  omega
theorem akv_r {ρ : mR} {kd : Int → Int} {k : Int} {v : mA} (hv : vr v) (ht : ∀ i, 0 ≤ i → i < ρ.2.2.1 k → -1 ≤ ρ.2.2.2 k i ∧ ρ.2.2.2 k i ≤ 107) {i : Int} (i0 : 0 ≤ i) : -1 ≤ akv ρ kd k v i ∧ akv ρ kd k v i ≤ 99 := by
  unfold akv
  split
  · omega
  split
  · omega
  have := ht i i0 (by omega)
  unfold tv
  split
  · omega
  split
  · omega
  · have := hv (ρ.2.2.2 k i - 100)
    omega
section
variable {h : dm_H} {A : Nat}
theorem s40 {d : Nat} (hd : 2 ≤ d) (hA : gr h 161 3 = A) (hru : ru A) {k i : Int} (hk : 0 ≤ k ∧ k < 4) (hi : 0 ≤ i ∧ i < 3) (hs : 0 ≤ gi h (A + 3) k ∧ gi h (A + 3) k < 6) (hw : 0 ≤ gi h (A + 4) k ∧ gi h (A + 4) k ≤ 3) : dF d 40 [dR 1 3 161, dI k, dI i] h = rI (akv (cR h A) (gi h 4) k (va h 138) i) h := by
  have e57 : ∀ (w3 w4 : Option dm_V), dL (d - 1) 40 57 [lR 1 3 161, lI k, lI i, w3, w4] [dI 0] h = rI (tv (va h 138) (tm h A k i)) h := by
    intro w3 w4
    rw [b40_57, if_pos rfl, ck_p (by omega) (by omega), ck_p (by omega) (by omega), ix_p (by omega) (by omega), hA, s31 (by omega), bk_v, b40_95, tv_va]
    rfl
  unfold akv
  show _ = rI (if gi h (A + 4) k ≤ i then 0 else if gi h 4 (gi h (A + 3) k) ≠ 0 ∧ i = gi h (A + 4) k - 1 then -1 else tv (va h 138) (tm h A k i)) h
  rw [f40 (by omega), b40_0, ix_p hk.1 (by omega), ix_p hk.1 (by omega), hA]
  by_cases z : i < gi h (A + 4) k
  · rw [if_pos z, ix_p hs.1 (by omega), if_neg (show ¬ gi h (A + 4) k ≤ i by omega)]
    by_cases y : gi h 4 (gi h (A + 3) k) = 0
    · rw [if_pos y, b40_56, e57, if_neg (fun q => q.1 y)]
    · rw [if_neg y, ix_p hk.1 (by omega), ck_p (by omega) (by omega)]
      by_cases x : i = gi h (A + 4) k - 1
      · rw [if_pos x, b40_57, if_neg (by decide), b40_95, if_pos ⟨y, x⟩]
      · rw [if_neg x, b40_56, e57, if_neg (fun q => x q.2)]
  · rw [if_neg z, if_pos (by omega)]
/-- what the search for goals may touch -/
def frVg (h h' : dm_H) : Prop := (∀ a i, a ≠ 138 → a ≠ 139 → ¬ (a = 137 ∧ (i = 2 ∨ i = 3 ∨ i = 5)) → ¬ (a = 161 ∧ i = 4) → a ≠ 162 → a ≠ 163 → gi h' a i = gi h a i) ∧ (∀ a i, gr h' a i = gr h a i) ∧ h'.2.2 = h.2.2
theorem frVg_refl (h : dm_H) : frVg h h := ⟨fun _ _ _ _ _ _ _ _ => rfl, fun _ _ => rfl, rfl⟩
theorem frVg_trans {h h1 h2 : dm_H} (a : frVg h h1) (b : frVg h1 h2) : frVg h h2 := ⟨fun c i p q r s t u => by rw [b.1 c i p q r s t u, a.1 c i p q r s t u], fun c i => by rw [b.2.1, a.2.1], by rw [b.2.2, a.2.2]⟩
theorem frVg_C {h h' : dm_H} (f : frVg h h') : frC h h' := ⟨fun a i p q r s => f.1 a i q r s (by omega) (by omega) (by omega), f.2.1, f.2.2⟩
theorem frVg_q {P : Nat} {h h' : dm_H} (q : Jq P h h') : frVg h h' := ⟨fun a i p r s _ _ _ => q.1.1 a i p r s, q.1.2, q.2⟩
theorem frVg_o {h h' : dm_H} (f : frGo h h') : frVg h h' := ⟨fun a i _ _ _ s t u => f.1 a i s t u, f.2.1, f.2.2⟩
def fullG (h : dm_H) : Prop := gi h 161 4 = 500
def GIs (R : Int → Prop) (h : dm_H) : Prop := HSg h ∧ ∀ x, 0 ≤ x → x < gi h 161 4 → R (gi h 162 x)
def gmo (h h' : dm_H) : Prop := gi h 161 4 ≤ gi h' 161 4 ∧ ∀ x, 0 ≤ x → x < gi h 161 4 → gi h' 162 x = gi h 162 x
theorem gmo_refl (h : dm_H) : gmo h h := ⟨Int.le_refl _, fun _ _ _ => rfl⟩
theorem gmo_trans {h h1 h2 : dm_H} (a : gmo h h1) (b : gmo h1 h2) : gmo h h2 := ⟨Int.le_trans a.1 b.1, fun x x0 x1 => by rw [b.2 x x0 (by have := a.1; omega), a.2 x x0 x1]⟩
theorem gmo_s {h h' : dm_H} (e : ∀ a i, (a = 161 ∧ i = 4) ∨ a = 162 → gi h' a i = gi h a i) : gmo h h' := ⟨by rw [e 161 4 (by omega)]; omega, fun x _ _ => e _ _ (by omega)⟩
theorem fnd_gmo {h h' : dm_H} {g : Int} (a : gmo h h') (f : fnd h g) : fnd h' g := by
  obtain ⟨x, hx, e⟩ := f
  exact ⟨x, ⟨hx.1, by have := a.1; omega⟩, by rw [a.2 x hx.1 hx.2]; exact e⟩
theorem full_gmo {R : Int → Prop} {h h' : dm_H} (a : gmo h h') (i : GIs R h') (f : fullG h) : fullG h' := by
  have := i.1.1
  have := a.1
  unfold fullG at f ⊢
  omega
theorem HSg_cg {h h' : dm_H} (e : ∀ a i, (a = 161 ∧ i = 4) ∨ a = 162 ∨ a = 163 → gi h' a i = gi h a i) (S : HSg h) : HSg h' := by
  have e1 := e 161 4 (by omega)
  have e2 : ∀ x, gi h' 162 x = gi h 162 x := fun x => e _ _ (by omega)
  have e3 : ∀ x, gi h' 163 x = gi h 163 x := fun x => e _ _ (by omega)
  unfold HSg
  simp only [e1, e2, e3]
  exact S
theorem GIs_cg {R : Int → Prop} {h h' : dm_H} (e : ∀ a i, (a = 161 ∧ i = 4) ∨ a = 162 ∨ a = 163 → gi h' a i = gi h a i) (S : GIs R h) : GIs R h' := ⟨HSg_cg e S.1, fun x x0 x1 => by rw [e 162 x (by omega)]; exact S.2 x x0 (by rw [← e 161 4 (by omega)]; exact x1)⟩
theorem askd_all {R : Int → Prop} {h h' : dm_H} {g : Int} (S : GIs R h) (S' : HSg h') (a : askd g h h') (r : R g) : GIs R h' ∧ gmo h h' ∧ (fnd h' g ∨ fullG h') := by
  rcases a with ⟨rfl, q⟩ | ⟨q1, q2, q3⟩
  · exact ⟨S, gmo_refl _, q.elim (fun z => Or.inr z) Or.inl⟩
  · refine ⟨⟨S', fun x x0 x1 => ?_⟩, ⟨by omega, q3⟩, Or.inl ⟨gi h 161 4, ⟨S.1.1.1, by omega⟩, q2⟩⟩
    by_cases z : x = gi h 161 4
    · rw [z, q2]; exact r
    · rw [q3 x x0 (by omega)]; exact S.2 x x0 (by omega)
/-- the visitor is shown a literal -/
theorem s38 {d : Nat} (hd : 3 ≤ d) {R : Int → Prop} (hA : gr h 161 3 = A) (hru : ru A) {k : Int} (hk : 0 ≤ k ∧ k < gi h A 4) (h4 : gi h A 4 ≤ 4) (hsh : gi h (A + 2) k = 0 ∨ gi h (A + 2) k = 1 → (0 ≤ gi h (A + 3) k ∧ gi h (A + 3) k < 6) ∧ (0 ≤ gi h (A + 4) k ∧ gi h (A + 4) k ≤ 3) ∧ ∀ i, 0 ≤ i → i < gi h (A + 4) k → -1 ≤ tm h A k i ∧ tm h A k i ≤ 107) (hv : vr (va h 138)) (S : GIs R h) (hR : gi h (A + 2) k = 0 ∨ gi h (A + 2) k = 1 → R (gkk (cR h A) (gi h 4) k (va h 138))) (h5 : gi h 137 5 = 0) :
    ∃ g h2, dF d 38 [dR 1 3 161, dI k] h = rI g h2 ∧ (g = 0 ∨ g = 1) ∧ (g = 1 ↔ k < gi h A 6) ∧ GIs R h2 ∧ gmo h h2 ∧ (gi h (A + 2) k = 0 ∨ gi h (A + 2) k = 1 → fnd h2 (gkk (cR h A) (gi h 4) k (va h 138)) ∨ fullG h2) ∧ (gi h2 137 5 ≠ 0 → fullG h2) ∧ frVg h h2 ∧ va h2 138 = va h 138 ∧ gi h2 137 2 = gi h 137 2 := by
  have hr := ru_r hru
  have st : ∃ h1, dF d 38 [dR 1 3 161, dI k] h = dL (d - 1) 38 58 [lR 1 3 161, lI k] [] h1 ∧ GIs R h1 ∧ gmo h h1 ∧ (gi h (A + 2) k = 0 ∨ gi h (A + 2) k = 1 → fnd h1 (gkk (cR h A) (gi h 4) k (va h 138)) ∨ fullG h1) ∧ frGo h h1 := by
    rw [f38 (by omega), b38_0, hA, if_pos hk.2, s39 (by omega) A k h (by omega), bk_v, b38_21]
    by_cases z : gi h (A + 2) k = 0 ∨ gi h (A + 2) k = 1
    · obtain ⟨z1, z2, z3⟩ := hsh z
      have rr := fun i (i0 : (0 : Int) ≤ i) => akv_r (ρ := cR h A) (kd := gi h 4) (k := k) hv z3 i0
      have gr' := gcode_r z1 (rr 0 (by omega)) (rr 1 (by omega)) (rr 2 (by omega))
      obtain ⟨h1, x1, x2, x3, x4⟩ := s42 (d := d - 1) (by omega) S.1 (g := gkk (cR h A) (gi h 4) k (va h 138)) gr'.1.1
      obtain ⟨y1, y2, y3⟩ := askd_all S x2 x4 (hR z)
      refine ⟨h1, ?_, y1, y2, fun _ => y3, x3⟩
      rw [bi_1 z, if_neg (by decide), ix_p hk.1 (by omega), s40 (by omega) hA hru (by omega) (by omega) z1 z2, bk_v, b38_40, s40 (by omega) hA hru (by omega) (by omega) z1 z2, bk_v, b38_46, s40 (by omega) hA hru (by omega) (by omega) z1 z2, bk_v, b38_52, hA, s41 (by omega) z1 (rr 0 (by omega)) (rr 1 (by omega)) (rr 2 (by omega)), bk_v, b38_55]
      show dm_back _ _ _ _ _ (dF (d - 1) 42 [dR 1 3 161, dI (gkk (cR h A) (gi h 4) k (va h 138))] h) = _
      rw [x1, bk_n]
    · rw [bi_0 z, if_pos rfl]
      exact ⟨h, rfl, S, gmo_refl h, fun w => absurd w z, ⟨fun _ _ _ _ _ => rfl, fun _ _ => rfl, rfl⟩⟩
  obtain ⟨h1, x1, x2, x3, x4, x5⟩ := st
  have va1 : va h1 138 = va h 138 := by funext s; unfold va; rw [x5.1 138 s (by omega) (by omega) (by omega)]
  have g6 : gi h1 A 6 = gi h A 6 := x5.1 _ _ (by omega) (by omega) (by omega)
  have fin : ∀ h2, (∀ a i, ¬ (a = 137 ∧ i = 5) → gi h2 a i = gi h1 a i) → (∀ a i, gr h2 a i = gr h1 a i) → h2.2.2 = h1.2.2 → dF d 38 [dR 1 3 161, dI k] h = dL (d - 1) 38 75 [lR 1 3 161, lI k] [] h2 → (gi h2 137 5 ≠ 0 → fullG h2) → ∃ g h2, dF d 38 [dR 1 3 161, dI k] h = rI g h2 ∧ (g = 0 ∨ g = 1) ∧ (g = 1 ↔ k < gi h A 6) ∧ GIs R h2 ∧ gmo h h2 ∧ (gi h (A + 2) k = 0 ∨ gi h (A + 2) k = 1 → fnd h2 (gkk (cR h A) (gi h 4) k (va h 138)) ∨ fullG h2) ∧ (gi h2 137 5 ≠ 0 → fullG h2) ∧ frVg h h2 ∧ va h2 138 = va h 138 ∧ gi h2 137 2 = gi h 137 2 := by
    intro h2 e er ez c q5
    have S2 : GIs R h2 := GIs_cg (fun a i q => e a i (by omega)) x2
    have g2 : gmo h1 h2 := gmo_s (fun a i q => e a i (by omega))
    have v2 : va h2 138 = va h 138 := by rw [← va1]; funext s; unfold va; rw [e 138 s (by omega)]
    have fr : frVg h h2 := frVg_trans (frVg_o x5) ⟨fun a i _ _ r _ _ _ => e a i (by omega), er, ez⟩
    have f2 : gi h2 137 2 = gi h 137 2 := by rw [e _ _ (by omega), x5.1 _ _ (by omega) (by omega) (by omega)]
    have own : gi h (A + 2) k = 0 ∨ gi h (A + 2) k = 1 → fnd h2 (gkk (cR h A) (gi h 4) k (va h 138)) ∨ fullG h2 := fun w => (x4 w).imp (fnd_gmo g2) (full_gmo g2 S2)
    rw [b38_75, er, x5.2.1, hA, e A 6 (by omega), g6] at c
    by_cases z : k < gi h A 6
    · rw [if_pos z, b38_91, z1_p (Or.inr rfl)] at c
      exact ⟨1, h2, c, Or.inr rfl, ⟨fun _ => z, fun _ => rfl⟩, S2, gmo_trans x3 g2, own, q5, fr, v2, f2⟩
    · rw [if_neg z, b38_91, z1_p (Or.inl rfl)] at c
      exact ⟨0, h2, c, Or.inl rfl, ⟨fun w => by omega, fun w => absurd w z⟩, S2, gmo_trans x3 g2, own, q5, fr, v2, f2⟩
  rw [b38_58] at x1
  by_cases z : gi h1 161 4 < 500
  · rw [if_pos z] at x1
    refine fin h1 (fun _ _ _ => rfl) (fun _ _ => rfl) rfl x1 (fun w => ?_)
    rw [x5.1 137 5 (by omega) (by omega) (by omega)] at w
    exact absurd h5 w
  · rw [if_neg z, f37 (by omega), b37_0, bk_n] at x1
    refine fin (si h1 137 5 1) (fun a i q => by rw [gi_si, if_neg q]) (fun _ _ => rfl) rfl x1 (fun _ => ?_)
    unfold fullG
    rw [gi_sin (by decide)]
    have := x2.1.1
    omega
end
end GVI
