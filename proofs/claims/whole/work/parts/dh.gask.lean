/-! GOALS: their numbers; what was asked already -/
section GAS
variable {h : dm_H}
theorem db_shlN {a j : Nat} (hj : j < 31) (h : a * 2 ^ j < 2 ^ 31) : dm_shl a j = ((a * 2 ^ j : Nat) : Int) := by
  unfold dm_shl
  rw [db_and31 hj, db_I a, pk_shlN (nI j) j (db_smod ⟨j, hj⟩) (by omega), db_toInt h]
/-- the number of a goal -/
def gcode (r a b c : Int) : Int := r * 2097152 + (a + 1) * 16384 + (b + 1) * 128 + (c + 1)
/-- a column of a goal -/
def gcl (g : Int) : Int → Int := fun i => if i = 0 then g / 16384 % 128 - 1 else if i = 1 then g / 128 % 128 - 1 else g % 128 - 1
def grl (g : Int) : Int := g / 2097152
theorem gcode_r {r a b c : Int} (hr : 0 ≤ r ∧ r < 6) (ha : -1 ≤ a ∧ a ≤ 99) (hb : -1 ≤ b ∧ b ≤ 99) (hc : -1 ≤ c ∧ c ≤ 99) : (0 ≤ gcode r a b c ∧ gcode r a b c < 12582912) ∧ grl (gcode r a b c) = r ∧ gcl (gcode r a b c) = f3 a b c := by
  unfold gcode grl
  refine ⟨by omega, by omega, ?_⟩
  funext i
  unfold gcl f3
  split
  · omega
  split <;> omega
theorem s41 {d : Nat} (hd : 1 ≤ d) {r a b c : Int} (hr : 0 ≤ r ∧ r < 6) (ha : -1 ≤ a ∧ a ≤ 99) (hb : -1 ≤ b ∧ b ≤ 99) (hc : -1 ≤ c ∧ c ≤ 99) : dF d 41 [dI r, dI a, dI b, dI c] h = rI (gcode r a b c) h := by
  rw [f41 (by omega), b41_0, ck_p (by omega) (by omega), ck_p (by omega) (by omega), ck_p (by omega) (by omega)]
  obtain ⟨R, eR⟩ : ∃ R : Nat, r = R := ⟨r.toNat, by omega⟩
  obtain ⟨x, ex⟩ : ∃ x : Nat, a + 1 = x := ⟨(a + 1).toNat, by omega⟩
  obtain ⟨y, ey⟩ : ∃ y : Nat, b + 1 = y := ⟨(b + 1).toNat, by omega⟩
  obtain ⟨z, ez⟩ : ∃ z : Nat, c + 1 = z := ⟨(c + 1).toNat, by omega⟩
  have e1 : (2 : Nat) ^ 21 = 2097152 := by decide
  have e2 : (2 : Nat) ^ 14 = 16384 := by decide
  have e3 : (2 : Nat) ^ 7 = 128 := by decide
  have e31 : (2 : Nat) ^ 31 = 2147483648 := by decide
  have s1 := db_shlN (a := R) (j := 21) (by omega) (by rw [e1, e31]; omega)
  have s2 := db_shlN (a := x) (j := 14) (by omega) (by rw [e2, e31]; omega)
  have s3 := db_shlN (a := y) (j := 7) (by omega) (by rw [e3, e31]; omega)
  rw [e1] at s1
  rw [e2] at s2
  rw [e3] at s3
  have s1 : dm_shl (R : Int) 21 = ((R * 2097152 : Nat) : Int) := s1
  have s2 : dm_shl (x : Int) 14 = ((x * 16384 : Nat) : Int) := s2
  have s3 : dm_shl (y : Int) 7 = ((y * 128 : Nat) : Int) := s3
  rw [eR, ex, ey, ez, s1, s2, s3]
  have o1 : R * 2097152 ||| x * 16384 = R * 2097152 + x * 16384 := by
    have := Nat.two_pow_add_eq_or_of_lt (b := x * 16384) (i := 21) (by rw [e1]; omega) R
    rw [e1, Nat.mul_comm 2097152 R] at this
    exact this.symm
  have o2 : (R * 2097152 + x * 16384) ||| y * 128 = R * 2097152 + x * 16384 + y * 128 := by
    have := Nat.two_pow_add_eq_or_of_lt (b := y * 128) (i := 14) (by rw [e2]; omega) (R * 128 + x)
    rw [e2, show 16384 * (R * 128 + x) = R * 2097152 + x * 16384 by omega] at this
    exact this.symm
  have o3 : (R * 2097152 + x * 16384 + y * 128) ||| z = R * 2097152 + x * 16384 + y * 128 + z := by
    have := Nat.two_pow_add_eq_or_of_lt (b := z) (i := 7) (by rw [e3]; omega) (R * 16384 + x * 128 + y)
    rw [e3, show 128 * (R * 16384 + x * 128 + y) = R * 2097152 + x * 16384 + y * 128 by omega] at this
    exact this.symm
  rw [db_or _ _ (by omega) (by omega), o1, db_or _ _ (by omega) (by omega), o2, db_or _ _ (by omega) (by omega), o3]
  refine congrArg (fun w => rI w h) ?_
  unfold gcode
  omega
theorem shr_g {g : Int} (hg : 0 ≤ g ∧ g < 2147483648) {j : Nat} (hj : j < 31) : dm_shr g j = g / ((2 ^ j : Nat) : Int) := by
  have := db_shr g.toNat j (by omega) hj
  rw [show ((g.toNat : Nat) : Int) = g by omega] at this
  rw [this, Int.natCast_ediv, show ((g.toNat : Nat) : Int) = g by omega]
theorem and_m {y : Int} (hy : 0 ≤ y ∧ y < 2147483648) {n : Nat} (hn : n < 31) : dm_and y (((2 ^ n : Nat) : Int) - 1) = y % ((2 ^ n : Nat) : Int) := by
  have h1 : 2 ^ n < 2 ^ 31 := Nat.pow_lt_pow_right (by omega) hn
  have h0 : 0 < 2 ^ n := Nat.two_pow_pos n
  have := db_and y.toNat (2 ^ n - 1) (by omega) (by omega)
  rw [Nat.and_two_pow_sub_one_eq_mod, show ((y.toNat : Nat) : Int) = y by omega, show ((2 ^ n - 1 : Nat) : Int) = ((2 ^ n : Nat) : Int) - 1 by omega] at this
  rw [this, Int.natCast_emod, show ((y.toNat : Nat) : Int) = y by omega]
theorem and1023 (y : Int) : 0 ≤ dm_and y 1023 ∧ dm_and y 1023 < 1024 := by
  unfold dm_and
  have hn : (Int32.ofInt y &&& Int32.ofInt 1023).toBitVec.toNat ≤ 1023 := by
    rw [Int32.toBitVec_and, BitVec.toNat_and, show (Int32.ofInt 1023).toBitVec.toNat = 1023 from by decide]
    exact Nat.and_le_right
  show 0 ≤ (Int32.ofInt y &&& Int32.ofInt 1023).toBitVec.toInt ∧ (Int32.ofInt y &&& Int32.ofInt 1023).toBitVec.toInt < 1024
  rw [BitVec.toInt_eq_toNat_of_lt (by omega)]
  omega
def hsh (g : Int) : Int := dm_and (dm_xor (dm_xor g (dm_shr g 7)) (dm_shr g 14)) 1023
/-- where a goal is looked for at the t-th try -/
def hst (g t : Int) : Int := (hsh g + t) % 1024
/-- the goals found, and the places that lead to them -/
def HSg (h : dm_H) : Prop := (0 ≤ gi h 161 4 ∧ gi h 161 4 ≤ 500) ∧ (∀ x, 0 ≤ x → x < gi h 161 4 → 0 ≤ gi h 162 x) ∧ (∀ x y, 0 ≤ x → x < y → y < gi h 161 4 → gi h 162 x ≠ gi h 162 y) ∧ (∀ s, 0 ≤ s → s < 1024 → gi h 163 s = -1 ∨ ∃ x, (0 ≤ x ∧ x < gi h 161 4) ∧ gi h 163 s = gi h 162 x) ∧ (∀ s s', 0 ≤ s → s < s' → s' < 1024 → gi h 163 s = gi h 163 s' → gi h 163 s = -1) ∧ ∀ x, 0 ≤ x → x < gi h 161 4 → ∃ t, (0 ≤ t ∧ t < 1024) ∧ gi h 163 (hst (gi h 162 x) t) = gi h 162 x ∧ ∀ t', 0 ≤ t' → t' < t → gi h 163 (hst (gi h 162 x) t') ≠ -1
theorem hst_r (g t : Int) : 0 ≤ hst g t ∧ hst g t < 1024 := by unfold hst; omega
theorem HSg_free (S : HSg h) : ∃ s, (0 ≤ s ∧ s < 1024) ∧ gi h 163 s = -1 := by
  refine Classical.byContradiction (fun q => ?_)
  obtain ⟨s1, s2, s3, s4, s5, s6⟩ := S
  have full : ∀ s, 0 ≤ s → s < 1024 → ∃ x, (0 ≤ x ∧ x < gi h 161 4) ∧ gi h 163 s = gi h 162 x := fun s a b => (s4 s a b).resolve_left (fun z => q ⟨s, ⟨a, b⟩, z⟩)
  have hx : ∀ s, ∃ x, 0 ≤ s → s ≤ 500 → (0 ≤ x ∧ x < gi h 161 4) ∧ gi h 163 s = gi h 162 x := by
    intro s
    by_cases z : 0 ≤ s ∧ s ≤ 500
    · obtain ⟨x, y⟩ := full s z.1 (by omega)
      exact ⟨x, fun _ _ => y⟩
    · exact ⟨0, fun a b => absurd ⟨a, b⟩ z⟩
  obtain ⟨f, hf⟩ : ∃ f : Int → Int, ∀ s, 0 ≤ s → s ≤ 500 → (0 ≤ f s ∧ f s < gi h 161 4) ∧ gi h 163 s = gi h 162 (f s) := ⟨fun s => Classical.choose (hx s), fun s => Classical.choose_spec (hx s)⟩
  clear hx
  obtain ⟨a, b, a0, ab, b1, e⟩ := pigeon 500 f (fun s s0 s1' => by
    have := (hf s s0 (by omega)).1
    omega)
  have c1 := hf a a0 (by omega)
  have c2 := hf b (by omega) (by omega)
  rw [e] at c1
  exact q ⟨a, ⟨a0, by omega⟩, s5 a b a0 ab (by omega) (c1.2.trans c2.2.symm)⟩
/-- only the goals found are other ones -/
def frGo (h h' : dm_H) : Prop := (∀ a i, ¬ (a = 161 ∧ i = 4) → a ≠ 162 → a ≠ 163 → gi h' a i = gi h a i) ∧ (∀ a i, gr h' a i = gr h a i) ∧ h'.2.2 = h.2.2
/-- g is among the goals found -/
def fnd (h : dm_H) (g : Int) : Prop := ∃ x, (0 ≤ x ∧ x < gi h 161 4) ∧ gi h 162 x = g
/-- a goal was asked -/
def askd (g : Int) (h h' : dm_H) : Prop := (h' = h ∧ (gi h 161 4 = 500 ∨ fnd h g)) ∨ (gi h' 161 4 = gi h 161 4 + 1 ∧ gi h' 162 (gi h 161 4) = g ∧ ∀ x, 0 ≤ x → x < gi h 161 4 → gi h' 162 x = gi h 162 x)
theorem s42 {d : Nat} (hd : 1 ≤ d) (S : HSg h) {g : Int} (hg : 0 ≤ g) : ∃ h', dF d 42 [dR 1 3 161, dI g] h = rV h' ∧ HSg h' ∧ frGo h h' ∧ askd g h h' := by
  have S' := S
  obtain ⟨s1, s2, s3, s4, s5, s6⟩ := S
  obtain ⟨s, hs, es⟩ := HSg_free S'
  -- what is behind the loop
  have ins : ∀ (t : Int) (w3 : Option dm_V), 0 ≤ t → t < 1024 → gi h 163 (hst g t) = -1 → (∀ t', 0 ≤ t' → t' < t → gi h 163 (hst g t') ≠ -1 ∧ gi h 163 (hst g t') ≠ g) → ∃ h', dL (d - 1) 42 60 [lR 1 3 161, lI g, lI (hst g t), w3] [] h = rV h' ∧ HSg h' ∧ frGo h h' ∧ askd g h h' := by
    intro t w3 t0 t1 e no
    have hr := hst_r g t
    have nf : ¬ fnd h g := by
      rintro ⟨x, hx, ex⟩
      obtain ⟨u, hu, e1, e2⟩ := s6 x hx.1 hx.2
      rw [ex] at e1 e2
      rcases Int.lt_trichotomy u t with w | w | w
      · exact (no u hu.1 w).2 e1
      · rw [w, e] at e1; omega
      · exact e2 t t0 w e
    rw [b42_60]
    by_cases z : gi h 161 4 < 500
    · obtain ⟨h', eh⟩ : ∃ h', h' = si (si (si h 163 (hst g t) g) 162 (gi h 161 4) g) 161 4 (gi h 161 4 + 1) := ⟨_, rfl⟩
      have v4 : gi h' 161 4 = gi h 161 4 + 1 := by rw [eh, gi_sis]
      have v2 : ∀ x, gi h' 162 x = if x = gi h 161 4 then g else gi h 162 x := fun x => by
        rw [eh, gi_sin (by decide), gi_si]
        by_cases q : x = gi h 161 4
        · rw [if_pos ⟨rfl, q⟩, if_pos q]
        · rw [if_neg (fun w => q w.2), if_neg q, gi_sin (by decide)]
      have v3 : ∀ x, gi h' 163 x = if x = hst g t then g else gi h 163 x := fun x => by
        rw [eh, gi_sin (by decide), gi_sin (by decide), gi_si]
        by_cases q : x = hst g t
        · rw [if_pos ⟨rfl, q⟩, if_pos q]
        · rw [if_neg (fun w => q w.2), if_neg q]
      have e1 : gi (si h 163 (hst g t) g) 161 4 = gi h 161 4 := gi_sin (by decide)
      have e2 : gi (si (si h 163 (hst g t) g) 162 (gi h 161 4) g) 161 4 = gi h 161 4 := by rw [gi_sin (by decide), e1]
      refine ⟨h', ?_, ⟨?_, ?_, ?_, ?_, ?_, ?_⟩, ⟨fun a i p q r => ?_, fun a i => by rw [eh]; rfl, by rw [eh]; rfl⟩, Or.inr ⟨v4, by rw [v2, if_pos rfl], fun x x0 x1 => by rw [v2, if_neg (by omega)]⟩⟩
      · rw [if_pos z, ix_p hr.1 (by omega), e1, ix_p s1.1 (by omega), e2, ck_p (by omega) (by omega), b42_97, eh]
      · rw [v4]; omega
      · intro x x0 x1
        rw [v2]
        split
        · exact hg
        · exact s2 x x0 (by omega)
      · intro x y x0 xy y1
        rw [v2, v2, if_neg (by omega)]
        by_cases q : y = gi h 161 4
        · rw [if_pos q]
          exact fun w => nf ⟨x, ⟨x0, by omega⟩, w⟩
        · rw [if_neg q]
          exact s3 x y x0 xy (by omega)
      · intro s' a b
        rw [v3]
        by_cases q : s' = hst g t
        · rw [if_pos q]
          exact Or.inr ⟨gi h 161 4, by omega, by rw [v2, if_pos rfl]⟩
        · rw [if_neg q]
          rcases s4 s' a b with w | ⟨x, hx, w⟩
          · exact Or.inl w
          · exact Or.inr ⟨x, by omega, by rw [v2, if_neg (by omega)]; exact w⟩
      · intro u u' a b c
        rw [v3, v3]
        have ng : ∀ w, 0 ≤ w → w < 1024 → gi h 163 w ≠ g := by
          intro w w0 w1 q
          rcases s4 w w0 w1 with y | ⟨x, hx, y⟩
          · omega
          · exact nf ⟨x, hx, by rw [← y]; exact q⟩
        by_cases q : u = hst g t
        · rw [if_pos q, if_neg (by omega)]
          exact fun w => absurd w.symm (ng u' (by omega) c)
        · rw [if_neg q]
          by_cases q2 : u' = hst g t
          · rw [if_pos q2]
            exact fun w => absurd w (ng u a (by omega))
          · rw [if_neg q2]
            exact s5 u u' a b c
      · intro x x0 x1
        rw [v2]
        by_cases q : x = gi h 161 4
        · rw [if_pos q]
          refine ⟨t, ⟨t0, t1⟩, by rw [v3, if_pos rfl], fun t' a b => ?_⟩
          rw [v3]
          split
          · omega
          · exact (no t' a b).1
        · rw [if_neg q]
          obtain ⟨u, hu, a1, a2⟩ := s6 x x0 (by omega)
          have := s2 x x0 (by omega)
          refine ⟨u, hu, ?_, fun t' a b => ?_⟩
          · rw [v3, if_neg (fun w => by rw [w, e] at a1; omega)]; exact a1
          · rw [v3]
            split
            · omega
            · exact a2 t' a b
      · rw [eh, gi_si, if_neg p, gi_sin q, gi_sin r]
    · refine ⟨h, ?_, S', ⟨fun _ _ _ _ _ => rfl, fun _ _ => rfl, rfl⟩, Or.inl ⟨rfl, Or.inl (by omega)⟩⟩
      rw [if_neg z, b42_97]
  have loop : ∀ (m : Nat) (t : Int), 0 ≤ t → t + m = 1024 → (∀ t', 0 ≤ t' → t' < t → gi h 163 (hst g t') ≠ -1 ∧ gi h 163 (hst g t') ≠ g) → ∃ h', dL (d - 1) 42 18 [lR 1 3 161, lI g, lI (hst g t), lI t] [] h = rV h' ∧ HSg h' ∧ frGo h h' ∧ askd g h h' := by
    intro m
    induction m with
    | zero =>
      intro t t0 tm no
      exfalso
      have r1 := and1023 (dm_xor (dm_xor g (dm_shr g 7)) (dm_shr g 14))
      have e : hst g ((s - hsh g) % 1024) = s := by
        unfold hst
        omega
      exact (no ((s - hsh g) % 1024) (by omega) (by omega)).1 (by rw [e]; exact es)
    | succ m ih =>
      intro t t0 tm no
      have hr := hst_r g t
      rw [b42_18, if_pos (by omega), ix_p hr.1 (by omega)]
      by_cases z : gi h 163 (hst g t) = -1
      · rw [if_pos z]
        exact ins t (lI t) t0 (by omega) z no
      · rw [if_neg z, ix_p hr.1 (by omega)]
        by_cases y : gi h 163 (hst g t) = g
        · rw [if_pos y]
          rcases s4 _ hr.1 hr.2 with w | ⟨x, hx, w⟩
          · exact absurd w z
          · exact ⟨h, rfl, S', ⟨fun _ _ _ _ _ => rfl, fun _ _ => rfl, rfl⟩, Or.inl ⟨rfl, Or.inr ⟨x, hx, by rw [← w]; exact y⟩⟩⟩
        · have e : dm_and (hst g t + 1) 1023 = hst g (t + 1) := by
            have := and_m (y := hst g t + 1) (by omega) (n := 10) (by omega)
            have e2 : (((2 ^ 10 : Nat) : Int)) = 1024 := by decide
            rw [e2] at this
            rw [show (1023 : Int) = 1024 - 1 by decide, this]
            unfold hst
            omega
          rw [if_neg y, ck_p (by omega) (by omega), ck_p (by omega) (by omega), e]
          refine ih (t + 1) (by omega) (by omega) (fun t' a b => ?_)
          by_cases w : t' = t
          · rw [w]; exact ⟨z, y⟩
          · exact no t' a (by omega)
  rw [f42 (by omega), b42_0]
  have r1 := and1023 (dm_xor (dm_xor g (dm_shr g 7)) (dm_shr g 14))
  have e : dm_and (dm_xor (dm_xor g (dm_shr g 7)) (dm_shr g 14)) 1023 = hst g 0 := by
    unfold hst hsh
    omega
  rw [e]
  exact loop 1024 0 (by omega) (by omega) (fun t' a b => by omega)
end GAS
