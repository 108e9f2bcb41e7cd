/-! COSTS: an offer -/
section OFR
variable {P : Nat} {h : dm_H}
/-- how many costs there are -/
def nD (h : dm_H) : Int := sumI (fun r => sumI (fun x => if gi h (145 + 1 + Int.toNat r) x = -1 ∨ gi h 2 0 ≤ r then 0 else 1) 32) 6
theorem sumI_le {f g : Int → Int} : ∀ n : Nat, (∀ x : Int, 0 ≤ x → x < n → f x ≤ g x) → sumI f n ≤ sumI g n
  | 0, _ => Int.le_refl _
  | n + 1, h => by
    have := sumI_le n (fun x x0 x1 => h x x0 (by omega))
    have := h n (by omega) (by omega)
    show sumI f n + f n ≤ sumI g n + g n
    omega
theorem sumI_lt {f g : Int → Int} {a : Int} : ∀ n : Nat, (∀ x : Int, 0 ≤ x → x < n → f x ≤ g x) → 0 ≤ a → a < n → f a < g a → sumI f n < sumI g n
  | 0, _, _, _, _ => by omega
  | n + 1, h, a0, a1, al => by
    show sumI f n + f n < sumI g n + g n
    have hn := h n (by omega) (by omega)
    by_cases e : a = n
    · have := sumI_le n (fun x x0 x1 => h x x0 (by omega))
      rw [e] at al
      omega
    · have := sumI_lt n (fun x x0 x1 => h x x0 (by omega)) a0 (by omega) al
      omega
theorem nD_r (h : dm_H) : 0 ≤ nD h ∧ nD h ≤ 192 := by
  have := sumI_r (f := fun r => sumI (fun x => if gi h (145 + 1 + Int.toNat r) x = -1 ∨ gi h 2 0 ≤ r then (0 : Int) else 1) 32) (M := 32) (by omega) 6 (fun r _ _ => by
    have := sumI_r (f := fun x => if gi h (145 + 1 + Int.toNat r) x = -1 ∨ gi h 2 0 ≤ r then (0 : Int) else 1) (M := 1) (by omega) 32 (fun x _ _ => by
      by_cases z : gi h (145 + 1 + Int.toNat r) x = -1 ∨ gi h 2 0 ≤ r
      · simp only [if_pos z]; omega
      · simp only [if_neg z]; omega)
    omega)
  unfold nD
  omega
theorem nD_c {h h' : dm_H} (e : gi h' 2 0 = gi h 2 0) (a : ∀ r x, 0 ≤ r → r < 6 → 0 ≤ x → x < 32 → r < gi h 2 0 → gi h (145 + 1 + Int.toNat r) x ≠ -1 → gi h' (145 + 1 + Int.toNat r) x ≠ -1) : ∀ r : Int, 0 ≤ r → r < 6 → ∀ x : Int, 0 ≤ x → x < (32 : Nat) → (if gi h (145 + 1 + Int.toNat r) x = -1 ∨ gi h 2 0 ≤ r then (0 : Int) else 1) ≤ (if gi h' (145 + 1 + Int.toNat r) x = -1 ∨ gi h' 2 0 ≤ r then (0 : Int) else 1) := fun r r0 r1 x x0 x1 => by
  have := a r x r0 (by omega) x0 (by omega)
  rw [e]
  by_cases z : gi h (145 + 1 + Int.toNat r) x = -1 ∨ gi h 2 0 ≤ r
  · rw [if_pos z]; split <;> omega
  · have y : ¬ (gi h' (145 + 1 + Int.toNat r) x = -1 ∨ gi h 2 0 ≤ r) := fun w => w.elim (this (by omega) (fun q => z (Or.inl q))) (fun q => z (Or.inr q))
    rw [if_neg z, if_neg y]; omega
theorem nD_le {h h' : dm_H} (e : gi h' 2 0 = gi h 2 0) (a : ∀ r x, 0 ≤ r → r < 6 → 0 ≤ x → x < 32 → r < gi h 2 0 → gi h (145 + 1 + Int.toNat r) x ≠ -1 → gi h' (145 + 1 + Int.toNat r) x ≠ -1) : nD h ≤ nD h' := sumI_le 6 (fun r r0 r1 => sumI_le 32 (nD_c e a r r0 (by omega)))
theorem nD_lt {h h' : dm_H} (e : gi h' 2 0 = gi h 2 0) (a : ∀ r x, 0 ≤ r → r < 6 → 0 ≤ x → x < 32 → r < gi h 2 0 → gi h (145 + 1 + Int.toNat r) x ≠ -1 → gi h' (145 + 1 + Int.toNat r) x ≠ -1) {r x : Int} (r0 : 0 ≤ r) (r1 : r < 6) (x0 : 0 ≤ x) (x1 : x < 32) (rg : r < gi h 2 0) (b : gi h (145 + 1 + Int.toNat r) x = -1) (c : gi h' (145 + 1 + Int.toNat r) x ≠ -1) : nD h < nD h' := by
  refine sumI_lt (a := r) 6 (fun r r0 r1 => sumI_le 32 (nD_c e a r r0 (by omega))) r0 (by omega) (sumI_lt (a := x) 32 (nD_c e a r r0 r1) x0 (by omega) ?_)
  show (if gi h (145 + 1 + Int.toNat r) x = -1 ∨ gi h 2 0 ≤ r then (0 : Int) else 1) < (if gi h' (145 + 1 + Int.toNat r) x = -1 ∨ gi h' 2 0 ≤ r then (0 : Int) else 1)
  rw [if_pos (Or.inl b), if_neg (show ¬ (gi h' (145 + 1 + Int.toNat r) x = -1 ∨ gi h' 2 0 ≤ r) by rw [e]; omega)]; omega
/-- no height is more than the costs that there are -/
def HB (h : dm_H) : Prop := ∀ r x, 0 ≤ r → r < 6 → 0 ≤ x → x < 32 → r < gi h 2 0 → gi h (145 + 1 + Int.toNat r) x ≤ nD h
/-- what offers touch -/
def fr27 (h h' : dm_H) : Prop := (∀ a i, ¬ (a = 144 ∧ i = 13) → ¬ (146 ≤ a ∧ a ≤ 151) → ¬ (153 ≤ a ∧ a ≤ 158) → gi h' a i = gi h a i) ∧ (∀ a i, gr h' a i = gr h a i) ∧ h'.2.2 = h.2.2
theorem fr27_refl (h : dm_H) : fr27 h h := ⟨fun _ _ _ _ _ => rfl, fun _ _ => rfl, rfl⟩
theorem fr27_t {h h1 h2 : dm_H} (a : fr27 h h1) (b : fr27 h1 h2) : fr27 h h2 := ⟨fun c i p q r => by rw [b.1 c i p q r, a.1 c i p q r], fun c i => by rw [b.2.1, a.2.1], by rw [b.2.2, a.2.2]⟩
/-- costs fall, and it is seen whether they do -/
def cmv (sz : Int → Int) (h h' : dm_H) : Prop := (∀ r x, 0 ≤ r → r < 6 → 0 ≤ x → x < 32 → hF h' r x ≤ hF h r x ∧ pF h' r x ≤ pF h r x) ∧ (gi h' 144 13 = 0 → gi h 144 13 = 0 ∧ ∀ r x, 0 ≤ r → r < 6 → 0 ≤ x → x < 32 → hF h' r x = hF h r x ∧ pF h' r x = pF h r x) ∧ (gi h' 144 13 ≠ 0 → gi h 144 13 ≠ 0 ∨ ∃ r x, (0 ≤ r ∧ r < 6) ∧ (0 ≤ x ∧ x < 32) ∧ x < sz r ∧ (hF h' r x < hF h r x ∨ pF h' r x < pF h r x))
theorem cmv_refl {sz : Int → Int} (h : dm_H) : cmv sz h h := ⟨fun _ _ _ _ _ _ => ⟨Int.le_refl _, Int.le_refl _⟩, fun q => ⟨q, fun _ _ _ _ _ _ => ⟨rfl, rfl⟩⟩, fun q => Or.inl q⟩
theorem cmv_z {sz sz' : Int → Int} {h h' : dm_H} (e : ∀ r, 0 ≤ r → r < 6 → sz r = sz' r) (a : cmv sz h h') : cmv sz' h h' := ⟨a.1, a.2.1, fun q => (a.2.2 q).imp id (fun ⟨r, x, hr, hx, hs, y⟩ => ⟨r, x, hr, hx, by rw [← e r hr.1 hr.2]; exact hs, y⟩)⟩
theorem cmv_t {sz : Int → Int} {h h1 h2 : dm_H} (a : cmv sz h h1) (b : cmv sz h1 h2) : cmv sz h h2 := by
  refine ⟨fun r x r0 r1 x0 x1 => ?_, fun q => ?_, fun q => ?_⟩
  · have := a.1 r x r0 r1 x0 x1
    have := b.1 r x r0 r1 x0 x1
    omega
  · obtain ⟨b1, b2⟩ := b.2.1 q
    obtain ⟨a1, a2⟩ := a.2.1 b1
    exact ⟨a1, fun r x r0 r1 x0 x1 => ⟨((b2 r x r0 r1 x0 x1).1).trans (a2 r x r0 r1 x0 x1).1, ((b2 r x r0 r1 x0 x1).2).trans (a2 r x r0 r1 x0 x1).2⟩⟩
  · rcases b.2.2 q with z | ⟨r, x, hr, hx, hs, z⟩
    · rcases a.2.2 z with y | ⟨r, x, hr, hx, hs, y⟩
      · exact Or.inl y
      · refine Or.inr ⟨r, x, hr, hx, hs, ?_⟩
        have := b.1 r x hr.1 hr.2 hx.1 hx.2
        omega
    · refine Or.inr ⟨r, x, hr, hx, hs, ?_⟩
      have := a.1 r x hr.1 hr.2 hx.1 hx.2
      omega
theorem m9_if (z : Int) : (if z < 9999 then z else 9999) = m9 z := by
  unfold m9
  repeat' split
  all_goals omega
/-- the cells after an offer -/
def cel (h h' : dm_H) (r p a b : Int) : Prop := (∀ r' x, 0 ≤ r' → r' < 6 → ¬ (r' = r ∧ x = p) → gi h' (145 + 1 + Int.toNat r') x = gi h (145 + 1 + Int.toNat r') x ∧ gi h' (152 + 1 + Int.toNat r') x = gi h (152 + 1 + Int.toNat r') x) ∧ (gi h' (145 + 1 + Int.toNat r) p = if gi h (145 + 1 + Int.toNat r) p = -1 ∨ a < gi h (145 + 1 + Int.toNat r) p then a else gi h (145 + 1 + Int.toNat r) p) ∧ (gi h' (152 + 1 + Int.toNat r) p = if gi h (152 + 1 + Int.toNat r) p = -1 ∨ b < gi h (152 + 1 + Int.toNat r) p then b else gi h (152 + 1 + Int.toNat r) p) ∧ (gi h' 144 13 = if (gi h (145 + 1 + Int.toNat r) p = -1 ∨ a < gi h (145 + 1 + Int.toNat r) p) ∨ (gi h (152 + 1 + Int.toNat r) p = -1 ∨ b < gi h (152 + 1 + Int.toNat r) p) then 1 else gi h 144 13)
theorem s27c {d : Nat} {r p a b : Int} (hr : 0 ≤ r ∧ r < 6) (hp : 0 ≤ p ∧ p < 32) (w2 : Option dm_V) (x4 : Int) (w5 w6 : Option dm_V) (hb : b = m9 x4) : ∃ h', dL d 27 9 [lR 1 0 144, lI r, w2, lI a, lI x4, w5, w6] [dI p] h = rV h' ∧ fr27 h h' ∧ cel h h' r p a b := by
  have tr : r.toNat < 6 := by omega
  have inj : ∀ r', 0 ≤ r' → r' < 6 → r' ≠ r → r'.toNat ≠ r.toNat := fun r' _ _ z => by omega
  have g96 : ∀ (H : dm_H) (w2 w3 w4 : Option dm_V), (∃ h', dL d 27 69 [lR 1 0 144, lI r, w2, w3, w4, lI p, lI b] [] H = rV h' ∧ fr27 H h' ∧ (∀ r', gi h' (145 + 1 + Int.toNat r') = gi H (145 + 1 + Int.toNat r') ∨ ¬ (r' < 6)) ∧ (∀ r' x, 0 ≤ r' → r' < 6 → ¬ (r' = r ∧ x = p) → gi h' (152 + 1 + Int.toNat r') x = gi H (152 + 1 + Int.toNat r') x) ∧ (gi h' (152 + 1 + Int.toNat r) p = if gi H (152 + 1 + Int.toNat r) p = -1 ∨ b < gi H (152 + 1 + Int.toNat r) p then b else gi H (152 + 1 + Int.toNat r) p) ∧ gi h' 144 13 = if gi H (152 + 1 + Int.toNat r) p = -1 ∨ b < gi H (152 + 1 + Int.toNat r) p then 1 else gi H 144 13) := by
    intro H w2 w3 w4
    by_cases q : gi H (152 + 1 + Int.toNat r) p = -1 ∨ b < gi H (152 + 1 + Int.toNat r) p
    · refine ⟨si (si H (152 + 1 + Int.toNat r) p b) 144 13 1, ?_, ⟨fun c i q1 q2 q3 => by rw [gi_si, if_neg q1, gi_sin (by omega)], fun _ _ => rfl, rfl⟩, fun r' => ?_, fun r' x r0 r1 z => ?_, ?_, ?_⟩
      · have h96 : dL d 27 96 [lR 1 0 144, lI r, w2, w3, w4, lI p, lI b] [] H = rV (si (si H (152 + 1 + Int.toNat r) p b) 144 13 1) := by
          rw [b27_96, ix_p hr.1 hr.2, ix_p hp.1 hp.2, b27_112]
        rw [b27_69, ix_p hr.1 hr.2, ix_p hp.1 hp.2]
        by_cases z : gi H (152 + 1 + Int.toNat r) p = -1
        · rw [if_pos z, h96]
        · rw [if_neg z, ix_p hr.1 hr.2, ix_p hp.1 hp.2, if_pos (q.resolve_left z), h96]
      · by_cases r6 : r' < 6
        · left
          funext x
          rw [gi_sin (by omega), gi_sin (by omega)]
        · exact Or.inr r6
      · rw [gi_sin (by omega), gi_si, if_neg (fun y => z ⟨by omega, y.2⟩)]
      · rw [gi_sin (by omega), gi_sis, if_pos q]
      · rw [gi_sis, if_pos q]
    · refine ⟨H, ?_, fr27_refl H, fun _ => Or.inl rfl, fun _ _ _ _ _ => rfl, by rw [if_neg q], by rw [if_neg q]⟩
      rw [b27_69, ix_p hr.1 hr.2, ix_p hp.1 hp.2, if_neg (fun z => q (Or.inl z)), ix_p hr.1 hr.2, ix_p hp.1 hp.2, if_neg (fun z => q (Or.inr z)), b27_112]
  have e6 : (if x4 < 9999 then x4 else 9999) = b := by rw [m9_if, hb]
  rw [b27_9, if_neg (by omega), ix_p hr.1 hr.2, ix_p hp.1 hp.2, e6]
  by_cases q : gi h (145 + 1 + Int.toNat r) p = -1 ∨ a < gi h (145 + 1 + Int.toNat r) p
  · obtain ⟨h', y1, y2, y3, y4, y5, y6⟩ := g96 (si (si h (145 + 1 + Int.toNat r) p a) 144 13 1) w2 (lI a) (lI x4)
    have h54 : dL d 27 54 [lR 1 0 144, lI r, w2, lI a, lI x4, lI p, lI b] [] h = rV h' := by
      rw [b27_54, ix_p hr.1 hr.2, ix_p hp.1 hp.2, y1]
    have hp2 : gi (si (si h (145 + 1 + Int.toNat r) p a) 144 13 1) (152 + 1 + Int.toNat r) p = gi h (152 + 1 + Int.toNat r) p := by rw [gi_sin (by omega), gi_sin (by omega)]
    rw [hp2] at y5 y6
    rw [gi_sis] at y6
    refine ⟨h', ?_, fr27_t (h1 := si (si h (145 + 1 + Int.toNat r) p a) 144 13 1) ⟨fun c i q1 q2 q3 => by rw [gi_si, if_neg q1, gi_sin (by omega)], fun _ _ => rfl, rfl⟩ y2, fun r' x r0 r1 z => ⟨?_, ?_⟩, ?_, y5, ?_⟩
    · by_cases z : gi h (145 + 1 + Int.toNat r) p = -1
      · rw [if_pos z, h54]
      · rw [if_neg z, ix_p hr.1 hr.2, ix_p hp.1 hp.2, if_pos (q.resolve_left z), h54]
    · rw [(y3 r').resolve_right (by omega), gi_sin (by omega), gi_si, if_neg (fun y => z ⟨by omega, y.2⟩)]
    · rw [y4 r' x r0 r1 z, gi_sin (by omega), gi_sin (by omega)]
    · rw [(y3 r).resolve_right (by omega), gi_sin (by omega), gi_sis, if_pos q]
    · rw [y6, if_pos (Or.inl q)]
      split <;> rfl
  · obtain ⟨h', y1, y2, y3, y4, y5, y6⟩ := g96 h w2 (lI a) (lI x4)
    refine ⟨h', ?_, y2, fun r' x r0 r1 z => ⟨?_, y4 r' x r0 r1 z⟩, ?_, y5, ?_⟩
    · rw [if_neg (fun z => q (Or.inl z)), ix_p hr.1 hr.2, ix_p hp.1 hp.2, if_neg (fun z => q (Or.inr z)), y1]
    · rw [(y3 r').resolve_right (by omega)]
    · rw [(y3 r).resolve_right (by omega), if_neg q]
    · rw [y6]
      by_cases z : gi h (152 + 1 + Int.toNat r) p = -1 ∨ b < gi h (152 + 1 + Int.toNat r) p
      · rw [if_pos z, if_pos (Or.inr z)]
      · rw [if_neg z, if_neg (fun y => y.elim q z)]
/-- costs that are as they should be -/
def CC (h : dm_H) : Prop := CV h ∧ HB h
theorem hF_v (C : CC h) {r x : Int} (hr : 0 ≤ r ∧ r < 6) (hg : r < gi h 2 0) (hx : 0 ≤ x ∧ x < 32) : vcc (hF h r x) ∧ vcc (pF h r x) := by
  have := C.1 r x hr.1 hr.2 hx.1 hx.2 hg
  unfold c2v at this
  unfold hF pF kc vcc
  split <;> split <;> omega
/-- what an offer brings -/
theorem cel_cc {sz : Int → Int} {h' : dm_H} {r p a b : Int} (hsz : p < sz r) (C : CC h) (e20 : gi h' 2 0 = gi h 2 0) (hg : r < gi h 2 0) (hr : 0 ≤ r ∧ r < 6) (hp : 0 ≤ p ∧ p < 32) (ha : 0 ≤ a ∧ a ≤ nD h + 1) (hb : 0 ≤ b ∧ b ≤ 9999) (e : cel h h' r p a b) : CC h' ∧ cmv sz h h' ∧ (hF h' r p ≤ a ∧ pF h' r p ≤ b) ∧ (∀ r' x, 0 ≤ r' → r' < 6 → ¬ (r' = r ∧ x = p) → hF h' r' x = hF h r' x ∧ pF h' r' x = pF h r' x) ∧ (hF h' r p = hF h r p ∨ hF h' r p = a) ∧ (pF h' r p = pF h r p ∨ pF h' r p = b) := by
  obtain ⟨e1, e2, e3, e4⟩ := e
  obtain ⟨V, B⟩ := C
  have v := V r p hr.1 hr.2 hp.1 hp.2 hg
  have w := B r p hr.1 hr.2 hp.1 hp.2 hg
  have n := nD_r h
  unfold c2v at v
  have f1 : ∀ r' x, 0 ≤ r' → r' < 6 → ¬ (r' = r ∧ x = p) → hF h' r' x = hF h r' x ∧ pF h' r' x = pF h r' x := fun r' x r0 r1 z => by
    unfold hF pF
    rw [(e1 r' x r0 r1 z).1, (e1 r' x r0 r1 z).2]
    exact ⟨rfl, rfl⟩
  have hcell : gi h' (145 + 1 + Int.toNat r) p ≠ -1 ∧ (0 ≤ gi h' (145 + 1 + Int.toNat r) p ∧ gi h' (145 + 1 + Int.toNat r) p ≤ a) ∧ (0 ≤ gi h' (152 + 1 + Int.toNat r) p ∧ gi h' (152 + 1 + Int.toNat r) p ≤ b) ∧ (gi h (145 + 1 + Int.toNat r) p ≠ -1 → gi h' (145 + 1 + Int.toNat r) p ≤ gi h (145 + 1 + Int.toNat r) p) := by
    rw [e2, e3]
    refine ⟨?_, ?_, ?_, ?_⟩ <;> split <;> omega
  have f2 : hF h' r p = gi h' (145 + 1 + Int.toNat r) p := if_neg hcell.1
  have f3 : pF h' r p = gi h' (152 + 1 + Int.toNat r) p := if_neg (by omega)
  have hkeep : ∀ r x, 0 ≤ r → r < 6 → 0 ≤ x → x < 32 → r < gi h 2 0 → gi h (145 + 1 + Int.toNat r) x ≠ -1 → gi h' (145 + 1 + Int.toNat r) x ≠ -1 := fun r' x r0 r1 _ _ _ z => by
    by_cases y : r' = r ∧ x = p
    · rw [y.1, y.2]; exact hcell.1
    · rw [(e1 r' x r0 r1 y).1]; exact z
  have nle := nD_le e20 hkeep
  have n' := nD_r h'
  have fa : hF h' r p ≤ hF h r p ∧ pF h' r p ≤ pF h r p := by
    rw [f2, f3]
    unfold hF pF kc
    rw [e2, e3]
    constructor
    · split <;> split <;> omega
    · split <;> split <;> omega
  have all : ∀ r' x, 0 ≤ r' → r' < 6 → 0 ≤ x → x < 32 → hF h' r' x ≤ hF h r' x ∧ pF h' r' x ≤ pF h r' x := fun r' x r0 r1 x0 x1 => by
    by_cases y : r' = r ∧ x = p
    · rw [y.1, y.2]; exact fa
    · have := f1 r' x r0 r1 y; omega
  refine ⟨⟨fun r' x r0 r1 x0 x1 rg => ?_, fun r' x r0 r1 x0 x1 rg => ?_⟩, ⟨all, fun q => ?_, fun q => ?_⟩, ⟨by rw [f2]; exact hcell.2.1.2, by rw [f3]; exact hcell.2.2.1.2⟩, f1, ?_, ?_⟩
  · by_cases y : r' = r ∧ x = p
    · rw [y.1, y.2]
      refine Or.inr ⟨⟨hcell.2.1.1, ?_⟩, hcell.2.2.1.1, by omega⟩
      omega
    · have := V r' x r0 r1 x0 x1 (by rw [e20] at rg; exact rg)
      rw [(e1 r' x r0 r1 y).1, (e1 r' x r0 r1 y).2]; exact this
  · by_cases y : r' = r ∧ x = p
    · rw [y.1, y.2]
      by_cases z : gi h (145 + 1 + Int.toNat r) p = -1
      · have := nD_lt e20 hkeep hr.1 hr.2 hp.1 hp.2 hg z hcell.1
        omega
      · have := hcell.2.2.2 z
        omega
    · have := B r' x r0 r1 x0 x1 (by rw [e20] at rg; exact rg)
      rw [(e1 r' x r0 r1 y).1]; omega
  · rw [e4] at q
    by_cases y : (gi h (145 + 1 + Int.toNat r) p = -1 ∨ a < gi h (145 + 1 + Int.toNat r) p) ∨ (gi h (152 + 1 + Int.toNat r) p = -1 ∨ b < gi h (152 + 1 + Int.toNat r) p)
    · rw [if_pos y] at q; omega
    · rw [if_neg y] at q
      refine ⟨q, fun r' x r0 r1 x0 x1 => ?_⟩
      by_cases z : r' = r ∧ x = p
      · rw [z.1, z.2]
        unfold hF pF
        rw [e2, e3, if_neg (fun w => y (Or.inl w)), if_neg (fun w => y (Or.inr w))]
        exact ⟨rfl, rfl⟩
      · exact f1 r' x r0 r1 z
  · by_cases y : (gi h (145 + 1 + Int.toNat r) p = -1 ∨ a < gi h (145 + 1 + Int.toNat r) p) ∨ (gi h (152 + 1 + Int.toNat r) p = -1 ∨ b < gi h (152 + 1 + Int.toNat r) p)
    · refine Or.inr ⟨r, p, hr, hp, hsz, ?_⟩
      rw [f2, f3]
      unfold hF pF kc
      rw [e2, e3]
      rcases y with y | y
      · left
        rw [if_pos y]
        split <;> omega
      · right
        rw [if_pos y]
        split <;> omega
    · rw [e4, if_neg y] at q
      exact Or.inl q
  · rw [f2, e2]
    by_cases y : gi h (145 + 1 + Int.toNat r) p = -1 ∨ a < gi h (145 + 1 + Int.toNat r) p
    · rw [if_pos y]; exact Or.inr rfl
    · rw [if_neg y]
      exact Or.inl (show _ = kc _ from (if_neg (fun z => y (Or.inl z))).symm)
  · rw [f3, e3]
    by_cases y : gi h (152 + 1 + Int.toNat r) p = -1 ∨ b < gi h (152 + 1 + Int.toNat r) p
    · rw [if_pos y]; exact Or.inr rfl
    · rw [if_neg y]
      exact Or.inl (show _ = kc _ from (if_neg (fun z => y (Or.inl z))).symm)
/-- what an offer brings to whom it is made -/
def got (h : dm_H) (P : Nat) (r c a b : Int) : Prop := ∀ x, plW (cW h P) r c x → hF h r x ≤ a ∧ pF h r x ≤ b
theorem s27 {d : Nat} (hd : 2 ≤ d) (hP : gr h 144 5 = P) (C : CC h) {r c a b : Int} (hr : 0 ≤ r ∧ r < 6) (hz : 0 ≤ rsz h P r ∧ rsz h P r ≤ 32) (hg : ∀ x, 0 ≤ x → x < rsz h P r → r < gi h 2 0) (dj : ∀ x y, 0 ≤ x → x < y → y < rsz h P r → rws h P r x ≠ rws h P r y) (ha : 0 ≤ a ∧ a ≤ nD h + 1) (hb : 0 ≤ b) :
    ∃ h', dF d 27 [dR 1 0 144, dI r, dI c, dI a, dI b] h = rV h' ∧ fr27 h h' ∧ CC h' ∧ cmv (rsz h P) h h' ∧ (∀ x, plW (cW h P) r c x → hF h' r x ≤ a ∧ pF h' r x ≤ m9 b) ∧ (∀ r' x, 0 ≤ r' → r' < 6 → ((hF h' r' x = hF h r' x) ∨ (r' = r ∧ plW (cW h P) r c x ∧ hF h' r' x = a)) ∧ ((pF h' r' x = pF h r' x) ∨ (r' = r ∧ plW (cW h P) r c x ∧ pF h' r' x = m9 b))) := by
  have e0 : dF d 27 [dR 1 0 144, dI r, dI c, dI a, dI b] h = dL (d - 1) 27 9 [lR 1 0 144, lI r, lI c, lI a, lI b, none, none] [dI (plc h P r c)] h := by
    rw [f27 (by omega), b27_0, hP, s28 (by omega) hr hz, bk_v]
  rw [e0]
  rcases fz_spec (fun x => rws h P r x = c) (rsz h P r).toNat 0 with ⟨q1, q2⟩ | ⟨q1, q2, q3, q4⟩
  · refine ⟨h, ?_, fr27_refl h, C, cmv_refl h, fun x hx => absurd hx.2 (q2 x hx.1.1 (by have := hx.1.2; have e : (cW h P).1 r = rsz h P r := rfl; omega)), fun r' x _ _ => ⟨Or.inl rfl, Or.inl rfl⟩⟩
    rw [b27_9, if_pos (show plc h P r c = -1 from q1)]
  · have hp : 0 ≤ plc h P r c ∧ plc h P r c < rsz h P r := ⟨q1, by have : plc h P r c < 0 + ((rsz h P r).toNat : Int) := q2; omega⟩
    have hpl : ∀ x, plW (cW h P) r c x ↔ x = plc h P r c := fun x => by
      constructor
      · intro ⟨⟨x0, x1⟩, x2⟩
        have x1 : x < rsz h P r := x1
        have x2 : rws h P r x = c := x2
        have q3 : rws h P r (plc h P r c) = c := q3
        rcases (show x < plc h P r c ∨ x = plc h P r c ∨ plc h P r c < x by omega) with z | z | z
        · exact absurd (x2.trans q3.symm) (dj _ _ x0 z hp.2)
        · exact z
        · exact absurd (q3.trans x2.symm) (dj _ _ hp.1 z x1)
      · intro e; rw [e]; exact ⟨hp, q3⟩
    obtain ⟨h', y1, y2, y3⟩ := s27c (h := h) (d := d - 1) (a := a) hr ⟨hp.1, by omega⟩ (lI c) b none none rfl
    have hm : 0 ≤ m9 b ∧ m9 b ≤ 9999 := by unfold m9; split <;> omega
    obtain ⟨z1, z2, z3, z4, z5, z6⟩ := cel_cc (sz := rsz h P) hp.2 C (y2.1 _ _ (by omega) (by omega) (by omega)) (hg _ hp.1 hp.2) hr ⟨hp.1, by omega⟩ ha hm y3
    refine ⟨h', y1, y2, z1, z2, fun x hx => by rw [(hpl x).mp hx]; exact z3, fun r' x r0 r1 => ?_⟩
    by_cases y : r' = r ∧ x = plc h P r c
    · obtain ⟨rfl, rfl⟩ := y
      have hx := (hpl _).mpr rfl
      exact ⟨z5.imp id (fun w => ⟨rfl, hx, w⟩), z6.imp id (fun w => ⟨rfl, hx, w⟩)⟩
    · exact ⟨Or.inl (z4 r' x r0 r1 y).1, Or.inl (z4 r' x r0 r1 y).2⟩
end OFR
