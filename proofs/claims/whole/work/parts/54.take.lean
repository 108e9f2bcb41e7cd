/-! GROUPS become rows -/
theorem row_cv {n key T : Int} (hn : 1 ≤ n ∧ n ≤ 3) (hk : vcd (n - 1) key) (hT : 0 ≤ T ∧ T ≤ 99) : vcd n (key + T * dm_unit (n - 1)) ∧ (∀ i, 0 ≤ i → i < n - 1 → cv i (key + T * dm_unit (n - 1)) = cv i key) ∧ cv (n - 1) (key + T * dm_unit (n - 1)) = T := by
  have k0 := hk.1
  rcases (show n = 1 ∨ n = 2 ∨ n = 3 by omega) with q | q | q <;> subst q
  · have e : dm_unit (1 - 1) = 10000 := dm_unit0
    rw [e]
    have a0 := hk.2 0 (by omega) (by omega) (by omega)
    have a1 := hk.2 1 (by omega) (by omega) (by omega)
    have a2 := hk.2 2 (by omega) (by omega) (by omega)
    unfold cv at a0 a1 a2
    simp at a0 a1 a2
    refine ⟨⟨by omega, fun i i1 i0 i3 => ?_⟩, fun i i0 i1 => by omega, ?_⟩
    · rcases (show i = 1 ∨ i = 2 by omega) with q | q <;> rw [q] <;> unfold cv <;> simp <;> omega
    · show cv 0 _ = _
      unfold cv; simp; omega
  · have e : dm_unit (2 - 1) = 100 := dm_unit1
    rw [e]
    have a1 := hk.2 1 (by omega) (by omega) (by omega)
    have a2 := hk.2 2 (by omega) (by omega) (by omega)
    unfold cv at a1 a2
    simp at a1 a2
    refine ⟨⟨by omega, fun i i1 i0 i3 => ?_⟩, fun i i0 i1 => ?_, ?_⟩
    · rw [show i = 2 by omega]; unfold cv; simp; omega
    · rw [show i = 0 by omega]; unfold cv; simp; omega
    · show cv 1 _ = _
      unfold cv; simp; omega
  · have e : dm_unit (3 - 1) = 1 := dm_unit2
    rw [e]
    have a2 := hk.2 2 (by omega) (by omega) (by omega)
    unfold cv at a2
    simp at a2
    refine ⟨⟨by omega, fun i i1 i0 i3 => by omega⟩, fun i i0 i1 => ?_, ?_⟩
    · rcases (show i = 0 ∨ i = 1 by omega) with q | q <;> rw [q] <;> unfold cv <;> simp <;> omega
    · show cv 2 _ = _
      unfold cv; simp; omega
/-- 33 rows that differ in their keys are too many -/
theorem many2 {cl kd : Int → Int} {ω' : mW} {r : Int} (hr : 0 ≤ r ∧ r < 6) (V' : VW cl kd ω') (f : Int → Int) (hf : ∀ x y, 0 ≤ x → x < y → y ≤ 32 → ∃ i, 0 ≤ i ∧ i < kwd cl kd r ∧ cv i (f x) ≠ cv i (f y)) (hall : ∀ x, 0 ≤ x → x ≤ 32 → cov cl kd ω' r (f x)) : False := by
  have key : ∀ x, ∃ y, (0 ≤ x → x ≤ 32 → 0 ≤ y ∧ y < ω'.1 r ∧ ∀ i, 0 ≤ i → i < kwd cl kd r → cv i (ω'.2 r y) = cv i (f x)) := by
    intro x
    by_cases q : 0 ≤ x ∧ x ≤ 32
    · obtain ⟨w, ⟨y, y0, y1, y2⟩, wc⟩ := hall x q.1 q.2
      exact ⟨y, fun _ _ => ⟨y0, y1, fun i i0 i1 => by rw [y2]; exact wc.1 i i0 i1⟩⟩
    · exact ⟨0, fun a b => absurd ⟨a, b⟩ q⟩
  obtain ⟨g, hg⟩ := Classical.axiomOfChoice key
  have v1 := (V' r hr.1 hr.2).1
  obtain ⟨x, y, x0, xy, y1, e⟩ := pigeon 32 g (fun x x0 x1 => by have := hg x x0 x1; exact ⟨this.1, by have := this.2.1; omega⟩)
  obtain ⟨_, _, a⟩ := hg x x0 (by omega)
  obtain ⟨_, _, b⟩ := hg y (by omega) y1
  rw [e] at a
  obtain ⟨i, i0, i1, i2⟩ := hf x y x0 xy y1
  exact i2 (by rw [← a i i0 i1, ← b i i0 i1])
theorem s64 {d : Nat} (hd : 1 ≤ d) {h : dm_H} {A : Nat} {n x : Int} (hA : gr h 140 1 = A) (hn : gi h A 3 = n) (n13 : 1 ≤ n ∧ n ≤ 3) (hx : 0 ≤ x ∧ x < gi h 140 2) (hs : gi h 140 2 ≤ 32) (hk : 0 ≤ gi h 141 x ∧ gi h 141 x < 1000000) (ht : 0 ≤ gi h 142 x ∧ gi h 142 x ≤ 99) : dF d 64 [dR 1 4 140, dI x] h = rI (gi h 141 x + gi h 142 x * dm_unit (n - 1)) h := by
  have hm : 0 ≤ gi h 142 x * dm_unit (n - 1) ∧ gi h 142 x * dm_unit (n - 1) ≤ 990000 := by
    rcases (show n = 1 ∨ n = 2 ∨ n = 3 by omega) with q | q | q <;> subst q
    · rw [show dm_unit (1 - 1) = 10000 from dm_unit0]; omega
    · rw [show dm_unit (2 - 1) = 100 from dm_unit1]; omega
    · rw [show dm_unit (3 - 1) = 1 from dm_unit2]; omega
  rw [f64 hd, b64_0, if_neg (by omega), if_pos hx.2, hA, hn, if_pos (by omega), b64_27, if_neg (by omega), ix_p hx.1 (by omega), ix_p hx.1 (by omega), hA, hn, ck_p (by omega) (by omega), ix_p (by omega) (by omega), ck_p (by omega) (by omega), ck_p (by omega) (by omega), b64_63]
