/-! FIRE, groups -/
section FIRE4
variable {P : Nat} {hB : dm_H} {oc : Int → Int → Prop} {ft : Int → Int → Prop} {RL : mU → Prop} {L : Int}
theorem cnd_ft {h : dm_H} {ft' : Int → Int → Prop} (hf : ∀ r c, ft r c → ft' r c) {Dm : Int → Prop} {ω' : mW} (c : cnd P h ft' RL Dm ω' L) : cnd P h ft RL Dm ω' L :=
  ⟨c.1, c.2.1, c.2.2.1, ⟨fun r x r0 r1 q l f => c.2.2.2.1 r x r0 r1 q l (hf r x f), c.2.2.2.2⟩⟩
/-- rows of a group over rows that could be -/
theorem grp_cov {A : Nat} (K : RK hB) (R : RP hB oc RL A) (hk : gi hB A 1 ≠ 0) (hL : gi hB 7 (gi hB A 2) = L) {ω : mW} (V : VW (cK hB) (gi hB 4) ω) (hω : ∀ r, 0 ≤ r → r < 6 → gi hB 7 r < L → ∀ c, inW ω r c ↔ inW (cW hB P) r c) {Dm : Int → Prop} {ω' : mW} (cn : cnd P hB ft RL Dm ω' L) (hD : Dm (gi hB A 2)) {v : mA} (hv : v ∈ bnds (uR hB A) ω) : cov (cK hB) (gi hB 4) ω' (gi hB A 2) (grow (cK hB) (uR hB A) ω (gkv (cK hB) (uR hB A) v)) := by
  obtain ⟨c1, c2, c3, c4⟩ := cn
  have D := RK_D K
  refine c4.2 _ R.2.2.1 hD hL _ (mkd_cg (RU_GW D R.2.1 V) (RU_GW D R.2.1 c2) (fun k k0 k1 q c => ?_) (Or.inr ⟨hk, v, hv, rfl⟩))
  have hd := c1 _ R.2.2.1 hD k k0 k1 q
  rcases R.2.1.2.2.2.1 k k0 k1 with ⟨_, s1, _, _, _, _, s6⟩ | ⟨s, _⟩
  · have l := s6 (fun z => hk z.2.1)
    have l : gi hB 7 (gi hB (A + 3) k) < gi hB 7 (gi hB A 2) := l
    rw [hω _ s1.1 s1.2 (by show gi hB 7 (gi hB (A + 3) k) < L; omega) c]
    exact c3 _ s1.1 s1.2 hd (by show gi hB 7 (gi hB (A + 3) k) < L; omega) c
  · omega
/-- too many groups are too much -/
theorem tmg_tmp {A : Nat} (K : RK hB) (R : RP hB oc RL A) (hk : gi hB A 1 ≠ 0) (hL : gi hB 7 (gi hB A 2) = L) {ω : mW} (V : VW (cK hB) (gi hB 4) ω) (hω : ∀ r, 0 ≤ r → r < 6 → gi hB 7 r < L → ∀ c, inW ω r c ↔ inW (cW hB P) r c) (t : tmg (cK hB) (uR hB A) (bnds (uR hB A) ω)) : tmp P hB ft RL L := by
  intro ω' cn
  obtain ⟨f, f1, f2⟩ := t
  have D := RK_D K
  have hr6 : 0 ≤ gi hB A 2 ∧ gi hB A 2 < 6 := R.2.1.2.1
  have d1 := (D _ hr6.1 hr6.2).1
  have G := RU_GW D R.2.1 V
  have hkey : ∀ v, v ∈ bnds (uR hB A) ω → vcd (cK hB (gi hB A 2) - 1) (gkv (cK hB) (uR hB A) v) ∧ 0 ≤ gam (cK hB) (uR hB A) v := by
    intro v hv
    have J := bnds_J G hv
    have hh := fun j j0 j1 => hd_r R.2.1 J (j := j) j0 j1
    exact ⟨(hcd_cv (n := cK hB (gi hB A 2) - 1) (by omega) (fun j j0 j1 => hh j j0 (by show j < cK hB (gi hB A 2); omega))).2, (gam_r d1.1 hh).1⟩
  have hrow : ∀ x, 0 ≤ x → x ≤ 32 → vcd (cK hB (gi hB A 2) - 1) (f x) ∧ 0 ≤ m99 (gsm (gkv (cK hB) (uR hB A)) (gam (cK hB) (uR hB A)) (f x) (bnds (uR hB A) ω)) ∧ m99 (gsm (gkv (cK hB) (uR hB A)) (gam (cK hB) (uR hB A)) (f x) (bnds (uR hB A) ω)) ≤ 99 := by
    intro x x0 x1
    obtain ⟨v, v1, v2⟩ := f1 x x0 x1
    rw [← v2]
    exact ⟨(hkey v v1).1, m99_r (gsm_nn (fun w hw => (hkey w hw).2))⟩
  refine many2 hr6 cn.2.1 (fun x => grow (cK hB) (uR hB A) ω (f x)) (fun x y x0 xy y1 => ?_) (fun x x0 x1 => ?_)
  · obtain ⟨a1, a2⟩ := hrow x x0 (by omega)
    obtain ⟨b1, b2⟩ := hrow y (by omega) y1
    have ra := (row_cv d1 a1 a2).2.1
    have rb := (row_cv d1 b1 b2).2.1
    by_cases q : ∃ i, 0 ≤ i ∧ i < cK hB (gi hB A 2) - 1 ∧ cv i (f x) ≠ cv i (f y)
    · obtain ⟨i, i0, i1, i2⟩ := q
      refine ⟨i, i0, ?_, ?_⟩
      · unfold kwd; split <;> omega
      · show cv i (f x + _) ≠ cv i (f y + _)
        intro z
        exact i2 (by rw [← ra i i0 i1, ← rb i i0 i1]; exact z)
    · refine absurd (vcd_ext a1 b1 (fun i i0 i1 _ => ?_)) (f2 x y x0 xy y1)
      by_cases z : cv i (f x) = cv i (f y)
      · exact z
      · exact absurd ⟨i, i0, i1, z⟩ q
  · obtain ⟨v, v1, v2⟩ := f1 x x0 x1
    show cov _ _ ω' _ (grow (cK hB) (uR hB A) ω (f x))
    rw [← v2]
    exact grp_cov K R hk hL V hω cn trivial v1
end FIRE4
