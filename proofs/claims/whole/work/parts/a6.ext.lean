/-! A RELATION MORE: what follows stays -/
section EXT
variable {cl kd cl' kd' ly : Int → Int} {oc : Int → Int → Prop} {RL : mU → Prop} {n : Int}
/-- without the relations from n on -/
def trW (n : Int) (ω : mW) : mW := (fun r => if r < n then ω.1 r else 0, ω.2)
theorem trW_in {ω : mW} {r c : Int} (hr : r < n) : inW (trW n ω) r c ↔ inW ω r c := by
  have e : (trW n ω).1 r = ω.1 r := if_pos hr
  constructor
  · rintro ⟨x, x0, x1, x2⟩
    exact ⟨x, x0, by rw [← e]; exact x1, x2⟩
  · rintro ⟨x, x0, x1, x2⟩
    exact ⟨x, x0, by rw [e]; exact x1, x2⟩
theorem trW_VW {ω : mW} (e : ∀ r, 0 ≤ r → r < n → cl' r = cl r ∧ kd' r = kd r) (V : VW cl' kd' ω) : VW cl kd (trW n ω) := by
  intro r r0 r1
  obtain ⟨v1, v2, v3⟩ := V r r0 r1
  by_cases z : r < n
  · obtain ⟨e1, e2⟩ := e r r0 z
    have ez : (trW n ω).1 r = ω.1 r := if_pos z
    have ek : kwd cl kd r = kwd cl' kd' r := by unfold kwd; rw [e1, e2]
    rw [ez, ek, ← e1]
    exact ⟨v1, v2, v3⟩
  · have ez : (trW n ω).1 r = 0 := if_neg z
    rw [ez]
    exact ⟨by omega, fun x x0 x1 => by omega, fun x y x0 xy y1 => by omega⟩
theorem mkd_ext {u : mU} {ω : mW} {c : Int} (e : cl' u.2.1 = cl u.2.1) : mkd cl' u ω c ↔ mkd cl u ω c := by
  have a1 : ∀ v, hdc cl' u v = hdc cl u v := fun v => by unfold hdc; rw [e]
  have a2 : gkv cl' u = gkv cl u := by funext v; unfold gkv; rw [e]
  have a3 : gam cl' u = gam cl u := by funext v; unfold gam; rw [e]
  have a4 : ∀ k, grow cl' u ω k = grow cl u ω k := fun k => by unfold grow; rw [a2, a3, e]
  unfold mkd
  simp only [a1, a2, a4]
theorem cov_ext {ω : mW} {r c : Int} (e : cl' r = cl r ∧ kd' r = kd r) : cov cl' kd' ω r c ↔ cov cl kd ω r c := by
  unfold cov cvr kwd
  rw [e.1, e.2]
theorem cov_tr {ω : mW} {r c : Int} (hr : r < n) : cov cl kd (trW n ω) r c ↔ cov cl kd ω r c := ⟨fun ⟨x, x1, x2⟩ => ⟨x, (trW_in hr).mp x1, x2⟩, fun ⟨x, x1, x2⟩ => ⟨x, (trW_in hr).mpr x1, x2⟩⟩
theorem mkd_tr {u : mU} {ω : mW} {c : Int} (hk : ∀ k, 0 ≤ k → k < u.2.2.2.2 → (u.2.2.2.1.1 k = 0 ∨ u.2.2.2.1.1 k = 1) → u.2.2.2.1.2.1 k < n) (G : GW u.2.2.2.1 (trW n ω) u.2.2.2.2) : mkd cl u (trW n ω) c ↔ mkd cl u ω c := by
  have G' : GW u.2.2.2.1 ω u.2.2.2.2 := by
    refine ⟨G.1, fun k k0 k1 => ?_⟩
    have h := hk k k0 k1
    have e : (u.2.2.2.1.1 k = 0 ∨ u.2.2.2.1.1 k = 1) → (trW n ω).1 (u.2.2.2.1.2.1 k) = ω.1 (u.2.2.2.1.2.1 k) := fun q => if_pos (h q)
    rcases G.2 k k0 k1 with q | q | q
    · have e' := e (Or.inl q.1)
      rw [e'] at q
      exact Or.inl q
    · have e' := e (Or.inr q.1)
      rw [e'] at q
      exact Or.inr (Or.inl q)
    · exact Or.inr (Or.inr q)
  have a : agr u (trW n ω) ω := fun k k0 k1 q c => trW_in (hk k k0 k1 q)
  exact ⟨mkd_cg G G' a, mkd_cg G' G (fun k k0 k1 q c => (a k k0 k1 q c).symm)⟩
theorem gds_ext {ft : Int → Int → Prop} {N : Int} {ω : mW} (D : DC cl kd) (hU : ∀ u, RL u → RU cl kd ly oc u) (e : ∀ r, 0 ≤ r → r < n → cl' r = cl r ∧ kd' r = kd r) (hf : ∀ r c, ft r c → r < n) (hh : ∀ u, RL u → u.2.1 < n) (hk : ∀ u, RL u → ∀ k, 0 ≤ k → k < u.2.2.2.2 → (u.2.2.2.1.1 k = 0 ∨ u.2.2.2.1.1 k = 1) → u.2.2.2.1.2.1 k < n) (hz : ∀ r, 0 ≤ r → n ≤ r → r < 6 → ω.1 r = 0) (g : gds cl kd ly ft RL N ω) : gds cl' kd' ly ft RL N ω := by
  have V' : VW cl' kd' ω := by
    intro r r0 r1
    obtain ⟨v1, v2, v3⟩ := g.1 r r0 r1
    by_cases z : r < n
    · obtain ⟨e1, e2⟩ := e r r0 z
      have ek : kwd cl' kd' r = kwd cl kd r := by unfold kwd; rw [e1, e2]
      rw [ek, e1]
      exact ⟨v1, v2, v3⟩
    · rw [hz r r0 (by omega) r1]
      exact ⟨by omega, fun x x0 x1 => by omega, fun x y x0 xy y1 => by omega⟩
  refine ⟨V', fun L L0 L1 => ?_⟩
  obtain ⟨⟨a1, a2⟩, a3⟩ := g.2 L L0 L1
  refine ⟨⟨fun r c r0 r1 q l f => (cov_ext (e r r0 (hf r c f))).mpr (a1 r c r0 r1 q l f), fun u hu q l c m => ?_⟩, fun Dm ω' d v low c r r0 r1 q l x hx => ?_⟩
  · have h0 := (hU u hu).2.1.1
    have ee := e u.2.1 h0 (hh u hu)
    exact (cov_ext ee).mpr (a2 u hu q l c ((mkd_ext ee.1).mp m))
  · by_cases z : r < n
    · have Vt := trW_VW e v
      refine (cov_ext (e r r0 z)).mpr ((cov_tr z).mp (a3 Dm (trW n ω') d Vt (fun s s0 s1 sq sl y => ?_) ⟨fun s y s0 s1 sq sl f => ?_, fun u hu uq ul y m => ?_⟩ r r0 r1 q l x hx))
      · by_cases w : s < n
        · exact (low s s0 s1 sq sl y).trans (trW_in w).symm
        · constructor
          · rintro ⟨p, p0, p1, _⟩
            rw [hz s s0 (by omega) s1] at p1
            omega
          · rintro ⟨p, p0, p1, _⟩
            have ez : (trW n ω').1 s = 0 := if_neg w
            rw [ez] at p1
            omega
      · exact (cov_tr (hf s y f)).mpr ((cov_ext (e s s0 (hf s y f))).mp (c.1 s y s0 s1 sq sl f))
      · have h0 := (hU u hu).2.1.1
        have ee := e u.2.1 h0 (hh u hu)
        have Gt := RU_GW D (hU u hu) Vt
        have m' := (mkd_tr (hk u hu) Gt).mp m
        exact (cov_tr (hh u hu)).mpr ((cov_ext ee).mp (c.2 u hu uq ul y ((mkd_ext ee.1).mpr m')))
    · obtain ⟨p, p0, p1, _⟩ := hx
      rw [hz r r0 (by omega) r1] at p1
      omega
end EXT
