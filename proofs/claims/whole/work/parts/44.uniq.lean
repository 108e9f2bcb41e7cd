/-! ROWS THAT FOLLOW ARE ONE THING -/
section UNIQ
variable {cl kd ly : Int → Int} {oc : Int → Int → Prop}
theorem stp_cg {ρ : mR} {ω ω' : mW} {k : Int} {v w : mA} (h : (ρ.1 k = 0 ∨ ρ.1 k = 1) → ∀ c, inW ω (ρ.2.1 k) c ↔ inW ω' (ρ.2.1 k) c) (e : stp ρ ω k v w) : stp ρ ω' k v w := by
  rcases e with ⟨q, c, c1, c2⟩ | ⟨q, q1, q2⟩ | e | e
  · exact Or.inl ⟨q, c, (h (Or.inl q) c).mp c1, c2⟩
  · exact Or.inr (Or.inl ⟨q, fun ⟨c, c1, c2⟩ => q1 ⟨c, (h (Or.inr q) c).mpr c1, c2⟩, q2⟩)
  · exact Or.inr (Or.inr (Or.inl e))
  · exact Or.inr (Or.inr (Or.inr e))
theorem bnd_cg1 {ρ : mR} {ω ω' : mW} {N : Int} (hw : ∀ k, 0 ≤ k → k < N → ρ.1 k = 0 → 0 ≤ ρ.2.2.1 k) (h : ∀ k, 0 ≤ k → k < N → (ρ.1 k = 0 ∨ ρ.1 k = 1) → ∀ c, inW ω (ρ.2.1 k) c ↔ inW ω' (ρ.2.1 k) c) : ∀ (n : Nat) (k : Int) (v w : mA), 0 ≤ k → k + n = N → w ∈ bnd ρ ω n k v → w ∈ bnd ρ ω' n k v := by
  intro n
  induction n with
  | zero => intro k v w _ _ hw; exact hw
  | succ n ih =>
    intro k v w k0 kN hww
    obtain ⟨x, hx, hwx⟩ := List.mem_flatMap.mp (show w ∈ (opt ρ ω k v).flatMap (fun w => bnd ρ ω n (k + 1) w) from hww)
    refine List.mem_flatMap.mpr ⟨x, ?_, ih (k + 1) x w (by omega) (by omega) hwx⟩
    exact (mem_opt (hw k k0 (by omega))).mpr (stp_cg (h k k0 (by omega)) ((mem_opt (hw k k0 (by omega))).mp hx))
/-- the relations that a rule looks at have the same rows -/
def agr (u : mU) (ω ω' : mW) : Prop := ∀ k, 0 ≤ k → k < u.2.2.2.2 → (u.2.2.2.1.1 k = 0 ∨ u.2.2.2.1.1 k = 1) → ∀ c, inW ω (u.2.2.2.1.2.1 k) c ↔ inW ω' (u.2.2.2.1.2.1 k) c
theorem agr_symm {u : mU} {ω ω' : mW} (h : agr u ω ω') : agr u ω' ω := fun k k0 k1 q c => (h k k0 k1 q c).symm
theorem GW_w {u : mU} {ω : mW} (G : GW u.2.2.2.1 ω u.2.2.2.2) : ∀ k, 0 ≤ k → k < u.2.2.2.2 → u.2.2.2.1.1 k = 0 → 0 ≤ u.2.2.2.1.2.2.1 k := by
  intro k k0 k1 q
  rcases G.2 k k0 k1 with ⟨_, _, z, _⟩ | ⟨z, _⟩ | ⟨z, _⟩
  · exact z.1
  · omega
  · omega
theorem bnds_pm {u : mU} {ω ω' : mW} (G : GW u.2.2.2.1 ω u.2.2.2.2) (G' : GW u.2.2.2.1 ω' u.2.2.2.2) (h : agr u ω ω') : (bnds u ω).Perm (bnds u ω') := by
  have hN := G.1.1
  refine (List.perm_ext_iff_of_nodup (bnd_nd G _ 0 v0 (by omega) (by omega) (v0_J _)) (bnd_nd G' _ 0 v0 (by omega) (by omega) (v0_J _))).mpr (fun w => ⟨fun q => ?_, fun q => ?_⟩)
  · exact bnd_cg1 (GW_w G) h _ 0 v0 w (by omega) (by omega) q
  · exact bnd_cg1 (GW_w G) (agr_symm h) _ 0 v0 w (by omega) (by omega) q
variable (cl) in
/-- the key of a binding's group -/
def gkv (u : mU) (v : mA) : Int := hcd u.2.2.1 v (cl u.2.1 - 1).toNat 0 0
variable (cl) in
/-- what a binding brings -/
def gam (u : mU) (v : mA) : Int := if u.1 = 1 then 1 else tv v (u.2.2.1 (cl u.2.1 - 1))
def m99 (x : Int) : Int := if 99 < x then 99 else x
variable (cl) in
/-- the row of a group -/
noncomputable def grow (u : mU) (ω : mW) (key : Int) : Int := key + m99 (gsm (gkv cl u) (gam cl u) key (bnds u ω)) * dm_unit (cl u.2.1 - 1)
variable (cl) in
/-- what a rule makes of rows -/
def mkd (u : mU) (ω : mW) (c : Int) : Prop := (u.1 = 0 ∧ ∃ v, v ∈ bnds u ω ∧ c = hdc cl u v) ∨ (u.1 ≠ 0 ∧ ∃ v, v ∈ bnds u ω ∧ c = grow cl u ω (gkv cl u v))
theorem mkd_cg {u : mU} {ω ω' : mW} (G : GW u.2.2.2.1 ω u.2.2.2.2) (G' : GW u.2.2.2.1 ω' u.2.2.2.2) (h : agr u ω ω') {c : Int} (e : mkd cl u ω c) : mkd cl u ω' c := by
  have P := bnds_pm G G' h
  rcases e with ⟨q, v, v1, v2⟩ | ⟨q, v, v1, v2⟩
  · exact Or.inl ⟨q, v, P.mem_iff.mp v1, v2⟩
  · refine Or.inr ⟨q, v, P.mem_iff.mp v1, ?_⟩
    rw [v2]
    unfold grow
    rw [gsm_perm P]
/-- what a rule makes, is covered by what it makes of covering rows -/
theorem mk_cov {u : mU} {ω ω' : mW} {Dm : Int → Prop} (D : DC cl kd) (R : RU cl kd ly oc u) (V : VW cl kd ω) (V' : VW cl kd ω') (HD : ∀ k, 0 ≤ k → k < u.2.2.2.2 → (u.2.2.2.1.1 k = 0 ∨ u.2.2.2.1.1 k = 1) → Dm (u.2.2.2.1.2.1 k))
    (A1 : ∀ r, 0 ≤ r → r < 6 → Dm r → ly r < ly u.2.1 → ∀ c, inW ω r c ↔ inW ω' r c) (A2 : ∀ r, 0 ≤ r → r < 6 → Dm r → ly r ≤ ly u.2.1 → ∀ c, inW ω r c → cov cl kd ω' r c) {c : Int} (e : mkd cl u ω c) :
    ∃ c', mkd cl u ω' c' ∧ cvr cl kd u.2.1 c' c := by
  by_cases hu : u.1 = 0
  · rcases e with ⟨_, v, v1, v2⟩ | ⟨q, _⟩
    · obtain ⟨w', w1, w2⟩ := mkF_cov D R hu V V' HD A1 A2 v1
      exact ⟨_, Or.inl ⟨hu, w', w1, rfl⟩, by rw [v2]; exact w2⟩
    · exact absurd hu q
  · refine ⟨c, mkd_cg (RU_GW D R V) (RU_GW D R V') (fun k k0 k1 q => ?_) e, cvr_refl _ _⟩
    rcases R.2.2.2.1 k k0 k1 with ⟨_, s1, _, _, _, _, s6⟩ | ⟨s, _⟩
    · exact A1 _ s1.1 s1.2 (HD k k0 k1 q) (s6 (fun z => hu z.2.1))
    · omega
variable (cl kd ly) in
/-- of the relations in Dm and layer L: what is told and what rules make stands there -/
def clod (ft : Int → Int → Prop) (RL : mU → Prop) (Dm : Int → Prop) (L : Int) (ω : mW) : Prop := (∀ r c, 0 ≤ r → r < 6 → Dm r → ly r = L → ft r c → cov cl kd ω r c) ∧ ∀ u, RL u → Dm u.2.1 → ly u.2.1 = L → ∀ c, mkd cl u ω c → cov cl kd ω u.2.1 c
/-- what rules for relations in Dm look at, lies in Dm -/
def dwn (RL : mU → Prop) (Dm : Int → Prop) : Prop := ∀ u, RL u → Dm u.2.1 → ∀ k, 0 ≤ k → k < u.2.2.2.2 → (u.2.2.2.1.1 k = 0 ∨ u.2.2.2.1.1 k = 1) → Dm (u.2.2.2.1.2.1 k)
variable (cl kd ly) in
/-- no more stands there than has to -/
def lst (ft : Int → Int → Prop) (RL : mU → Prop) (L : Int) (ω : mW) : Prop := ∀ (Dm : Int → Prop) (ω' : mW), dwn RL Dm → VW cl kd ω' → (∀ r, 0 ≤ r → r < 6 → Dm r → ly r < L → ∀ c, inW ω r c ↔ inW ω' r c) → clod cl kd ly ft RL Dm L ω' → ∀ r, 0 ≤ r → r < 6 → Dm r → ly r = L → ∀ c, inW ω r c → cov cl kd ω' r c
variable (cl kd ly) in
/-- the rows that follow, of layers below n -/
def gds (ft : Int → Int → Prop) (RL : mU → Prop) (n : Int) (ω : mW) : Prop := VW cl kd ω ∧ ∀ L, 0 ≤ L → L < n → clod cl kd ly ft RL (fun _ => True) L ω ∧ lst cl kd ly ft RL L ω
theorem clod_sub {ft ft' : Int → Int → Prop} {RL : mU → Prop} {Dm : Int → Prop} {L : Int} {ω : mW} (hf : ∀ r c, 0 ≤ r → r < 6 → Dm r → (ft' r c → ft r c)) (h : clod cl kd ly ft RL (fun _ => True) L ω) : clod cl kd ly ft' RL Dm L ω :=
  ⟨fun r c r0 r1 q l f => h.1 r c r0 r1 trivial l (hf r c r0 r1 q f), fun u hu _ l c m => h.2 u hu trivial l c m⟩
/-- there is one such thing; what is told elsewhere matters not -/
theorem gds_eq {ft ft' : Int → Int → Prop} {RL : mU → Prop} {Dm : Int → Prop} {n : Int} {ω ω' : mW} (D : DC cl kd) (hd : dwn RL Dm) (hf : ∀ r c, 0 ≤ r → r < 6 → Dm r → (ft r c ↔ ft' r c)) (hl : ∀ r, 0 ≤ r → r < 6 → 0 ≤ ly r) (h : gds cl kd ly ft RL n ω) (h' : gds cl kd ly ft' RL n ω') : ∀ r, 0 ≤ r → r < 6 → Dm r → ly r < n → ∀ c, inW ω r c ↔ inW ω' r c := by
  have key : ∀ (m : Nat) (r : Int), 0 ≤ r → r < 6 → Dm r → ly r < n → ly r ≤ m → ∀ c, inW ω r c ↔ inW ω' r c := by
    have one : ∀ r, 0 ≤ r → r < 6 → Dm r → ly r < n → (∀ s, 0 ≤ s → s < 6 → Dm s → ly s < ly r → ∀ c, inW ω s c ↔ inW ω' s c) → ∀ c, inW ω r c ↔ inW ω' r c := by
      intro r r0 r1 q ln low
      obtain ⟨a1, a2⟩ := h.2 (ly r) (hl r r0 r1) ln
      obtain ⟨b1, b2⟩ := h'.2 (ly r) (hl r r0 r1) ln
      refine cov_anti D h.1 h'.1 ⟨r0, r1⟩ ?_ ?_
      · exact a2 Dm ω' hd h'.1 low (clod_sub (fun r c r0 r1 q => (hf r c r0 r1 q).mp) b1) r r0 r1 q rfl
      · exact b2 Dm ω hd h.1 (fun s s0 s1 sq sl c => (low s s0 s1 sq sl c).symm) (clod_sub (fun r c r0 r1 q => (hf r c r0 r1 q).mpr) a1) r r0 r1 q rfl
    intro m
    induction m with
    | zero => exact fun r r0 r1 q ln lm => one r r0 r1 q ln (fun s s0 s1 _ sl => by have := hl s s0 s1; omega)
    | succ m ih => exact fun r r0 r1 q ln lm => one r r0 r1 q ln (fun s s0 s1 sq sl => ih s s0 s1 sq (by omega) (by omega))
  exact fun r r0 r1 q ln => key (ly r).toNat r r0 r1 q ln (by have := hl r r0 r1; omega)
variable (cl kd ly) in
/-- there is too much: at some layer no rows do -/
def muc (ft : Int → Int → Prop) (RL : mU → Prop) : Prop := ∃ (L : Int) (ω : mW), 0 ≤ L ∧ gds cl kd ly ft RL L ω ∧ ∀ ω', VW cl kd ω' → (∀ r, 0 ≤ r → r < 6 → ly r < L → ∀ c, inW ω r c ↔ inW ω' r c) → ¬ clod cl kd ly ft RL (fun _ => True) L ω'
theorem muc_no {ft : Int → Int → Prop} {RL : mU → Prop} {n : Int} {ω : mW} (D : DC cl kd) (hl : ∀ r, 0 ≤ r → r < 6 → 0 ≤ ly r ∧ ly r < n) (hm : muc cl kd ly ft RL) (h : gds cl kd ly ft RL n ω) (hn : ∀ u, RL u → 0 ≤ u.2.1 ∧ u.2.1 < 6) : False := by
  obtain ⟨L, ω1, L0, g, no⟩ := hm
  rcases Int.lt_or_le L n with q | q
  · refine no ω h.1 (fun r r0 r1 l => ?_) (h.2 L L0 q).1
    exact gds_eq (Dm := fun _ => True) D (fun _ _ _ _ _ _ _ => trivial) (fun _ _ _ _ _ => Iff.rfl) (fun r r0 r1 => (hl r r0 r1).1) g ⟨h.1, fun L' a b => h.2 L' a (by omega)⟩ r r0 r1 trivial l
  · refine no ω h.1 (fun r r0 r1 l => ?_) ⟨fun r c r0 r1 _ l _ => by have := (hl r r0 r1).2; omega, fun u hu _ l => by have := hn u hu; have := (hl u.2.1 this.1 this.2).2; omega⟩
    exact gds_eq (Dm := fun _ => True) D (fun _ _ _ _ _ _ _ => trivial) (fun _ _ _ _ _ => Iff.rfl) (fun r r0 r1 => (hl r r0 r1).1) ⟨g.1, fun L' a b => g.2 L' a (by omega)⟩ h r r0 r1 trivial (hl r r0 r1).2
end UNIQ
