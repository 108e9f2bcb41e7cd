/-! GROUPS look on -/
section GRP
variable {A P : Nat} {N : Int} {h0 : dm_H}
variable (A h0 N) in
/-- the rule at A as groups want it -/
def GH : Prop := GU (cK h0) (uR h0 A) A h0 ∧ N = gi h0 A 4 ∧ gi h0 A 7 ≤ N ∧ ∀ i, 0 ≤ i → i < cK h0 (gi h0 A 2) → (0 ≤ gi h0 (A + 1) i ∧ gi h0 (A + 1) i ≤ 107) ∧ (slot (gi h0 (A + 1) i) ≠ -1 → kng (cR h0 A) (gi h0 A 7) (slot (gi h0 (A + 1) i)))
/-- what groups alone touch -/
def frH (h h' : dm_H) : Prop := ∀ a i, 140 ≤ a → ¬ (a = 140 ∧ (i = 2 ∨ i = 3)) → a ≠ 141 → a ≠ 142 → gi h' a i = gi h a i
/-- too many groups -/
def tmg (cl : Int → Int) (u : mU) (B : List mA) : Prop := ∃ f : Int → Int, (∀ x, 0 ≤ x → x ≤ 32 → ∃ v, v ∈ B ∧ gkv cl u v = f x) ∧ ∀ x y, 0 ≤ x → x < y → y ≤ 32 → f x ≠ f y
theorem GR_cg {cl : Int → Int} {u : mU} {l : List mA} {h h' : dm_H} (e : ∀ a i, (a = 140 ∧ i = 2) ∨ a = 141 ∨ a = 142 → gi h' a i = gi h a i) (k : GR cl u l h) : GR cl u l h' := by
  obtain ⟨g1, g2, g3, g4⟩ := k
  unfold GR
  rw [e 140 2 (by omega)]
  refine ⟨g1, fun x y x0 xy y1 => by rw [e 141 x (by omega), e 141 y (by omega)]; exact g2 x y x0 xy y1, fun x x0 x1 => by rw [e 141 x (by omega), e 142 x (by omega)]; exact g3 x x0 x1, fun w hw => ?_⟩
  obtain ⟨x, x0, x1, x2⟩ := g4 w hw
  exact ⟨x, x0, x1, by rw [e 141 x (by omega)]; exact x2⟩
theorem GH_hd (H : GH A N h0) {k : Int} (hk : gi h0 A 7 ≤ k) {v : mA} (hJ : Jg (cR h0 A) k v) : ∀ i, 0 ≤ i → i < cK h0 (uR h0 A).2.1 → 0 ≤ tv v ((uR h0 A).2.2.1 i) ∧ tv v ((uR h0 A).2.2.1 i) ≤ 99 := by
  intro i i0 i1
  obtain ⟨a1, a2⟩ := H.2.2.2 i i0 i1
  refine tv_g hJ a1 (fun q => ?_)
  obtain ⟨z, z0, z1, z2⟩ := a2 q
  exact ⟨z, z0, by omega, z2⟩
theorem GH_k (H : GH A N h0) {k : Int} (hk : gi h0 A 7 ≤ k) {v w : mA} (hJ : Jg (cR h0 A) k v) (hl : lev v w) : gkv (cK h0) (uR h0 A) w = gkv (cK h0) (uR h0 A) v := by
  have hc := H.1.2.2.2.2.2
  refine hcd_cg (fun j j0 j1 => lev_tv hl (fun q => hJ.2.2 _ q ?_))
  obtain ⟨z, z0, z1, z2⟩ := (H.2.2.2 j j0 (by show j < cK h0 (uR h0 A).2.1; omega)).2 q
  exact ⟨z, z0, by omega, z2⟩
theorem grp_step (W : SW A P N 0 h0) (hst : stl h0 A P N) (hAW : AW h0 A P N) (hrd : gi h0 137 9 = 0) (hna : gi h0 137 10 = -1) (h4 : gi h0 137 4 = 1000000) (hab : abf (cR h0 A) N.toNat 0 ≤ 999999) (H : GH A N h0) (G : GW (cR h0 A) (cW h0 P) N)
    {v : mA} (hv : Jv A h0 0 v) (J : Js A P 140 N 0 (-1) h0 h0) (hva : va h0 138 = v) (h5 : gi h0 137 5 = 0) (h2 : gi h0 137 2 = 0) (hz : gi h0 140 2 = 0) {d : Nat} (hd : 8 ≤ d) :
    ∃ h', dF d 22 [dR 1 5 137, dI 0] h0 = rV h' ∧ frC h0 h' ∧ frH h0 h' ∧ ((GR (cK h0) (uR h0 A) (bnd (cR h0 A) (cW h0 P) N.toNat 0 v) h' ∧ gi h' 140 3 = gi h0 140 3) ∨ (gi h' 140 3 = 1 ∧ tmg (cK h0) (uR h0 A) (bnd (cR h0 A) (cW h0 P) N.toNat 0 v) ∧ ∃ l, (∀ w, w ∈ l → w ∈ bnd (cR h0 A) (cW h0 P) N.toNat 0 v) ∧ GR (cK h0) (uR h0 A) l h')) := by
  have hru := W.1
  have hrw := W.2.1
  have hA := ru_ne hru
  have hc := H.1.2.2.2.2.2
  have hbJ : ∀ w, w ∈ bnd (cR h0 A) (cW h0 P) N.toNat 0 v → Jg (cR h0 A) N w := by
    intro w hw
    have eN := H.2.1
    have := bnd_J (u := uR h0 A) (ω := cW h0 P) (by rw [eN] at G; exact G) N.toNat 0 v w (by omega) (by have := G.1.1; show (0 : Int) + _ = gi h0 A 4; omega) hv hw
    rw [eN]; exact this
  have ham : ∀ w, w ∈ bnd (cR h0 A) (cW h0 P) N.toNat 0 v → 0 ≤ gam (cK h0) (uR h0 A) w := fun w hw => (gam_r hc.1 (GH_hd H H.2.2.1 (hbJ w hw))).1
  have hU : ∀ h, frC h0 h → GU (cK h0) (uR h0 A) A h := by
    intro h f
    obtain ⟨u1, u2, u3, u4, u5, u6⟩ := H.1
    have lo : ∀ a, a < 137 → ∀ i, gi h a i = gi h0 a i := fun a ha i => f.1 a i (by omega) (by omega) (by omega) (by omega)
    exact ⟨by rw [f.2.1]; exact u1, by rw [lo _ (by omega)]; exact u2, fun i => by rw [lo _ (by omega)]; exact u3 i, by rw [lo _ (by omega)]; exact u4, u5, u6⟩
  have hcell : ∀ h, frC h0 h → gr h 140 1 = A ∧ gi h A 7 = gi h0 A 7 ∧ gi h A 4 = N ∧ gi h A 3 = cK h0 (uR h0 A).2.1 := by
    intro h f
    have lo : ∀ i, gi h A i = gi h0 A i := fun i => f.1 A i (by omega) (by omega) (by omega) (by omega)
    exact ⟨(hU h f).1, lo 7, by rw [lo 4]; exact H.2.1.symm, (hU h f).2.1⟩
  -- up to the group's place
  have hpre : ∀ (d : Nat) (k : Int) (v : mA) (h : dm_H), 3 ≤ d → frC h0 h → va h 138 = v → Jg (cR h0 A) k v → gi h0 A 7 ≤ k → (0 ≤ gi h 140 2 ∧ gi h 140 2 ≤ 32) → ∃ g, dF d 43 [dR 1 4 140, dI k] h = dL (d - 1) 43 40 [lR 1 4 140, lI k, none] [dI g] h ∧ (0 ≤ g ∧ g ≤ gi h 140 2) ∧ (∀ x, 0 ≤ x → x < g → gi h 141 x ≠ gkv (cK h0) (uR h0 A) v) ∧ (g < gi h 140 2 → gi h 141 g = gkv (cK h0) (uR h0 A) v) := by
    intro d k v h hd f hva hJ hk hn
    obtain ⟨c1, c2, c3, c4⟩ := hcell h f
    obtain ⟨u1, u2, u3, u4, u5, u6⟩ := hU h f
    have h26 : dF (d - 1) 26 [dR 1 8 A, dR 2 8 138, dI (cK h0 (uR h0 A).2.1 - 1)] h = rI (gkv (cK h0) (uR h0 A) v) h := by
      have hh := GH_hd H hk hJ
      have := s26 (d := d - 1) (by omega) A (cK h0 (uR h0 A).2.1 - 1) h (by omega) (fun i i0 i1 => by rw [hva, u3]; exact hh i i0 (by omega))
      rw [hva, show gi h (A + 1) = (uR h0 A).2.2.1 from funext u3] at this
      exact this
    obtain ⟨g, e1, e2, e3, e4⟩ := s30 (d := d - 1) (by omega) h (gkv (cK h0) (uR h0 A) v) hn
    refine ⟨g, ?_, e2, e3, e4⟩
    rw [f43 (by omega), b43_0, c1, c2, if_neg (by omega), c4, ck_p (by omega) (by omega), h26, bk_v, b43_37, e1, bk_v]
  have key := lst_step (V := 140) (d0 := 3) (B := bnd (cR h0 A) (cW h0 P) N.toNat 0 v)
    (St := fun l h => frC h0 h ∧ frH h0 h ∧ gi h 140 3 = gi h0 140 3 ∧ GR (cK h0) (uR h0 A) l h)
    (Bad := fun h => frC h0 h ∧ frH h0 h ∧ gi h 140 3 = 1 ∧ tmg (cK h0) (uR h0 A) (bnd (cR h0 A) (cW h0 P) N.toNat 0 v) ∧ ∃ l, (∀ w, w ∈ l → w ∈ bnd (cR h0 A) (cW h0 P) N.toNat 0 v) ∧ GR (cK h0) (uR h0 A) l h)
    (by omega) W hst hAW hrd hna h4 hab (fun l h q => q.1) ?HQ ?BQ (fun h q => q.1) ?HR ?HN hv J hva ?hS (fun w hw => hw) h5 h2 hd
  case HQ =>
    rintro l h h' ⟨q1, q2, q3, q4⟩ q
    have e : ∀ a i, 140 ≤ a → gi h' a i = gi h a i := fun a i ha => q.1.1 a i (by omega) (by omega) (by omega)
    obtain ⟨g1, g2, g3, g4⟩ := q4
    refine ⟨frC_trans q1 (frC_q q), fun a i p1 p2 p3 p4 => by rw [e a i p1]; exact q2 a i p1 p2 p3 p4, by rw [e 140 3 (by omega)]; exact q3, ?_⟩
    unfold GR
    rw [e 140 2 (by omega)]
    refine ⟨g1, fun x y x0 xy y1 => by rw [e 141 x (by omega), e 141 y (by omega)]; exact g2 x y x0 xy y1, fun x x0 x1 => by rw [e 141 x (by omega), e 142 x (by omega)]; exact g3 x x0 x1, fun w hw => ?_⟩
    obtain ⟨x, x0, x1, x2⟩ := g4 w hw
    exact ⟨x, x0, x1, by rw [e 141 x (by omega)]; exact x2⟩
  case BQ =>
    rintro h h' ⟨q1, q2, q3, q4⟩ q
    have e : ∀ a i, 140 ≤ a → gi h' a i = gi h a i := fun a i ha => q.1.1 a i (by omega) (by omega) (by omega)
    obtain ⟨q4, l, q5, q6⟩ := q4
    exact ⟨frC_trans q1 (frC_q q), fun a i p1 p2 p3 p4 => by rw [e a i p1]; exact q2 a i p1 p2 p3 p4, by rw [e 140 3 (by omega)]; exact q3, q4, l, q5, GR_cg (fun a i ha => e a i (by omega)) q6⟩
  case hS => exact ⟨frC_refl h0, fun _ _ _ _ _ _ => rfl, rfl, GR_0 hz⟩
  case HR =>
    rintro d k v l h hd k0 kN ⟨q1, q2, q3, q4⟩ hva Jv hl hB
    have hrch : rch d 140 k h = dF d 43 [dR 1 4 140, dI k] h := by
      unfold rch
      rw [if_neg (by omega), if_neg (by omega), if_neg (by omega), if_neg (by omega), if_pos rfl]
    obtain ⟨c1, c2, c3, c4⟩ := hcell h q1
    rw [hrch]
    by_cases e : k < gi h0 A 7
    · refine ⟨1, h, ?_, Or.inr rfl, hva, rfl, rfl, fun _ => ⟨q1, q2, q3, q4⟩, fun z => by omega⟩
      rw [f43 (by omega), b43_0, c1, c2, if_pos e]
    · obtain ⟨g, e1, e2, e3, e4⟩ := hpre d k v h (by omega) q1 hva Jv (by omega) q4.1
      have h62 : dL (d - 1) 43 62 [lR 1 4 140, lI k, lI g] [] h = rI 1 h := by
        rw [b43_62, c1, c3, if_pos kN, b43_88]
      rw [e1, b43_40]
      by_cases y : g < gi h 140 2
      · rw [if_pos y, ix_p e2.1 (by have := q4.1; omega)]
        by_cases y2 : gi h 142 g < 99
        · rw [if_pos y2, h62]
          exact ⟨1, h, rfl, Or.inr rfl, hva, rfl, rfl, fun _ => ⟨q1, q2, q3, q4⟩, fun z => by omega⟩
        · rw [if_neg y2]
          refine ⟨0, h, rfl, Or.inl rfl, hva, rfl, rfl, fun z => by omega, fun _ => ⟨q1, q2, q3, GR_full q4 ⟨e2.1, y⟩ (by omega) (fun w hw => ⟨?_, ham w (hB w hw)⟩)⟩⟩
          rw [e4 y]
          exact GH_k H (by omega) Jv (bnd_lev G (N - k).toNat k v w k0 (by omega) Jv hw)
      · rw [if_neg y, h62]
        exact ⟨1, h, rfl, Or.inr rfl, hva, rfl, rfl, fun _ => ⟨q1, q2, q3, q4⟩, fun z => by omega⟩
  case HN =>
    rintro d v' l h hd ⟨q1, q2, q3, q4⟩ hva Jv hl hB
    have hrch : rch d 140 N h = dF d 43 [dR 1 4 140, dI N] h := by
      unfold rch
      rw [if_neg (by omega), if_neg (by omega), if_neg (by omega), if_neg (by omega), if_pos rfl]
    obtain ⟨c1, c2, c3, c4⟩ := hcell h q1
    rw [hrch]
    obtain ⟨g, e1, e2, e3, e4⟩ := hpre d N v' h (by omega) q1 hva Jv H.2.2.1 q4.1
    have h62 : ∀ (w2 : Option dm_V), ∃ h2, dL (d - 1) 43 62 [lR 1 4 140, lI N, w2] [] h = rI 1 h2 ∧ va h2 138 = v' ∧ gi h2 137 2 = gi h 137 2 ∧ (((frC h0 h2 ∧ frH h0 h2 ∧ gi h2 140 3 = gi h0 140 3 ∧ GR (cK h0) (uR h0 A) (l ++ [v']) h2) ∧ gi h2 137 5 = gi h 137 5) ∨ ((frC h0 h2 ∧ frH h0 h2 ∧ gi h2 140 3 = 1 ∧ tmg (cK h0) (uR h0 A) (bnd (cR h0 A) (cW h0 P) N.toNat 0 v) ∧ ∃ l, (∀ w, w ∈ l → w ∈ bnd (cR h0 A) (cW h0 P) N.toNat 0 v) ∧ GR (cK h0) (uR h0 A) l h2) ∧ gi h2 137 5 ≠ 0)) := by
      intro w2
      rw [b43_62, c1, c3, if_neg (by omega)]
      rcases s29 (d := d - 1) (by omega) (hU h q1) hva (GH_hd H H.2.2.1 Jv) q4 (fun w hw => ham w (hl w hw)) hru with ⟨g', h', y1, y2, y3, y4, y5, y6, y7⟩ | ⟨y1, y2, y3⟩
      · rw [y1, bk_v, b43_77, if_neg (by omega), b43_88]
        have e : ∀ a i, a < 140 → gi h' a i = gi h a i := fun a i ha => y3.1 a i (by omega) (by omega) (by omega)
        refine ⟨h', rfl, ?_, e 137 2 (by omega), Or.inl ⟨⟨frC_trans q1 ⟨fun a i p1 _ _ _ => e a i p1, y3.2.1, y3.2.2⟩, fun a i p1 p2 p3 p4 => ?_, ?_, y2⟩, e 137 5 (by omega)⟩⟩
        · rw [← hva]; funext x; unfold va; rw [e 138 x (by omega)]
        · rw [y3.1 a i (fun z => p2 ⟨z.1, Or.inl z.2⟩) p3 p4]
          exact q2 a i p1 p2 p3 p4
        · rw [y3.1 140 3 (by omega) (by omega) (by omega)]
          exact q3
      · rw [y1, bk_v, b43_77, if_pos rfl, f37 (by omega), b37_0, bk_n, b43_88]
        have e : ∀ a i, ¬ (a = 140 ∧ i = 3) → ¬ (a = 137 ∧ i = 5) → gi (si (si h 140 3 1) 137 5 1) a i = gi h a i := fun a i p1 p2 => by rw [gi_si, if_neg p2, gi_si, if_neg p1]
        refine ⟨_, rfl, ?_, e 137 2 (by omega) (by omega), Or.inr ⟨⟨frC_trans q1 ⟨fun a i p1 _ _ p4 => e a i (by omega) (fun z => p4 ⟨z.1, Or.inr (Or.inr z.2)⟩), fun _ _ => rfl, rfl⟩, fun a i p1 p2 p3 p4 => ?_, ?_, ?_, l, hl, GR_cg (fun a i ha => e a i (by omega) (by omega)) q4⟩, ?_⟩⟩
        · rw [← hva]; funext x; unfold va; rw [e 138 x (by omega) (by omega)]
        · rw [e a i (fun z => p2 ⟨z.1, Or.inr z.2⟩) (by omega)]
          exact q2 a i p1 p2 p3 p4
        · rw [gi_sin (by decide), gi_sis]
        · refine ⟨fun x => if x = 32 then gkv (cK h0) (uR h0 A) v' else gi h 141 x, fun x x0 x1 => ?_, fun x y x0 xy y1 => ?_⟩
          · show ∃ w, w ∈ _ ∧ gkv (cK h0) (uR h0 A) w = (if x = 32 then gkv (cK h0) (uR h0 A) v' else gi h 141 x)
            by_cases z : x = 32
            · rw [if_pos z]; exact ⟨v', hB, rfl⟩
            · rw [if_neg z]
              obtain ⟨⟨w, w1, w2⟩, _⟩ := q4.2.2.1 x x0 (by omega)
              exact ⟨w, hl w w1, w2⟩
          · show (if x = 32 then gkv (cK h0) (uR h0 A) v' else gi h 141 x) ≠ (if y = 32 then gkv (cK h0) (uR h0 A) v' else gi h 141 y)
            rw [if_neg (by omega)]
            by_cases z : y = 32
            · rw [if_pos z]; exact y3 x x0 (by omega)
            · rw [if_neg z]; exact q4.2.1 x y x0 xy (by omega)
        · rw [gi_sis]; decide
    rw [e1, b43_40]
    by_cases y : g < gi h 140 2
    · rw [if_pos y, ix_p e2.1 (by have := q4.1; omega)]
      by_cases y2 : gi h 142 g < 99
      · rw [if_pos y2]
        obtain ⟨h2, z1, z2, z3, z4⟩ := h62 (lI g)
        exact ⟨1, h2, z1, Or.inr rfl, z2, z3, z4⟩
      · rw [if_neg y2]
        refine ⟨0, h, rfl, Or.inl rfl, hva, rfl, Or.inl ⟨⟨q1, q2, q3, GR_full q4 ⟨e2.1, y⟩ (by omega) (fun w hw => ?_)⟩, rfl⟩⟩
        rw [List.mem_singleton.mp hw]
        exact ⟨(e4 y).symm, ham v' hB⟩
    · rw [if_neg y]
      obtain ⟨h2, z1, z2, z3, z4⟩ := h62 (lI g)
      exact ⟨1, h2, z1, Or.inr rfl, z2, z3, z4⟩
  obtain ⟨h', r1, r2, r3⟩ := key
  refine ⟨h', r1, ?_⟩
  rcases r3 with ⟨⟨z1, z2, z3, z4⟩, _⟩ | ⟨⟨z1, z2, z3, z4⟩, _⟩
  · exact ⟨z1, z2, Or.inl ⟨z4, z3⟩⟩
  · exact ⟨z1, z2, Or.inr ⟨z3, z4⟩⟩
end GRP
