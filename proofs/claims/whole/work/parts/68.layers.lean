/-! LAYERS, one behind the other -/
section GCG
variable {cl kd ly : Int → Int} {oc : Int → Int → Prop}
theorem cov_iff {ω ω' : mW} {r c : Int} (e : ∀ x, inW ω r x → inW ω' r x) (k : cov cl kd ω r c) : cov cl kd ω' r c := by
  obtain ⟨x, x1, x2⟩ := k
  exact ⟨x, e x x1, x2⟩
/-- rules look at their own layer and lower ones -/
theorem RU_low {u : mU} (R : RU cl kd ly oc u) {k : Int} (k0 : 0 ≤ k) (k1 : k < u.2.2.2.2) (q : u.2.2.2.1.1 k = 0 ∨ u.2.2.2.1.1 k = 1) : (0 ≤ u.2.2.2.1.2.1 k ∧ u.2.2.2.1.2.1 k < 6) ∧ ly (u.2.2.2.1.2.1 k) ≤ ly u.2.1 := by
  rcases R.2.2.2.1 k k0 k1 with ⟨_, s1, _, _, _, s5, s6⟩ | ⟨s, _⟩
  · refine ⟨s1, ?_⟩
    by_cases z : nea kd oc u k
    · exact s5 z
    · have := s6 z
      omega
  · omega
/-- the rows that follow stay so where the same rows stand -/
theorem gds_cg {ft : Int → Int → Prop} {RL : mU → Prop} {n : Int} {ω ω2 : mW} (D : DC cl kd) (hR : ∀ u, RL u → RU cl kd ly oc u) (V2 : VW cl kd ω2) (e : ∀ r, 0 ≤ r → r < 6 → ly r < n → ∀ c, inW ω r c ↔ inW ω2 r c) (h : gds cl kd ly ft RL n ω) : gds cl kd ly ft RL n ω2 := by
  refine ⟨V2, fun L L0 L1 => ?_⟩
  obtain ⟨⟨c1, c2⟩, c3⟩ := h.2 L L0 L1
  refine ⟨⟨fun r c r0 r1 t l f => cov_iff (fun x => (e r r0 r1 (by omega) x).mp) (c1 r c r0 r1 t l f), fun u hu t l c m => ?_⟩, ?_⟩
  · have R := hR u hu
    refine cov_iff (fun x => (e _ R.2.1.1 R.2.1.2 (by omega) x).mp) (c2 u hu t l c (mkd_cg (RU_GW D R V2) (RU_GW D R h.1) (fun k k0 k1 q c => ?_) m))
    obtain ⟨s1, s2⟩ := RU_low R k0 k1 q
    exact (e _ s1.1 s1.2 (by omega) c).symm
  · intro Dm ω' hd V low cl' r r0 r1 q l c hc
    exact c3 Dm ω' hd V (fun r r0 r1 q l c => (e r r0 r1 (by omega) c).trans (low r r0 r1 q l c)) cl' r r0 r1 q l c ((e r r0 r1 (by omega) c).mpr hc)
end GCG
section LAYS
variable {P : Nat} {hB : dm_H} {oc : Int → Int → Prop} {ft : Int → Int → Prop} {RL : mU → Prop}
theorem RK_fr (hp : rw_ P) {h : dm_H} (f : frR P hB h) (K : RK hB) : RK h := by
  obtain ⟨e1, -⟩ := frR_e (A := 15) (Or.inl (by omega)) hp f
  unfold RK at K ⊢
  simp only [e1 2 (by omega), e1 3 (by omega), e1 4 (by omega), e1 5 (by omega)]
  exact K
theorem BK_fr (hp : rw_ P) {h : dm_H} (f : frR P hB h) (B : BK hB oc RL) : BK h oc RL := by
  have e13 : gi h 13 1 = gi hB 13 1 := (frR_e (A := 15) (Or.inl (by omega)) hp f).1 13 (by omega) 1
  refine ⟨by rw [e13]; exact B.1, fun j j0 j1 => ?_⟩
  rw [e13] at j1
  have e14 : gr h 14 j = gr hB 14 j := f.2.1 14 j (by omega) (by omega) (by omega)
  rw [e14]
  obtain ⟨b1, b2⟩ := B.2 j j0 j1
  generalize gr hB 14 j = A at b1 b2
  obtain ⟨e1, e2, e3, e4, e5, e6⟩ := frR_e b1 hp f
  have eA : ∀ q, q ≤ 7 → ∀ i, gi h (A + q) i = gi hB (A + q) i := fun q hq => e1 (A + q) (by omega)
  have eA0 : ∀ i, gi h A i = gi hB A i := eA 0 (by omega)
  have et : tm h A = tm hB A := by
    funext k i
    exact eA 5 (by omega) _
  refine ⟨b1, ?_⟩
  unfold RP at b2 ⊢
  rw [e2, e3, e4, e5, e6, e1 2 (by omega), et]
  simp only [eA0, eA 1 (by omega), eA 2 (by omega), eA 4 (by omega), eA 6 (by omega)]
  exact b2
/-- the book's rules make rows -/
def RLc (h : dm_H) : mU → Prop := fun u => ∃ j, 0 ≤ j ∧ j < gi h 13 1 ∧ gi h (gr h 14 j) 1 ≠ 3 ∧ u = uR h (gr h 14 j)
theorem RLc_RU (B : BK hB oc RL) {u : mU} (hu : RLc hB u) : RU (cK hB) (gi hB 4) (gi hB 7) oc u ∧ u.2.1 < gi hB 2 0 := by
  obtain ⟨j, j0, j1, j2, rfl⟩ := hu
  obtain ⟨-, b | ⟨_, R, _⟩⟩ := B.2 j j0 j1
  · exact absurd b j2
  · exact ⟨R.2.1, R.2.2.2.1⟩
theorem RLc_fr (hp : rw_ P) {h : dm_H} (f : frR P hB h) (B : BK hB oc RL) : RLc h = RLc hB := by
  have e13 : gi h 13 1 = gi hB 13 1 := (frR_e (A := 15) (Or.inl (by omega)) hp f).1 13 (by omega) 1
  have e14 : ∀ j, gr h 14 j = gr hB 14 j := fun j => f.2.1 14 j (by omega) (by omega) (by omega)
  have key : ∀ j, 0 ≤ j → j < gi hB 13 1 → gi h (gr hB 14 j) 1 = gi hB (gr hB 14 j) 1 ∧ uR h (gr hB 14 j) = uR hB (gr hB 14 j) := by
    intro j j0 j1
    obtain ⟨e1, e2, -⟩ := frR_e (B.2 j j0 j1).1 hp f
    exact ⟨e1 _ (by omega) 1, e2⟩
  funext u
  apply propext
  unfold RLc
  rw [e13]
  constructor
  · rintro ⟨j, j0, j1, j2, j3⟩
    rw [e14, (key j j0 j1).1] at j2
    rw [e14, (key j j0 j1).2] at j3
    exact ⟨j, j0, j1, j2, j3⟩
  · rintro ⟨j, j0, j1, j2, j3⟩
    refine ⟨j, j0, j1, ?_, ?_⟩
    · rw [e14, (key j j0 j1).1]; exact j2
    · rw [e14, (key j j0 j1).2]; exact j3
variable (P hB ft) in
/-- what holds as layer L begins; hB is the heap as the run began -/
def LI (L : Int) (h : dm_H) : Prop := frR P hB h ∧ gr h 143 5 = P ∧ VW (cK hB) (gi hB 4) (cW h P) ∧ stp_ P 0 h ∧ (∀ r, gi hB 2 0 ≤ r → r < 6 → rsz h P r = 0) ∧ (∀ r c, 0 ≤ r → r < 6 → ft r c → cov (cK hB) (gi hB 4) (cW h P) r c) ∧ (∀ r c, 0 ≤ r → r < 6 → L ≤ gi hB 7 r → inW (cW h P) r c → ft r c) ∧ gi h P 5 = 0 ∧ gds (cK hB) (gi hB 4) (gi hB 7) ft (RLc hB) L (cW h P)
theorem layer {d : Nat} (hd : 9 ≤ d) (hp : rw_ P) (K : RK hB) (B : BK hB oc (RLc hB)) (hft : ∀ r c, ft r c → 0 ≤ r ∧ r < gi hB 2 0) {L : Int} (L0 : 0 ≤ L ∧ L < 1000) {h : dm_H} (I : LI P hB ft L h) (w1 w2 w3 w4 w6 w7 : Option dm_V) (hL : L ≤ gi hB 2 6) :
    ∃ h' w6' w7', dL d 58 91 [lR 1 1 143, w1, w2, w3, w4, lI L, w6, w7] [] h = dL d 58 91 [lR 1 1 143, w1, w2, w3, w4, lI (L + 1), w6', w7'] [] h' ∧ (LI P hB ft (L + 1) h' ∨ (gi h' P 5 = 1 ∧ gr h' 143 5 = P ∧ frR P hB h' ∧ muc (cK hB) (gi hB 4) (gi hB 7) ft (RLc hB))) := by
  have hP : P = 95 ∨ P = 112 := hp
  have hru15 : ru 15 := Or.inl (by omega)
  have D := RK_D K
  obtain ⟨i1, i2, i3, i4, i5, i6, i7, i8, i9⟩ := I
  have e26 : gi h 2 6 = gi hB 2 6 := (frR_e hru15 hp i1).1 2 (by omega) 6
  rw [b58_91, e26, if_neg (by omega), i2, i8, if_pos rfl]
  have m1 : smP P h (si h 143 8 1) := fun a i p1 p2 => by rw [gi_sin (by omega)]
  have f1 : frR P h (si h 143 8 1) := ⟨fun a i _ _ p3 => by rw [gi_sin (by omega)], fun _ _ _ _ _ => rfl, rfl⟩
  have g8 : gi (si h 143 8 1) 143 8 = 1 := gi_sis
  have g5 : gi (si h 143 8 1) P 5 = 0 := by rw [m1 _ _ (by omega) (by omega), i8]
  have r5 : gr (si h 143 8 1) 143 5 = P := i2
  have eW : smW (cW h P) (cW (si h 143 8 1) P) := fun q _ _ => ⟨m1 _ _ (by omega) (by omega), fun x => m1 _ _ (by omega) (by omega)⟩
  have st : stp_ P 0 (si h 143 8 1) := by
    intro r r0 r1
    obtain ⟨a1, a2⟩ := i4 r r0 r1
    unfold rsz rst at a2 ⊢
    rw [m1 _ _ (by omega) (by omega)]
    refine ⟨a1, fun x x0 x1 => ?_⟩
    rw [m1 _ _ (by omega) (by omega)] at x1 ⊢
    exact a2 x x0 x1
  have fS := frR_trans i1 f1
  generalize si h 143 8 1 = hS at *
  obtain ⟨e1, -, -, e4, e5, e6⟩ := frR_e hru15 hp fS
  have KS := RK_fr hp fS K
  have BS := BK_fr hp fS B
  have eR := RLc_fr hp fS B
  have VS : VW (cK hB) (gi hB 4) (cW hS P) := smW_VW eW i3
  have inS : ∀ r c, 0 ≤ r → r < 6 → (inW (cW hS P) r c ↔ inW (cW h P) r c) := fun r c r0 r1 => smW_in eW ⟨r0, r1⟩
  have covS : ∀ r c, 0 ≤ r → r < 6 → ft r c → cov (cK hB) (gi hB 4) (cW hS P) r c := fun r c r0 r1 f => smW_cov eW ⟨r0, r1⟩ (i6 r c r0 r1 f)
  have gS : gds (cK hB) (gi hB 4) (gi hB 7) ft (RLc hB) L (cW hS P) := gds_cg D (fun u hu => (RLc_RU B hu).1) VS (fun r r0 r1 _ c => (inS r c r0 r1).symm) i9
  have sn : snd_ P hS ft (RLc hB) L hS := by
    intro Dm ω' cn r r0 r1 q l c hc
    rw [e6] at l
    have := cn.2.2.2.1 r c r0 r1 q (by rw [e6]; exact l) (i7 r c r0 r1 (by omega) ((inS r c r0 r1).mp hc))
    exact this
  have RIS : RI P hS ft (RLc hB) 0 L hS := ⟨frR_refl P hS, by rw [e4, e5]; exact VS, st, sn, fun _ _ _ _ => ⟨rfl, fun _ => rfl⟩, Or.inl g5⟩
  have od : oldl P hS L hS := by
    intro r r0 r1 _ x x0 x1
    obtain ⟨a1, a2⟩ := st r r0 r1
    have := a2 x x0 x1
    omega
  obtain ⟨h', ft', r', w7', t1, t2, t3, t4, t5, t6, t7, t8, t9⟩ := turns hd hp KS BS RIS w1 w2 w3 w4 30000 0 hS ft w7 (by omega) (by omega) (fun _ _ q => q) RIS od (frR_refl P hS) r5 (othl_refl hS) (fun z => absurd g5 z) (fun _ => ⟨rfl, fun r0 a b => by omega, Or.inl ⟨g8, by have := (wgh_ub (RK_D KS) RIS.2.1).1; omega⟩⟩)
  have f2 := frR_trans fS t5
  obtain ⟨q1, -⟩ := frR_e hru15 hp f2
  obtain ⟨h2, c1, c2⟩ := s66 (d := d) (by omega) h' P L hp (by rw [q1 2 (by omega)]; exact K.1)
  have e2n : gi h' 2 0 = gi hB 2 0 := q1 2 (by omega) 0
  have e7 : gi h' 7 = gi hB 7 := by
    funext i
    exact q1 7 (by omega) i
  rw [e2n] at c2
  unfold clsd at c2
  simp only [e7] at c2
  rw [t1, b58_232, t6, c1, bk_n, b58_241, ck_p (by omega) (by omega)]
  refine ⟨h2, _, _, rfl, ?_⟩
  have ez : ∀ r, 0 ≤ r → r < 6 → rsz h2 P r = rsz h' P r := fun r r0 r1 => c2.1 _ _ (by omega)
  have ew : ∀ r, 0 ≤ r → r < 6 → ∀ x, rws h2 P r x = rws h' P r x := fun r r0 r1 x => c2.1 _ _ (by omega)
  have eW2 : smW (cW h' P) (cW h2 P) := fun q q0 q1 => ⟨ez q q0 q1, ew q q0 q1⟩
  have e5' : gi h2 P 5 = gi h' P 5 := c2.1 _ _ (by omega)
  have f3 : frR P hB h2 := frR_trans f2 ⟨fun a i p1 p2 p3 => c2.1 a i (by omega), fun a i _ _ _ => c2.2.1 a i, c2.2.2.1⟩
  have r2 : gr h2 143 5 = P := by rw [c2.2.1, t6]
  by_cases z : gi h' P 5 = 0
  · left
    obtain ⟨y1, y2⟩ := t9 z
    subst y1
    have V2 : VW (cK hB) (gi hB 4) (cW h2 P) := by
      have := t3.2.1
      rw [e4, e5] at this
      exact smW_VW eW2 this
    have in2 : ∀ r c, 0 ≤ r → r < 6 → (inW (cW h2 P) r c ↔ inW (cW h' P) r c) := fun r c r0 r1 => smW_in eW2 ⟨r0, r1⟩
    have no : ∀ r, gi hB 2 0 ≤ r → r < 6 → rsz h' P r = 0 := by
      intro r r0 r1
      have rS : ∀ r, gi hB 2 0 ≤ r → r < 6 → rsz hS P r = 0 := fun r r0 r1 => by
        have := K.1.1
        rw [show rsz hS P r = rsz h P r from (eW r (by omega) r1).1]; exact i5 r r0 r1
      have n0 := K.1.1
      have v := (V2 r (by omega) r1).1
      have v : 0 ≤ rsz h2 P r ∧ rsz h2 P r ≤ 32 := v
      rw [ez r (by omega) r1] at v
      by_cases l : gi hB 7 r = L
      · rcases (show rsz h' P r = 0 ∨ 0 < rsz h' P r by omega) with w | w
        · exact w
        exfalso
        have := t3.2.2.2.1 (fun r => gi hB 2 0 ≤ r) (fun _ => 0, fun _ _ => 0) ⟨?_, ?_, ?_, ?_⟩ r (by omega) r1 r0 (by rw [e6]; exact l) (rws h' P r 0) ⟨0, by omega, w, rfl⟩
        · obtain ⟨x, ⟨y, y0, y1, _⟩, _⟩ := this
          have y1 : y < 0 := y1
          omega
        · intro u hu hD
          have := (RLc_RU B hu).2
          omega
        · intro r r0 r1
          exact ⟨⟨by show (0 : Int) ≤ 0; omega, by show (0 : Int) ≤ 32; omega⟩, fun x x0 x1 => absurd (show x < 0 from x1) (by omega), fun x y x0 _ y1 => absurd (show y < 0 from y1) (by omega)⟩
        · intro r r0 r1 q l c
          constructor
          · rintro ⟨y, y0, y1, _⟩
            have y1 : y < rsz hS P r := y1
            rw [rS r q r1] at y1
            omega
          · rintro ⟨y, y0, y1, _⟩
            have y1 : y < 0 := y1
            omega
        · refine ⟨fun r c r0 r1 q l f => ?_, fun u hu hD => ?_⟩
          · have := (hft r c f).2
            omega
          · have := (RLc_RU B hu).2
            omega
      · rw [← e6] at l
        rw [(t3.2.2.2.2.1 r (by omega) r1 l).1]
        exact rS r r0 r1
    have hsame : ∀ r, 0 ≤ r → r < 6 → ¬ (r < gi hB 2 0 ∧ gi hB 7 r = L) → gi h' (P + 16) r = 0 ∧ ∀ x, 0 ≤ x → x < rsz h' P r → rst h' P r x = 0 := by
      intro r r0 r1 q
      have sm : rsz h' P r = rsz hS P r ∧ ∀ x, 0 ≤ x → x < rsz hS P r → rws h' P r x = rws hS P r x := by
        by_cases l : gi hB 7 r = L
        · have e0 : rsz hS P r = 0 := by rw [show rsz hS P r = rsz h P r from (eW r r0 r1).1]; exact i5 r (by omega) r1
          rw [no r (by omega) r1, e0]
          exact ⟨rfl, fun x x0 x1 => by omega⟩
        · rw [← e6] at l
          have := t3.2.2.2.2.1 r r0 r1 l
          exact ⟨this.1, fun x _ _ => this.2 x⟩
      obtain ⟨o1, o2⟩ := (t7.1 r r0 r1).2.2 sm
      obtain ⟨a1, a2⟩ := st r r0 r1
      refine ⟨by omega, fun x x0 x1 => ?_⟩
      rw [sm.1] at x1
      rw [o2 x x0 x1]
      have := a2 x x0 x1
      omega
    refine ⟨f3, r2, V2, fun r r0 r1 => ?_, fun r r0 r1 => ?_, fun r c r0 r1 f => ?_, fun r c r0 r1 l hc => ?_, by rw [e5', z], ?_⟩
    · have v : 0 ≤ rsz h2 P r ∧ rsz h2 P r ≤ 32 := (V2 r r0 r1).1
      obtain ⟨k1, k2⟩ := c2.2.2.2 r r0 r1
      by_cases q : r < gi hB 2 0 ∧ gi hB 7 r = L
      · obtain ⟨k3, k4⟩ := k1 q
        rw [k4]
        refine ⟨by omega, fun x x0 x1 => ?_⟩
        rw [k3 x x0 (by omega)]
        omega
      · obtain ⟨k3, k4⟩ := k2 q
        obtain ⟨k5, k6⟩ := hsame r r0 r1 q
        rw [k4, k5]
        refine ⟨by omega, fun x x0 x1 => ?_⟩
        rw [k3, k6 x x0 (by rw [← ez r r0 r1]; exact x1)]
        omega
    · have := K.1.1
      rw [ez r (by omega) r1]
      exact no r r0 r1
    · have := t7.2 r c r0 r1 (by rw [e4, e5]; exact covS r c r0 r1 f)
      rw [e4, e5] at this
      exact smW_cov eW2 ⟨r0, r1⟩ this
    · have l' : gi hS 7 r ≠ L := by rw [e6]; omega
      obtain ⟨a1, a2⟩ := t3.2.2.2.2.1 r r0 r1 l'
      refine i7 r c r0 r1 (by omega) ((inS r c r0 r1).mp ?_)
      obtain ⟨x, x0, x1, x2⟩ := (in2 r c r0 r1).mp hc
      have x1 : x < rsz h' P r := x1
      have x2 : rws h' P r x = c := x2
      exact ⟨x, x0, by show x < rsz hS P r; omega, by show rws hS P r x = c; rw [← a2]; exact x2⟩
    · have lowS : ∀ r, 0 ≤ r → r < 6 → gi hB 7 r < L → ∀ c, inW (cW hS P) r c ↔ inW (cW h2 P) r c := by
        intro r r0 r1 l c
        obtain ⟨a1, a2⟩ := t3.2.2.2.2.1 r r0 r1 (by rw [e6]; omega)
        have : smW (cW hS P) (cW h' P) → True := fun _ => trivial
        rw [in2 r c r0 r1]
        show (∃ x, 0 ≤ x ∧ x < rsz hS P r ∧ rws hS P r x = c) ↔ (∃ x, 0 ≤ x ∧ x < rsz h' P r ∧ rws h' P r x = c)
        rw [a1]
        constructor
        · rintro ⟨x, x0, x1, x2⟩; exact ⟨x, x0, x1, by rw [a2]; exact x2⟩
        · rintro ⟨x, x0, x1, x2⟩; exact ⟨x, x0, x1, by rw [← a2]; exact x2⟩
      have gL := gds_cg D (fun u hu => (RLc_RU B hu).1) V2 lowS gS
      refine ⟨V2, fun M M0 M1 => ?_⟩
      by_cases hM : M < L
      · exact gL.2 M M0 hM
      have eM : M = L := by omega
      subst eM
      have cl1 := lay_clod (hB := hS) (RL := RLc hB) (h := h') (L := M) (P := P) (fun u hu => by rw [← eR] at hu; exact hu) (fun r c r0 r1 _ f => t7.2 r c r0 r1 (by rw [e4, e5]; exact covS r c r0 r1 f)) y2
      have ls1 := lay_lst t3
      rw [e4, e5, e6] at cl1 ls1
      have V' : VW (cK hB) (gi hB 4) (cW h' P) := by
        have := t3.2.1
        rw [e4, e5] at this
        exact this
      refine ⟨⟨fun r c r0 r1 q l f => smW_cov eW2 ⟨r0, r1⟩ (cl1.1 r c r0 r1 q l f), fun u hu q l c m => ?_⟩, ?_⟩
      · have R := (RLc_RU B hu).1
        refine smW_cov eW2 R.2.1 (cl1.2 u hu q l c (mkd_cg (RU_GW D R V2) (RU_GW D R V') (fun k k0 k1 q c => ?_) m))
        obtain ⟨s1, s2⟩ := RU_low R k0 k1 q
        exact in2 _ c s1.1 s1.2
      · intro Dm ω' hd' V low cl' r r0 r1 q l c hc
        exact ls1 Dm ω' hd' V (fun r r0 r1 q l c => (in2 r c r0 r1).symm.trans (low r r0 r1 q l c)) cl' r r0 r1 q l c ((in2 r c r0 r1).mp hc)
  · right
    refine ⟨?_, r2, f3, L, cW hS P, L0.1, gS, fun ω' V low cl' => ?_⟩
    · rw [e5']
      exact (t3.2.2.2.2.2.resolve_left z).1
    · refine t8 z ω' ⟨fun _ _ _ _ _ _ _ => trivial, by rw [e4, e5]; exact V, fun r r0 r1 _ l c => low r r0 r1 (by rw [e6] at l; exact l) c, by rw [e4, e5, e6]; exact cl'⟩
end LAYS
