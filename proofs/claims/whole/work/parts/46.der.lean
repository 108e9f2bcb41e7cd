/-! THE DERIVATION LOOKS ON -/
def uR (h : dm_H) (A : Nat) : mU := (gi h A 1, gi h A 2, gi h (A + 1), cR h A, gi h A 4)
/-- the two have the same rows -/
def smW (ω ω' : mW) : Prop := ∀ r, 0 ≤ r → r < 6 → ω'.1 r = ω.1 r ∧ ∀ x, ω'.2 r x = ω.2 r x
theorem smW_in {ω ω' : mW} (e : smW ω ω') {r c : Int} (hr : 0 ≤ r ∧ r < 6) : inW ω' r c ↔ inW ω r c := by
  obtain ⟨e1, e2⟩ := e r hr.1 hr.2
  unfold inW
  rw [e1]
  constructor
  · rintro ⟨x, x0, x1, x2⟩; exact ⟨x, x0, x1, by rw [← e2]; exact x2⟩
  · rintro ⟨x, x0, x1, x2⟩; exact ⟨x, x0, x1, by rw [e2]; exact x2⟩
theorem smW_VW {cl kd : Int → Int} {ω ω' : mW} (e : smW ω ω') (h : VW cl kd ω) : VW cl kd ω' := by
  intro r r0 r1
  obtain ⟨e1, e2⟩ := e r r0 r1
  obtain ⟨a1, a2, a3⟩ := h r r0 r1
  rw [e1]
  exact ⟨a1, fun x x0 x1 => by rw [e2]; exact a2 x x0 x1, fun x y x0 xy y1 => by rw [e2, e2]; exact a3 x y x0 xy y1⟩
theorem sm_cg {f g : Int → Int} : ∀ {n : Nat}, (∀ i : Int, 0 ≤ i → i < n → f i = g i) → sm f n = sm g n
  | 0, _ => rfl
  | n + 1, h => by
    show sm f n + f n = sm g n + g n
    rw [sm_cg (fun i i0 i1 => h i i0 (by omega)), h n (by omega) (by omega)]
theorem smW_wgh {cl kd : Int → Int} {ω ω' : mW} (e : smW ω ω') : wgh cl kd ω' = wgh cl kd ω := by
  refine sm_cg (fun r r0 r1 => sm_cg (fun x x0 x1 => ?_))
  obtain ⟨e1, e2⟩ := e r r0 (by omega)
  unfold wtx
  rw [e1, e2]
theorem smW_cov {cl kd : Int → Int} {ω ω' : mW} (e : smW ω ω') {r c : Int} (hr : 0 ≤ r ∧ r < 6) (h : cov cl kd ω r c) : cov cl kd ω' r c := by
  obtain ⟨x, x1, x2⟩ := h
  exact ⟨x, (smW_in e hr).mpr x1, x2⟩
/-- what a joiner with the derivation touches -/
def frD (P : Nat) (h h' : dm_H) : Prop := (∀ a i, ¬ (P + 1 ≤ a ∧ a ≤ P + 16) → ¬ (a = P ∧ i = 5) → a ≠ 138 → a ≠ 139 → ¬ (a = 137 ∧ (i = 2 ∨ i = 3 ∨ i = 5)) → ¬ (a = 143 ∧ i = 8) → gi h' a i = gi h a i) ∧ (∀ a i, gr h' a i = gr h a i) ∧ h'.2.2 = h.2.2
theorem frD_refl (P : Nat) (h : dm_H) : frD P h h := ⟨fun _ _ _ _ _ _ _ _ => rfl, fun _ _ => rfl, rfl⟩
theorem frD_trans {P : Nat} {h h1 h2 : dm_H} (a : frD P h h1) (b : frD P h1 h2) : frD P h h2 := ⟨fun c i p1 p2 p3 p4 p5 p6 => by rw [b.1 c i p1 p2 p3 p4 p5 p6, a.1 c i p1 p2 p3 p4 p5 p6], fun c i => by rw [b.2.1, a.2.1], by rw [b.2.2, a.2.2]⟩
theorem frD_P {P : Nat} {h h' : dm_H} (a : frP P h h') : frD P h h' := ⟨fun c i p1 p2 _ _ _ _ => a.1 c i p1 p2, a.2.1, a.2.2⟩
theorem frD_q {P : Nat} {h h' : dm_H} (a : Jq P h h') : frD P h h' := ⟨fun c i _ _ p3 p4 p5 _ => a.1.1 c i p3 p4 p5, a.1.2, a.2⟩
theorem Jq_P {P : Nat} (hp : rw_ P) {h h' : dm_H} (a : Jq P h h') : (∀ c i, P ≤ c → c ≤ P + 16 → gi h' c i = gi h c i) := fun c i p q => a.1.1 c i (by unfold rw_ at hp; omega) (by unfold rw_ at hp; omega) (by unfold rw_ at hp; omega)
theorem Jq_W {P : Nat} (hp : rw_ P) {h h' : dm_H} (a : Jq P h h') : smW (cW h P) (cW h' P) := fun r r0 r1 => ⟨Jq_P hp a _ r (by omega) (by omega), fun x => Jq_P hp a _ x (by omega) (by omega)⟩
theorem Jq_t {P : Nat} (hp : rw_ P) {h h' : dm_H} (a : Jq P h h') {r : Int} (hr : 0 ≤ r ∧ r < 6) (x : Int) : rst h' P r x = rst h P r x := Jq_P hp a _ x (by omega) (by omega)
theorem Jq_l {P : Nat} (hp : rw_ P) {h h' : dm_H} (a : Jq P h h') (r : Int) : gi h' (P + 16) r = gi h (P + 16) r := Jq_P hp a _ r (by omega) (by omega)
theorem Jq_tr {P : Nat} {h h1 h2 : dm_H} (a : Jq P h h1) (b : Jq P h1 h2) : Jq P h h2 := ⟨eqx_trans a.1 b.1, (show h2.2.2 = h.2.2 from (show h2.2.2 = h1.2.2 from b.2).trans a.2)⟩
theorem Jq_d {P : Nat} {h : dm_H} {k : Int} : Jq P h (dpt h k) := ⟨eqx_j (Or.inr (Or.inl rfl)), rfl⟩
theorem Jq_v {P : Nat} {h : dm_H} {v : mA} : Jq P h (sv h 138 v) := ⟨eqx_sv, rfl⟩
theorem Jq_p {P : Nat} {h : dm_H} {k p : Int} : Jq P h (si h 139 k p) := ⟨eqx_pl, rfl⟩
theorem Jq_j {P : Nat} {h : dm_H} {k p : Int} (hk : k = 2 ∨ k = 3 ∨ k = 5) : Jq P h (si h 137 k p) := ⟨eqx_j hk, rfl⟩
section DER
variable (A P : Nat) (h0 : dm_H) (oc : Int → Int → Prop) (ft : Int → Int → Prop) (RL : mU → Prop) (s : Int)
/-- rows that could be those that follow, from layer L on -/
def cnd (Dm : Int → Prop) (ω' : mW) (L : Int) : Prop := dwn RL Dm ∧ VW (cK h0) (gi h0 4) ω' ∧ (∀ r, 0 ≤ r → r < 6 → Dm r → gi h0 7 r < L → ∀ c, inW (cW h0 P) r c ↔ inW ω' r c) ∧ clod (cK h0) (gi h0 4) (gi h0 7) ft RL Dm L ω'
/-- nothing stands there that need not -/
def snd_ (L : Int) (h : dm_H) : Prop := ∀ Dm ω', cnd P h0 ft RL Dm ω' L → ∀ r, 0 ≤ r → r < 6 → Dm r → gi h0 7 r = L → ∀ c, inW (cW h P) r c → cov (cK h0) (gi h0 4) ω' r c
/-- there cannot be such rows -/
def tmp (L : Int) : Prop := ∀ ω', ¬ cnd P h0 ft RL (fun _ => True) ω' L
/-- what holds all along -/
def inv (L : Int) (h : dm_H) : Prop := frD P h0 h ∧ VW (cK h0) (gi h0 4) (cW h P) ∧ stp_ P s h ∧ gro (cK h0) (gi h0 4) P s h0 h ∧ snd_ P h0 ft RL L h ∧ (∀ r, 0 ≤ r → r < 6 → gi h0 7 r ≠ L → rsz h P r = rsz h0 P r ∧ ∀ x, rws h P r x = rws h0 P r x) ∧ (gi h P 5 = 0 ∨ (gi h P 5 = 1 ∧ tmp P h0 ft RL L)) ∧ ((gi h 143 8 = gi h0 143 8 ∧ smW (cW h0 P) (cW h P)) ∨ (gi h 143 8 = 1 ∧ (s = 1 ∨ wgh (cK h0) (gi h0 4) (cW h0 P) < wgh (cK h0) (gi h0 4) (cW h P))))
variable {A P h0 oc ft RL s}
theorem inv_q (hp : rw_ P) {L : Int} {h h' : dm_H} (a : Jq P h h') (k : inv P h0 ft RL s L h) : inv P h0 ft RL s L h' := by
  obtain ⟨k1, k2, k3, k4, k5, k6, k7, k8⟩ := k
  have eW := Jq_W hp a
  have e8 : gi h' 143 8 = gi h 143 8 := a.1.1 143 8 (by omega) (by omega) (by omega)
  have e5 : gi h' P 5 = gi h P 5 := Jq_P hp a P 5 (by omega) (by omega)
  have ez : ∀ r, 0 ≤ r → r < 6 → rsz h' P r = rsz h P r := fun r r0 r1 => (eW r r0 r1).1
  have ew : ∀ r, 0 ≤ r → r < 6 → ∀ x, rws h' P r x = rws h P r x := fun r r0 r1 => (eW r r0 r1).2
  refine ⟨frD_trans k1 (frD_q a), smW_VW eW k2, fun r r0 r1 => ?_, fun r r0 r1 => ?_, fun Dm ω' c r r0 r1 q l x hx => k5 Dm ω' c r r0 r1 q l x ((smW_in eW ⟨r0, r1⟩).mp hx), fun r r0 r1 q => ?_, by rw [e5]; exact k7, ?_⟩
  · rw [Jq_l hp a, ez r r0 r1]
    obtain ⟨a1, a2⟩ := k3 r r0 r1
    exact ⟨a1, fun x x0 x1 => by rw [Jq_t hp a ⟨r0, r1⟩]; exact a2 x x0 x1⟩
  · rw [Jq_l hp a, ez r r0 r1]
    obtain ⟨a1, a2, a3, a4⟩ := k4 r r0 r1
    refine ⟨a1, fun x x0 x1 => ?_, fun x x0 x1 x2 => ?_, a4.1, a4.2.imp id (fun w z => w ⟨z.1, fun x x0 x1 => by rw [← ew r r0 r1]; exact z.2 x x0 x1⟩)⟩
    · rw [Jq_t hp a ⟨r0, r1⟩, ew r r0 r1]; exact a2 x x0 x1
    · rw [Jq_t hp a ⟨r0, r1⟩]; exact a3 x x0 x1 x2
  · rw [ez r r0 r1]
    exact ⟨(k6 r r0 r1 q).1, fun x => by rw [ew r r0 r1]; exact (k6 r r0 r1 q).2 x⟩
  · rw [e8]
    rcases k8 with ⟨z1, z2⟩ | ⟨z1, z2⟩
    · exact Or.inl ⟨z1, fun r r0 r1 => ⟨by rw [(eW r r0 r1).1]; exact (z2 r r0 r1).1, fun x => by rw [(eW r r0 r1).2]; exact (z2 r r0 r1).2 x⟩⟩
    · exact Or.inr ⟨z1, by rw [smW_wgh eW]; exact z2⟩
/-- 33 rows of 33 keys are too many -/
theorem pigeon : ∀ (n : Nat) (f : Int → Int), (∀ x : Int, 0 ≤ x → x ≤ n → 0 ≤ f x ∧ f x < n) → ∃ x y : Int, 0 ≤ x ∧ x < y ∧ y ≤ n ∧ f x = f y
  | 0, f, h => by have := h 0 (by omega) (by omega); omega
  | n + 1, f, h => by
    by_cases q : ∃ x : Int, 0 ≤ x ∧ x ≤ n ∧ f x = f ((n : Int) + 1)
    · obtain ⟨x, x0, x1, x2⟩ := q
      exact ⟨x, (n : Int) + 1, x0, by omega, by omega, x2⟩
    · have hl := h ((n : Int) + 1) (by omega) (by omega)
      obtain ⟨x, y, x0, xy, y1, e⟩ := pigeon n (fun x => if f x = n then f ((n : Int) + 1) else f x) (fun x x0 x1 => by
        have := h x x0 (by omega)
        have hne : f x ≠ f ((n : Int) + 1) := fun z => q ⟨x, x0, x1, z⟩
        show 0 ≤ (if f x = n then f ((n : Int) + 1) else f x) ∧ (if f x = n then f ((n : Int) + 1) else f x) < n
        split <;> omega)
      have e : (if f x = n then f ((n : Int) + 1) else f x) = (if f y = n then f ((n : Int) + 1) else f y) := e
      have hx : f x ≠ f ((n : Int) + 1) := fun z => q ⟨x, x0, by omega, z⟩
      have hy : f y ≠ f ((n : Int) + 1) := fun z => q ⟨y, by omega, y1, z⟩
      refine ⟨x, y, x0, xy, by omega, ?_⟩
      split at e <;> split at e <;> omega
theorem many {cl kd : Int → Int} {ω ω' : mW} {r c : Int} (hr : 0 ≤ r ∧ r < 6) (V : VW cl kd ω) (V' : VW cl kd ω') (hz : ω.1 r = 32) (hne : ∀ x, 0 ≤ x → x < 32 → ∃ i, 0 ≤ i ∧ i < kwd cl kd r ∧ cv i (ω.2 r x) ≠ cv i c) (hall : ∀ x, inW ω r x → cov cl kd ω' r x) (hc : cov cl kd ω' r c) : False := by
  have key : ∀ x, ∃ y, (0 ≤ x → x ≤ 32 → 0 ≤ y ∧ y < ω'.1 r ∧ ∀ i, 0 ≤ i → i < kwd cl kd r → cv i (ω'.2 r y) = cv i (if x = 32 then c else ω.2 r x)) := by
    intro x
    by_cases q : 0 ≤ x ∧ x ≤ 32
    · by_cases z : x = 32
      · obtain ⟨w, ⟨y, y0, y1, y2⟩, wc⟩ := hc
        refine ⟨y, fun _ _ => ⟨y0, y1, fun i i0 i1 => ?_⟩⟩
        rw [if_pos z, y2]
        exact wc.1 i i0 i1
      · obtain ⟨w, ⟨y, y0, y1, y2⟩, wc⟩ := hall (ω.2 r x) ⟨x, q.1, by omega, rfl⟩
        refine ⟨y, fun _ _ => ⟨y0, y1, fun i i0 i1 => ?_⟩⟩
        rw [if_neg z, y2]
        exact wc.1 i i0 i1
    · exact ⟨0, fun a b => absurd ⟨a, b⟩ q⟩
  obtain ⟨f, hf⟩ := Classical.axiomOfChoice key
  have v1 := (V' r hr.1 hr.2).1
  obtain ⟨x, y, x0, xy, y1, e⟩ := pigeon 32 f (fun x x0 x1 => by have := hf x x0 x1; exact ⟨this.1, by have := this.2.1; omega⟩)
  obtain ⟨_, _, a⟩ := hf x x0 (by omega)
  obtain ⟨_, _, b⟩ := hf y (by omega) y1
  rw [e] at a
  have e2 : ∀ i, 0 ≤ i → i < kwd cl kd r → cv i (if x = 32 then c else ω.2 r x) = cv i (if y = 32 then c else ω.2 r y) := fun i i0 i1 => by rw [← a i i0 i1, ← b i i0 i1]
  rw [if_neg (by omega)] at e2
  by_cases q : y = 32
  · rw [if_pos q] at e2
    obtain ⟨i, i0, i1, i2⟩ := hne x x0 (by omega)
    exact i2 (e2 i i0 i1)
  · rw [if_neg q] at e2
    obtain ⟨i, i0, i1, i2⟩ := (V r hr.1 hr.2).2.2 x y x0 xy (by omega)
    exact i2 (e2 i i0 i1)
/-- putting what has to be there -/
theorem inv_put (hp : rw_ P) {L : Int} {h h' : dm_H} {r c b : Int} (hr : 0 ≤ r ∧ r < 6) (hL : gi h0 7 r = L) (k : inv P h0 ft RL s L h) (t : pt (cK h0) (gi h0 4) P s r c b h h') (hc : ∀ Dm ω', cnd P h0 ft RL Dm ω' L → Dm r → cov (cK h0) (gi h0 4) ω' r c) :
    inv P h0 ft RL s L (if b = 0 then h' else si h' 143 8 1) ∧ gro (cK h0) (gi h0 4) P s h (if b = 0 then h' else si h' 143 8 1) ∧ (gi h' P 5 = 0 → gi h P 5 = 0 ∧ cov (cK h0) (gi h0 4) (cW h' P) r c) := by
  obtain ⟨k1, k2, k3, k4, k5, k6, k7, k8⟩ := k
  obtain ⟨t1, t2, t3, t4, t5, t6, t7, t8, t9⟩ := t
  have D : ∀ r', 0 ≤ r' → r' < 6 → gi h0 7 r' ≠ L → r' ≠ r := fun r' _ _ q z => q (by rw [z]; exact hL)
  have hsn : ∀ Dm ω', cnd P h0 ft RL Dm ω' L → ∀ r', 0 ≤ r' → r' < 6 → Dm r' → gi h0 7 r' = L → ∀ x, inW (cW h' P) r' x → cov (cK h0) (gi h0 4) ω' r' x := by
    intro Dm ω' cn r' r0 r1 q l x hx
    rcases t6 r' x r0 r1 hx with z | ⟨rfl, rfl⟩
    · exact k5 Dm ω' cn r' r0 r1 q l x z
    · exact hc Dm ω' cn q
  have h6 : ∀ r', 0 ≤ r' → r' < 6 → gi h0 7 r' ≠ L → rsz h' P r' = rsz h0 P r' ∧ ∀ x, rws h' P r' x = rws h0 P r' x := by
    intro r' r0 r1 q
    obtain ⟨a1, a2⟩ := t9 r' r0 r1 (D r' r0 r1 q)
    obtain ⟨b1, b2⟩ := k6 r' r0 r1 q
    exact ⟨by rw [a1, b1], fun x => by rw [a2, b2]⟩
  have fD := frD_trans k1 (frD_P t2)
  rcases t1 with rfl | rfl
  · simp only [if_true]
    have hflag : gi h' 143 8 = gi h 143 8 := t2.1 143 8 (by unfold rw_ at hp; omega) (by unfold rw_ at hp; omega)
    have hs : smW (cW h P) (cW h' P) ∧ (gi h' P 5 = gi h P 5 ∧ cov (cK h0) (gi h0 4) (cW h P) r c ∨ gi h' P 5 = 1 ∧ tmp P h0 ft RL L) := by
      rcases t7 rfl with ⟨rfl, z⟩ | ⟨rfl, z1, z2⟩
      · exact ⟨fun _ _ _ => ⟨rfl, fun _ => rfl⟩, Or.inl ⟨rfl, z⟩⟩
      · refine ⟨fun r' r0 r1 => ⟨?_, fun x => ?_⟩, Or.inr ⟨gi_sis, fun ω' cn => ?_⟩⟩
        · show rsz (si h P 5 1) P r' = rsz h P r'
          unfold rsz; rw [gi_sin (by omega)]
        · show rws (si h P 5 1) P r' x = rws h P r' x
          unfold rws; rw [gi_sin (by omega)]
        · exact many hr k2 cn.2.1 z1 z2 (fun x hx => k5 _ ω' cn r hr.1 hr.2 trivial hL x hx) (hc _ ω' cn trivial)
    refine ⟨⟨fD, t3, t4, gro_trans k4 t5, hsn, h6, ?_, ?_⟩, t5, fun q => ?_⟩
    · rcases hs.2 with ⟨z, _⟩ | ⟨z, z2⟩
      · rw [z]; exact k7
      · exact Or.inr ⟨z, z2⟩
    · rw [hflag]
      rcases k8 with ⟨z1, z2⟩ | ⟨z1, z2⟩
      · exact Or.inl ⟨z1, fun r' r0 r1 => ⟨by rw [(hs.1 r' r0 r1).1]; exact (z2 r' r0 r1).1, fun x => by rw [(hs.1 r' r0 r1).2]; exact (z2 r' r0 r1).2 x⟩⟩
      · exact Or.inr ⟨z1, by rw [smW_wgh hs.1]; exact z2⟩
    · rcases hs.2 with ⟨z, z3⟩ | ⟨z, z2⟩
      · exact ⟨by rw [← z]; exact q, smW_cov hs.1 hr z3⟩
      · omega
  · rw [if_neg (by omega)]
    obtain ⟨y1, y2, y3⟩ := t8 rfl
    have hP : P = 95 ∨ P = 112 := hp
    have ez : ∀ r', 0 ≤ r' → r' < 6 → rsz (si h' 143 8 1) P r' = rsz h' P r' := fun r' _ _ => by unfold rsz; rw [gi_sin (by omega)]
    have ew : ∀ r', 0 ≤ r' → r' < 6 → ∀ x, rws (si h' 143 8 1) P r' x = rws h' P r' x := fun r' _ _ x => by unfold rws; rw [gi_sin (by omega)]
    have et : ∀ r', 0 ≤ r' → r' < 6 → ∀ x, rst (si h' 143 8 1) P r' x = rst h' P r' x := fun r' _ _ x => by unfold rst; rw [gi_sin (by omega)]
    have el : ∀ r', gi (si h' 143 8 1) (P + 16) r' = gi h' (P + 16) r' := fun r' => gi_sin (by omega)
    have eW : smW (cW h' P) (cW (si h' 143 8 1) P) := fun r' r0 r1 => ⟨ez r' r0 r1, ew r' r0 r1⟩
    have gg : gro (cK h0) (gi h0 4) P s h (si h' 143 8 1) := by
      intro r' r0 r1
      rw [ez r' r0 r1, el]
      obtain ⟨a1, a2, a3, a4⟩ := t5 r' r0 r1
      refine ⟨a1, fun x x0 x1 => ?_, fun x x0 x1 x2 => ?_, a4.1, a4.2.imp id (fun w z => w ⟨z.1, fun x x0 x1 => by rw [← ew r' r0 r1]; exact z.2 x x0 x1⟩)⟩
      · rw [et r' r0 r1, ew r' r0 r1]; exact a2 x x0 x1
      · rw [et r' r0 r1]; exact a3 x x0 x1 x2
    refine ⟨⟨frD_trans fD ⟨fun a i p1 p2 p3 p4 p5 p6 => by rw [gi_si, if_neg p6], fun _ _ => rfl, rfl⟩, smW_VW eW t3, fun r' r0 r1 => ?_, gro_trans k4 gg, fun Dm ω' cn r' r0 r1 q l x hx => hsn Dm ω' cn r' r0 r1 q l x ((smW_in eW ⟨r0, r1⟩).mp hx), fun r' r0 r1 q => ?_, ?_, Or.inr ⟨gi_sis, ?_⟩⟩, gg, fun q => ⟨by rw [← y2]; exact q, y1⟩⟩
    · rw [el, ez r' r0 r1]
      obtain ⟨a1, a2⟩ := t4 r' r0 r1
      exact ⟨a1, fun x x0 x1 => by rw [et r' r0 r1]; exact a2 x x0 x1⟩
    · rw [ez r' r0 r1]
      exact ⟨(h6 r' r0 r1 q).1, fun x => by rw [ew r' r0 r1]; exact (h6 r' r0 r1 q).2 x⟩
    · rw [gi_sin (by omega), y2]; exact k7
    · rw [smW_wgh eW]
      rcases k8 with ⟨_, z2⟩ | ⟨_, z2 | z2⟩
      · right; rw [← smW_wgh z2]; exact y3
      · exact Or.inl z2
      · right; omega
/-- in the first round the flag may be set for nothing -/
theorem inv_flag (hp : rw_ P) {L : Int} {h : dm_H} (s1 : s = 1) (k : inv P h0 ft RL s L h) : inv P h0 ft RL s L (si h 143 8 1) ∧ gro (cK h0) (gi h0 4) P s h (si h 143 8 1) := by
  obtain ⟨k1, k2, k3, k4, k5, k6, k7, k8⟩ := k
  have hP : P = 95 ∨ P = 112 := hp
  have ez : ∀ r', 0 ≤ r' → r' < 6 → rsz (si h 143 8 1) P r' = rsz h P r' := fun r' _ _ => by unfold rsz; rw [gi_sin (by omega)]
  have ew : ∀ r', 0 ≤ r' → r' < 6 → ∀ x, rws (si h 143 8 1) P r' x = rws h P r' x := fun r' _ _ x => by unfold rws; rw [gi_sin (by omega)]
  have et : ∀ r', 0 ≤ r' → r' < 6 → ∀ x, rst (si h 143 8 1) P r' x = rst h P r' x := fun r' _ _ x => by unfold rst; rw [gi_sin (by omega)]
  have el : ∀ r', gi (si h 143 8 1) (P + 16) r' = gi h (P + 16) r' := fun r' => gi_sin (by omega)
  have eW : smW (cW h P) (cW (si h 143 8 1) P) := fun r' r0 r1 => ⟨ez r' r0 r1, ew r' r0 r1⟩
  have gg : gro (cK h0) (gi h0 4) P s h (si h 143 8 1) := by
    intro r' r0 r1
    rw [ez r' r0 r1, el]
    exact ⟨Int.le_refl _, fun x x0 x1 => Or.inl ⟨ew r' r0 r1 x, et r' r0 r1 x⟩, fun x x0 x1 x2 => by omega, Int.le_refl _, Or.inl rfl⟩
  refine ⟨⟨frD_trans k1 ⟨fun a i p1 p2 p3 p4 p5 p6 => by rw [gi_si, if_neg p6], fun _ _ => rfl, rfl⟩, smW_VW eW k2, fun r' r0 r1 => ?_, gro_trans k4 gg, fun Dm ω' cn r' r0 r1 q l x hx => k5 Dm ω' cn r' r0 r1 q l x ((smW_in eW ⟨r0, r1⟩).mp hx), fun r' r0 r1 q => ?_, ?_, Or.inr ⟨gi_sis, Or.inl s1⟩⟩, gg⟩
  · rw [el, ez r' r0 r1]
    obtain ⟨a1, a2⟩ := k3 r' r0 r1
    exact ⟨a1, fun x x0 x1 => by rw [et r' r0 r1]; exact a2 x x0 x1⟩
  · rw [ez r' r0 r1]
    exact ⟨(k6 r' r0 r1 q).1, fun x => by rw [ew r' r0 r1]; exact (k6 r' r0 r1 q).2 x⟩
  · rw [gi_sin (by omega)]; exact k7
end DER
