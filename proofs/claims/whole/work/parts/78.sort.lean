/-! ROWS ARE SORTED, and counted against each other -/
def srd (f g : Int → Int) (k : Int) : Prop := (∀ x y, 0 ≤ x → x < y → y < k → g x < g y) ∧ ∀ c, (∃ x, 0 ≤ x ∧ x < k ∧ g x = c) ↔ ∃ x, 0 ≤ x ∧ x < k ∧ f x = c
theorem srd_ins {f g g' : Int → Int} {k p : Int} (s : srd f g k) (hp : 0 ≤ p ∧ p ≤ k) (h1 : ∀ x, 0 ≤ x → x < p → g' x = g x) (h2 : g' p = f k) (h3 : ∀ x, p < x → x ≤ k → g' x = g (x - 1)) (l1 : ∀ x, 0 ≤ x → x < p → g x < f k) (l2 : ∀ x, p ≤ x → x < k → f k < g x) : srd f g' (k + 1) := by
  refine ⟨fun x y x0 xy y1 => ?_, fun c => ⟨?_, ?_⟩⟩
  · by_cases a : x < p
    · rw [h1 x x0 a]
      by_cases b : y < p
      · rw [h1 y (by omega) b]; exact s.1 x y x0 xy (by omega)
      · by_cases b' : y = p
        · rw [b', h2]; exact l1 x x0 a
        · rw [h3 y (by omega) (by omega)]; exact s.1 x (y - 1) x0 (by omega) (by omega)
    · by_cases a' : x = p
      · rw [a', h2, h3 y (by omega) (by omega)]; exact l2 (y - 1) (by omega) (by omega)
      · rw [h3 x (by omega) (by omega), h3 y (by omega) (by omega)]; exact s.1 (x - 1) (y - 1) (by omega) (by omega) (by omega)
  · rintro ⟨x, x0, x1, rfl⟩
    by_cases a : x < p
    · rw [h1 x x0 a]
      obtain ⟨y, y0, y1, y2⟩ := (s.2 (g x)).mp ⟨x, x0, by omega, rfl⟩
      exact ⟨y, y0, by omega, y2⟩
    · by_cases a' : x = p
      · exact ⟨k, by omega, by omega, by rw [a', h2]⟩
      · rw [h3 x (by omega) (by omega)]
        obtain ⟨y, y0, y1, y2⟩ := (s.2 (g (x - 1))).mp ⟨x - 1, by omega, by omega, rfl⟩
        exact ⟨y, y0, by omega, y2⟩
  · rintro ⟨x, x0, x1, rfl⟩
    by_cases a : x = k
    · exact ⟨p, hp.1, by omega, by rw [a, h2]⟩
    · obtain ⟨y, y0, y1, y2⟩ := (s.2 (f x)).mpr ⟨x, x0, by omega, rfl⟩
      by_cases b : y < p
      · exact ⟨y, y0, by omega, by rw [h1 y y0 b]; exact y2⟩
      · exact ⟨y + 1, by omega, by omega, by rw [h3 (y + 1) (by omega) (by omega), show y + 1 - 1 = y by omega]; exact y2⟩
section SORT
variable {P : Nat} {h : dm_H}
/-- one relation is sorted -/
theorem sort_1 {d : Nat} (hp : rw_ P) {r n : Int} (hr : 0 ≤ r ∧ r < 6) (hn : 0 ≤ n ∧ n ≤ 32) (hz : gi h (P + 1) r = n) (hd : ∀ x y, 0 ≤ x → x < y → y < n → rws h P r x ≠ rws h P r y) :
    ∀ (m : Nat) (k : Int) (H : dm_H) (w4 w5 : Option dm_V), 1 ≤ k → (k ≤ n ∨ k = 1) → n ≤ k + m → (∀ a i, a ≠ P + 3 + r.toNat → gi H a i = gi h a i) → (∀ a i, gr H a i = gr h a i) → H.2.2 = h.2.2 → srd (rws h P r) (rws H P r) (if k ≤ n then k else n) → (∀ x, k ≤ x → rws H P r x = rws h P r x) →
      ∃ H' w3' w4' w5', dL d 84 22 [lR 1 7 P, lI r, lR 2 32 (P + 3 + r.toNat), lI k, w4, w5] [] H = dL d 84 2 [lR 1 7 P, lI (r + 1), lR 2 32 (P + 3 + r.toNat), w3', w4', w5'] [] H' ∧ (∀ a i, a ≠ P + 3 + r.toNat → gi H' a i = gi h a i) ∧ (∀ a i, gr H' a i = gr h a i) ∧ H'.2.2 = h.2.2 ∧ srd (rws h P r) (rws H' P r) n := by
  have hP : P = 95 ∨ P = 112 := hp
  intro m
  induction m with
  | zero =>
    intro k H w4 w5 k1 kn kn2 e1 e2 e3 S C
    have ek : (if k ≤ n then k else n) = n := by split <;> omega
    rw [ek] at S
    rw [b84_22, ix_p hr.1 hr.2, e1 (P + 1) r (by omega), hz, if_neg (by omega), ck_p (by omega) (by omega)]
    exact ⟨H, _, _, _, rfl, e1, e2, e3, S⟩
  | succ m ih =>
    intro k H w4 w5 k1 kn kn2 e1 e2 e3 S C
    rw [b84_22, ix_p hr.1 hr.2, e1 (P + 1) r (by omega), hz]
    by_cases q : k < n
    case neg =>
      have ek : (if k ≤ n then k else n) = n := by split <;> omega
      rw [ek] at S
      rw [if_neg q, ck_p (by omega) (by omega)]
      exact ⟨H, _, _, _, rfl, e1, e2, e3, S⟩
    rw [if_pos (show k ≤ n by omega)] at S
    have hcode : gi H (P + 3 + r.toNat) k = rws h P r k := C k (Int.le_refl _)
    rw [if_pos q, ix_p (by omega) (by omega), hcode]
    -- the place is found
    have shift : ∀ (m' : Nat) (y : Int), (y : Int) = m' → y ≤ k → (∀ x, y ≤ x → x < k → rws h P r k < rws H P r x) →
        ∃ p, (0 ≤ p ∧ p ≤ k) ∧ dL d 84 40 [lR 1 7 P, lI r, lR 2 32 (P + 3 + r.toNat), lI k, lI (rws h P r k), lI y] [] (mov H (P + 3 + r.toNat) y k) = dL d 84 72 [lR 1 7 P, lI r, lR 2 32 (P + 3 + r.toNat), lI k, lI (rws h P r k), lI p] [] (mov H (P + 3 + r.toNat) p k) ∧ (∀ x, p ≤ x → x < k → rws h P r k < rws H P r x) ∧ ∀ x, 0 ≤ x → x < p → rws H P r x < rws h P r k := by
      intro m'
      induction m' with
      | zero =>
        intro y ym yk l2
        rw [b84_40, if_neg (by omega)]
        exact ⟨y, ⟨by omega, yk⟩, rfl, l2, fun x x0 x1 => by omega⟩
      | succ m' ih' =>
        intro y ym yk l2
        have g1 : gi (mov H (P + 3 + r.toNat) y k) (P + 3 + r.toNat) (y - 1) = rws H P r (y - 1) := by
          rw [gi_mov, if_neg (by omega)]
          rfl
        rw [b84_40, if_pos (by omega), ck_p (by omega) (by omega), ix_p (by omega) (by omega), g1]
        by_cases z : rws h P r k < rws H P r (y - 1)
        · rw [if_pos z, ck_p (by omega) (by omega), ix_p (by omega) (by omega), ix_p (by omega) (by omega), ck_p (by omega) (by omega), mov_step (by omega), show y + -1 = y - 1 by omega]
          exact ih' (y - 1) (by omega) (by omega) (fun x x0 x1 => by
            by_cases w : x = y - 1
            · rw [w]; exact z
            · exact l2 x (by omega) x1)
        · rw [if_neg z]
          refine ⟨y, ⟨by omega, yk⟩, rfl, l2, fun x x0 x1 => ?_⟩
          have ne : rws H P r (y - 1) ≠ rws h P r k := by
            obtain ⟨w, w0, w1, w2⟩ := (S.2 (rws H P r (y - 1))).mp ⟨y - 1, by omega, by omega, rfl⟩
            rw [← w2]
            exact hd w k w0 w1 q
          by_cases w : x = y - 1
          · rw [w]; omega
          · have := S.1 x (y - 1) x0 (by omega) (by omega)
            omega
    obtain ⟨p, hp', s1, s2, s3⟩ := shift k.toNat k (by omega) (Int.le_refl _) (fun x x0 x1 => by omega)
    rw [mov_e] at s1
    have g' : ∀ x, rws (si (mov H (P + 3 + r.toNat) p k) (P + 3 + r.toNat) p (rws h P r k)) P r x = if x = p then rws h P r k else if p < x ∧ x ≤ k then rws H P r (x - 1) else rws H P r x := by
      intro x
      unfold rws
      rw [gi_si]
      by_cases w : x = p
      · rw [if_pos ⟨rfl, w⟩, if_pos w]
      · rw [if_neg (fun z => w z.2), if_neg w, gi_mov]
        by_cases w' : p < x ∧ x ≤ k
        · rw [if_pos w', if_pos ⟨rfl, w'⟩]
        · rw [if_neg w', if_neg (fun z => w' z.2)]
    rw [s1, b84_72, ix_p (by omega) (by omega), ck_p (by omega) (by omega)]
    refine ih (k + 1) _ _ _ (by omega) (Or.inl (by omega)) (by omega) (fun a i ha => by rw [gi_sin ha, gi_mov, if_neg (fun z => ha z.1)]; exact e1 a i ha) (fun a i => e2 a i) e3 ?_ (fun x x0 => ?_)
    · rw [if_pos (show k + 1 ≤ n by omega)]
      refine srd_ins S hp' (fun x x0 x1 => ?_) ?_ (fun x x0 x1 => ?_) s3 s2
      · rw [g', if_neg (by omega), if_neg (by omega)]
      · rw [g', if_pos rfl]
      · rw [g', if_neg (by omega), if_pos ⟨x0, x1⟩]
    · rw [g', if_neg (by omega), if_neg (by omega)]
      exact C x (by omega)
/-- what sorting does -/
def srtd (P : Nat) (h h' : dm_H) : Prop := (∀ a i, ¬ (P + 3 ≤ a ∧ a ≤ P + 8) → gi h' a i = gi h a i) ∧ (∀ a i, gr h' a i = gr h a i) ∧ h'.2.2 = h.2.2 ∧ (∀ r, 0 ≤ r → r < 6 → rsz h' P r = rsz h P r) ∧ SRT (cW h' P) ∧ ∀ r, 0 ≤ r → r < 6 → ∀ c, inW (cW h' P) r c ↔ inW (cW h P) r c
theorem s84 {d : Nat} (hd : 1 ≤ d) (hp : rw_ P) {cl kd : Int → Int} (V : VW cl kd (cW h P)) (hn : 0 ≤ gi h 2 0 ∧ gi h 2 0 ≤ 6) (h0 : ∀ r, gi h 2 0 ≤ r → r < 6 → rsz h P r = 0) : ∃ h', dF d 84 [dR 1 7 P] h = rV h' ∧ srtd P h h' := by
  have hP : P = 95 ∨ P = 112 := hp
  have vz : ∀ r, 0 ≤ r → r < 6 → 0 ≤ rsz h P r ∧ rsz h P r ≤ 32 := fun r r0 r1 => (V r r0 r1).1
  have vd : ∀ r, 0 ≤ r → r < 6 → ∀ x y, 0 ≤ x → x < y → y < rsz h P r → rws h P r x ≠ rws h P r y := by
    intro r r0 r1 x y x0 xy y1 e
    obtain ⟨i, i0, i1, i2⟩ := (V r r0 r1).2.2 x y x0 xy y1
    have e : (cW h P).2 r x = (cW h P).2 r y := e
    exact i2 (by rw [e])
  have loop : ∀ (m : Nat) (r : Int) (H : dm_H) (w2 w3 w4 w5 : Option dm_V), 0 ≤ r → r + m = gi h 2 0 → (∀ a i, ¬ (P + 3 ≤ a ∧ a ≤ P + 8) → gi H a i = gi h a i) → (∀ a i, gr H a i = gr h a i) → H.2.2 = h.2.2 → (∀ q, 0 ≤ q → q < r → srd (rws h P q) (rws H P q) (rsz h P q)) → (∀ q, r ≤ q → q < 6 → ∀ x, rws H P q x = rws h P q x) →
      ∃ h', dL (d - 1) 84 2 [lR 1 7 P, lI r, w2, w3, w4, w5] [] H = rV h' ∧ (∀ a i, ¬ (P + 3 ≤ a ∧ a ≤ P + 8) → gi h' a i = gi h a i) ∧ (∀ a i, gr h' a i = gr h a i) ∧ h'.2.2 = h.2.2 ∧ ∀ q, 0 ≤ q → q < gi h 2 0 → srd (rws h P q) (rws h' P q) (rsz h P q) := by
    intro m
    induction m with
    | zero =>
      intro r H w2 w3 w4 w5 r0 rm e1 e2 e3 S C
      rw [b84_2, e1 2 0 (by omega), if_neg (by omega)]
      exact ⟨H, rfl, e1, e2, e3, fun q q0 q1 => S q q0 (by omega)⟩
    | succ m ih =>
      intro r H w2 w3 w4 w5 r0 rm e1 e2 e3 S C
      have r6 : 0 ≤ r ∧ r < 6 := by omega
      have eH : ∀ x, rws H P r x = rws h P r x := C r (Int.le_refl _) r6.2
      rw [b84_2, e1 2 0 (by omega), if_pos (by omega), ix_p r6.1 r6.2, show P + 2 + 1 + Int.toNat r = P + 3 + r.toNat by omega]
      obtain ⟨H', w3', w4', w5', t1, t2, t3, t4, t5⟩ := sort_1 (d := d - 1) (h := H) hp r6 (n := rsz h P r) (vz r r6.1 r6.2) (e1 (P + 1) r (by omega)) (fun x y x0 xy y1 => by rw [eH, eH]; exact vd r r6.1 r6.2 x y x0 xy y1) 32 1 H w4 w5 (by omega) (Or.inr rfl) (by have := vz r r6.1 r6.2; omega) (fun _ _ _ => rfl) (fun _ _ => rfl) rfl (by
        have := vz r r6.1 r6.2
        refine ⟨fun x y x0 xy y1 => ?_, fun c => Iff.rfl⟩
        split at y1 <;> omega) (fun _ _ => rfl)
      rw [t1]
      refine ih (r + 1) H' _ _ _ _ (by omega) (by omega) (fun a i ha => by rw [t2 a i (by omega)]; exact e1 a i ha) (fun a i => by rw [t3]; exact e2 a i) (by rw [t4]; exact e3) (fun q q0 q1 => ?_) (fun q q0 q1 x => ?_)
      · by_cases z : q = r
        · rw [z]
          have : rws H P r = rws h P r := funext eH
          rw [← this]
          exact t5
        · have : rws H' P q = rws H P q := by
            funext x
            exact t2 _ _ (by omega)
          rw [this]
          exact S q q0 (by omega)
      · have : rws H' P q x = rws H P q x := t2 _ _ (by omega)
        rw [this]
        exact C q (by omega) q1 x
  rw [f84 (by omega), b84_0]
  obtain ⟨h', t1, t2, t3, t4, t5⟩ := loop (gi h 2 0).toNat 0 h none none none none (by omega) (by omega) (fun _ _ _ => rfl) (fun _ _ => rfl) rfl (fun q q0 q1 => by omega) (fun _ _ _ _ => rfl)
  have ez : ∀ r, 0 ≤ r → r < 6 → rsz h' P r = rsz h P r := fun r r0 r1 => t2 _ _ (by omega)
  refine ⟨h', t1, t2, t3, t4, ez, fun r r0 r1 x y x0 xy y1 => ?_, fun r r0 r1 c => ?_⟩
  · have y1 : y < rsz h' P r := y1
    rw [ez r r0 r1] at y1
    by_cases q : r < gi h 2 0
    · exact (t5 r r0 q).1 x y x0 xy y1
    · rw [h0 r (by omega) r1] at y1; omega
  · show (∃ x, 0 ≤ x ∧ x < rsz h' P r ∧ rws h' P r x = c) ↔ (∃ x, 0 ≤ x ∧ x < rsz h P r ∧ rws h P r x = c)
    rw [ez r r0 r1]
    by_cases q : r < gi h 2 0
    · exact (t5 r r0 q).2 c
    · rw [h0 r (by omega) r1]
      constructor
      · rintro ⟨x, x0, x1, _⟩; omega
      · rintro ⟨x, x0, x1, _⟩; omega
end SORT
/-- how many rows of the one the other has not -/
noncomputable def inb (ω : mW) (r c : Int) : Int := @ite _ (inW ω r c) (Classical.propDecidable _) 0 1
noncomputable def ms (ω ω' : mW) : Int := sm (fun r => sm (fun x => inb ω' r (ω.2 r x)) (ω.1 r).toNat) 6
theorem inb_r (ω : mW) (r c : Int) : 0 ≤ inb ω r c ∧ inb ω r c ≤ 1 := by unfold inb; split <;> omega
theorem ms_eq {ω ω1 ω' ω1' : mW} (e : eqW ω ω1) (e' : ∀ r, 0 ≤ r → r < 6 → ∀ c, inW ω' r c ↔ inW ω1' r c) (hz : ∀ r, 0 ≤ r → r < 6 → 0 ≤ ω.1 r) : ms ω1 ω1' = ms ω ω' := by
  unfold ms
  refine sm_cg (fun r r0 r1 => ?_)
  obtain ⟨a1, a2⟩ := e r r0 (by omega)
  rw [a1]
  refine sm_cg (fun x x0 x1 => ?_)
  rw [a2 x x0 (by have := hz r r0 (by omega); omega)]
  unfold inb
  by_cases q : inW ω' r (ω.2 r x)
  · rw [if_pos q, if_pos ((e' r r0 (by omega) _).mp q)]
  · rw [if_neg q, if_neg (fun z => q ((e' r r0 (by omega) _).mpr z))]
theorem sm_z {f : Int → Int} : ∀ {n m : Nat}, n ≤ m → (∀ i : Int, n ≤ i → i < m → f i = 0) → sm f m = sm f n
  | n, 0, h, _ => by rw [show n = 0 by omega]
  | n, m + 1, h, hz => by
    by_cases q : n = m + 1
    · rw [q]
    · show sm f m + f m = sm f n
      rw [sm_z (n := n) (m := m) (by omega) (fun i i0 i1 => hz i i0 (by omega)), hz m (by omega) (by omega)]
      omega
theorem sm_i {f : Int → Int} {k : Int} (h : 0 ≤ k) : sm f (k + 1).toNat = sm f k.toNat + f k := by
  rw [show (k + 1).toNat = k.toNat + 1 by omega]
  show sm f k.toNat + f (k.toNat : Int) = _
  rw [show (k.toNat : Int) = k by omega]
theorem ms_part {ω ω' : mW} (hz : ∀ r, 0 ≤ r → r < 6 → 0 ≤ ω.1 r ∧ ω.1 r ≤ 32) {r k : Int} (hr : 0 ≤ r ∧ r ≤ 6) (hk : 0 ≤ k ∧ k ≤ 32) : 0 ≤ sm (fun r => sm (fun x => inb ω' r (ω.2 r x)) (ω.1 r).toNat) r.toNat + sm (fun x => inb ω' r (ω.2 r x)) k.toNat ∧ sm (fun r => sm (fun x => inb ω' r (ω.2 r x)) (ω.1 r).toNat) r.toNat + sm (fun x => inb ω' r (ω.2 r x)) k.toNat ≤ 224 := by
  have h1 : ∀ q k : Int, 0 ≤ sm (fun x => inb ω' q (ω.2 q x)) k.toNat ∧ (k ≤ 32 → sm (fun x => inb ω' q (ω.2 q x)) k.toNat ≤ 32) := by
    intro q k
    refine ⟨sm_nn (fun i _ _ => (inb_r _ _ _).1), fun hk => ?_⟩
    have := sm_ub (f := fun x => inb ω' q (ω.2 q x)) (b := 1) (n := k.toNat) (fun i _ _ => (inb_r _ _ _).2)
    omega
  have h2 : 0 ≤ sm (fun r => sm (fun x => inb ω' r (ω.2 r x)) (ω.1 r).toNat) r.toNat := sm_nn (fun i _ _ => (h1 i _).1)
  have h3 := sm_ub (f := fun r => sm (fun x => inb ω' r (ω.2 r x)) (ω.1 r).toNat) (b := 32) (n := r.toNat) (fun i i0 i1 => (h1 i _).2 (hz i i0 (by omega)).2)
  have h4 := h1 r k
  omega
theorem s85 {d : Nat} (hd : 2 ≤ d) {h : dm_H} {P Q : Nat} (hn : 0 ≤ gi h 2 0 ∧ gi h 2 0 ≤ 6) (hz : ∀ r, 0 ≤ r → r < 6 → 0 ≤ rsz h P r ∧ rsz h P r ≤ 32) (hz' : ∀ r, 0 ≤ r → r < 6 → 0 ≤ rsz h Q r ∧ rsz h Q r ≤ 32) (h0 : ∀ r, gi h 2 0 ≤ r → r < 6 → rsz h P r = 0) : dF d 85 [dR 1 7 P, dR 1 7 Q] h = rI (ms (cW h P) (cW h Q)) h := by
  have hpl : ∀ r c, 0 ≤ r → r < 6 → (if plc h Q r c = -1 then (1 : Int) else 0) = inb (cW h Q) r c := by
    intro r c r0 r1
    unfold inb plc
    have z := hz' r r0 r1
    rcases fz_spec (fun x => rws h Q r x = c) (rsz h Q r).toNat 0 with ⟨a, b⟩ | ⟨a, b, e, _⟩
    · rw [if_pos a, if_neg]
      rintro ⟨x, x0, x1, x2⟩
      have x1 : x < rsz h Q r := x1
      exact b x x0 (by omega) x2
    · rw [if_neg (by omega), if_pos]
      exact ⟨_, a, show _ < rsz h Q r by omega, e⟩
  have inner : ∀ (r : Int), 0 ≤ r → r < gi h 2 0 → ∀ (m : Nat) (k cnt : Int), 0 ≤ k → k + m = rsz h P r → cnt = sm (fun r => sm (fun x => inb (cW h Q) r ((cW h P).2 r x)) ((cW h P).1 r).toNat) r.toNat + sm (fun x => inb (cW h Q) r ((cW h P).2 r x)) k.toNat →
      dL (d - 1) 85 18 [lR 1 7 P, lR 1 7 Q, lI cnt, lI r, lI k] [] h = dL (d - 1) 85 4 [lR 1 7 P, lR 1 7 Q, lI (sm (fun r => sm (fun x => inb (cW h Q) r ((cW h P).2 r x)) ((cW h P).1 r).toNat) (r + 1).toNat), lI (r + 1), lI (rsz h P r)] [] h := by
    intro r r0 r1 m
    have zr := hz r r0 (by omega)
    induction m with
    | zero =>
      intro k cnt k0 km e
      have ek : k = rsz h P r := by omega
      have u1 : gi h (P + 1) r = rsz h P r := rfl
      rw [b85_18, ix_p r0 (by omega), u1, if_neg (by omega), ck_p (by omega) (by omega), sm_i r0, e, ek]
      rfl
    | succ m ih =>
      intro k cnt k0 km e
      have u1 : gi h (P + 1) r = rsz h P r := rfl
      have pr := ms_part (ω := cW h P) (ω' := cW h Q) hz (r := r) (k := k) (by omega) (by omega)
      rw [b85_18, ix_p r0 (by omega), u1, if_pos (by omega), ix_p r0 (by omega), ix_p k0 (by omega), rw_e, s28 (by omega) ⟨r0, by omega⟩ (hz' r r0 (by omega)), bk_v, b85_43]
      have hp1 := hpl r (gi h (P + 3 + r.toNat) k) r0 (by omega)
      have hk1 : sm (fun x => inb (cW h Q) r ((cW h P).2 r x)) (k + 1).toNat = sm (fun x => inb (cW h Q) r ((cW h P).2 r x)) k.toNat + inb (cW h Q) r (gi h (P + 3 + r.toNat) k) := sm_i k0
      by_cases z : plc h Q r (gi h (P + 3 + r.toNat) k) = -1
      · rw [if_pos z] at hp1
        rw [if_pos z, ck_p (by omega) (by omega), b85_50, ck_p (by omega) (by omega)]
        exact ih (k + 1) (cnt + 1) (by omega) (by omega) (by rw [hk1]; omega)
      · rw [if_neg z] at hp1
        rw [if_neg z, b85_50, ck_p (by omega) (by omega)]
        exact ih (k + 1) cnt (by omega) (by omega) (by rw [hk1]; omega)
  have outer : ∀ (m : Nat) (r : Int) (w4 : Option dm_V), 0 ≤ r → r + m = gi h 2 0 → dL (d - 1) 85 4 [lR 1 7 P, lR 1 7 Q, lI (sm (fun r => sm (fun x => inb (cW h Q) r ((cW h P).2 r x)) ((cW h P).1 r).toNat) r.toNat), lI r, w4] [] h = rI (ms (cW h P) (cW h Q)) h := by
    intro m
    induction m with
    | zero =>
      intro r w4 r0 rm
      rw [b85_4, if_neg (by omega)]
      refine congrArg (fun x => rI x h) ?_
      unfold ms
      refine (sm_z (by omega) (fun i i0 i1 => ?_)).symm
      have : rsz h P i = 0 := h0 i (by omega) (by omega)
      show sm _ (rsz h P i).toNat = 0
      rw [this]
      rfl
    | succ m ih =>
      intro r w4 r0 rm
      have zr := hz r r0 (by omega)
      rw [b85_4, if_pos (by omega), inner r r0 (by omega) (rsz h P r).toNat 0 _ (by omega) (by omega) (by show _ = _ + 0; omega)]
      exact ih (r + 1) _ (by omega) (by omega)
  rw [f85 (by omega), b85_0]
  exact outer (gi h 2 0).toNat 0 none (by omega) (by omega)
/-- the reference counts -/
theorem s257 {d : Nat} (hd : 1 ≤ d) {h : dm_H} {a1 a2 a3 a4 : Nat} {ω ω' : mW} (e1 : ∀ r, 0 ≤ r → r < 6 → ω.1 r = gi h a2 r ∧ ω'.1 r = gi h a4 r) (e2 : ∀ r x, ω.2 r x = gi h a1 (40 * r + x)) (e3 : ∀ r x, ω'.2 r x = gi h a3 (40 * r + x)) (hz : ∀ r, 0 ≤ r → r < 6 → 0 ≤ ω.1 r ∧ ω.1 r ≤ 32) (hz' : ∀ r, 0 ≤ r → r < 6 → 0 ≤ ω'.1 r ∧ ω'.1 r ≤ 32) : dF d 257 [dR 1 11 165, dR 2 240 a1, dR 2 6 a2, dR 2 240 a3, dR 2 6 a4] h = rI (ms ω ω') h := by
  have has : ∀ (r k cnt : Int), 0 ≤ r → r < 6 → 0 ≤ k → k < 32 → ∀ (m : Nat) (i b : Int), 0 ≤ i → i + m = ω'.1 r → ((b = 0 ∧ ∀ y, 0 ≤ y → y < i → ω'.2 r y ≠ ω.2 r k) ∨ (b = 1 ∧ inW ω' r (ω.2 r k))) →
      ∃ b' i', ((b' = 0 ∧ inb ω' r (ω.2 r k) = 1) ∨ (b' = 1 ∧ inb ω' r (ω.2 r k) = 0)) ∧ dL (d - 1) 257 31 [lR 1 11 165, lR 2 240 a1, lR 2 6 a2, lR 2 240 a3, lR 2 6 a4, lI cnt, lI r, lI k, lI b, lI i] [] h = dL (d - 1) 257 94 [lR 1 11 165, lR 2 240 a1, lR 2 6 a2, lR 2 240 a3, lR 2 6 a4, lI cnt, lI r, lI k, lI b', lI i'] [dI (inb ω' r (ω.2 r k)), dI cnt] h := by
    intro r k cnt r0 r1 k0 k1 m
    have zr := hz' r r0 r1
    obtain ⟨ea, eb⟩ := e1 r r0 r1
    induction m with
    | zero =>
      intro i b i0 im hb
      rw [b257_31, ix_p r0 r1, ← eb, if_neg (by omega)]
      rcases hb with ⟨rfl, hb⟩ | ⟨rfl, hb⟩
      · have : inb ω' r (ω.2 r k) = 1 := by
          unfold inb
          rw [if_neg]
          rintro ⟨y, y0, y1, y2⟩
          exact hb y y0 (by omega) y2
        rw [if_pos rfl, this]
        exact ⟨0, i, Or.inl ⟨rfl, rfl⟩, rfl⟩
      · have : inb ω' r (ω.2 r k) = 0 := by
          unfold inb
          rw [if_pos hb]
        rw [if_neg (by decide), this]
        exact ⟨1, i, Or.inr ⟨rfl, rfl⟩, rfl⟩
    | succ m ih =>
      intro i b i0 im hb
      rw [b257_31, ix_p r0 r1, ← eb, if_pos (by omega)]
      rcases hb with ⟨rfl, hb⟩ | ⟨rfl, hb⟩
      · rw [if_pos rfl, ck_p (by omega) (by omega), ck_p (by omega) (by omega), ix_p (by omega) (by omega), ck_p (by omega) (by omega), ck_p (by omega) (by omega), ix_p (by omega) (by omega), ← e2, ← e3]
        by_cases z : ω.2 r k = ω'.2 r i
        · rw [if_pos z, b257_69, b257_74, ck_p (by omega) (by omega)]
          exact ih (i + 1) 1 (by omega) (by omega) (Or.inr ⟨rfl, i, i0, by omega, z.symm⟩)
        · rw [if_neg z, b257_74, ck_p (by omega) (by omega)]
          refine ih (i + 1) 0 (by omega) (by omega) (Or.inl ⟨rfl, fun y y0 y1 => ?_⟩)
          by_cases w : y = i
          · rw [w]; exact fun q => z q.symm
          · exact hb y y0 (by omega)
      · rw [if_neg (by decide), b257_69, b257_74, ck_p (by omega) (by omega)]
        exact ih (i + 1) 1 (by omega) (by omega) (Or.inr ⟨rfl, hb⟩)
  have inner : ∀ (r : Int), 0 ≤ r → r < 6 → ∀ (m : Nat) (k cnt : Int) (w8 w9 : Option dm_V), 0 ≤ k → k + m = ω.1 r → cnt = sm (fun r => sm (fun x => inb ω' r (ω.2 r x)) (ω.1 r).toNat) r.toNat + sm (fun x => inb ω' r (ω.2 r x)) k.toNat →
      ∃ w7' w8' w9', dL (d - 1) 257 16 [lR 1 11 165, lR 2 240 a1, lR 2 6 a2, lR 2 240 a3, lR 2 6 a4, lI cnt, lI r, lI k, w8, w9] [] h = dL (d - 1) 257 6 [lR 1 11 165, lR 2 240 a1, lR 2 6 a2, lR 2 240 a3, lR 2 6 a4, lI (sm (fun r => sm (fun x => inb ω' r (ω.2 r x)) (ω.1 r).toNat) (r + 1).toNat), lI (r + 1), w7', w8', w9'] [] h := by
    intro r r0 r1 m
    have zr := hz r r0 r1
    obtain ⟨ea, eb⟩ := e1 r r0 r1
    induction m with
    | zero =>
      intro k cnt w8 w9 k0 km e
      have ek : k = ω.1 r := by omega
      rw [b257_16, ix_p r0 r1, ← ea, if_neg (by omega), ck_p (by omega) (by omega), sm_i r0, e, ek]
      exact ⟨_, _, _, rfl⟩
    | succ m ih =>
      intro k cnt w8 w9 k0 km e
      have pr := ms_part (ω := ω) (ω' := ω') hz (r := r) (k := k) (by omega) (by omega)
      have hb1 := inb_r ω' r (ω.2 r k)
      have hk1 : sm (fun x => inb ω' r (ω.2 r x)) (k + 1).toNat = sm (fun x => inb ω' r (ω.2 r x)) k.toNat + inb ω' r (ω.2 r k) := sm_i k0
      obtain ⟨b', i', _, t2⟩ := has r k cnt r0 r1 k0 (by omega) (ω'.1 r).toNat 0 0 (by omega) (by have := hz' r r0 r1; omega) (Or.inl ⟨rfl, fun y y0 y1 => by omega⟩)
      rw [b257_16, ix_p r0 r1, ← ea, if_pos (by omega), t2, b257_94, ck_p (by omega) (by omega), ck_p (by omega) (by omega)]
      exact ih (k + 1) _ _ _ (by omega) (by omega) (by rw [hk1]; omega)
  have outer : ∀ (m : Nat) (r : Int) (w7 w8 w9 : Option dm_V), 0 ≤ r → r + m = 6 → dL (d - 1) 257 6 [lR 1 11 165, lR 2 240 a1, lR 2 6 a2, lR 2 240 a3, lR 2 6 a4, lI (sm (fun r => sm (fun x => inb ω' r (ω.2 r x)) (ω.1 r).toNat) r.toNat), lI r, w7, w8, w9] [] h = rI (ms ω ω') h := by
    intro m
    induction m with
    | zero =>
      intro r w7 w8 w9 r0 rm
      rw [b257_6, if_neg (by omega), show r = 6 by omega]
      rfl
    | succ m ih =>
      intro r w7 w8 w9 r0 rm
      have zr := hz r r0 (by omega)
      obtain ⟨w7', w8', w9', t⟩ := inner r r0 (by omega) (ω.1 r).toNat 0 (sm (fun r => sm (fun x => inb ω' r (ω.2 r x)) (ω.1 r).toNat) r.toNat) w8 w9 (by omega) (by omega) (Int.add_zero _).symm
      rw [b257_6, if_pos (by omega), t]
      exact ih (r + 1) _ _ _ (by omega) (by omega)
  rw [f257 (by omega), b257_0]
  exact outer 6 0 none none none (by omega) (by omega)
