/-! THE REFERENCE'S STORE: rows in order -/
/-- the same rows, as far as there are any -/
def eqW (ω ω' : mW) : Prop := ∀ r, 0 ≤ r → r < 6 → ω'.1 r = ω.1 r ∧ ∀ x, 0 ≤ x → x < ω.1 r → ω'.2 r x = ω.2 r x
/-- rows lie in order -/
def SRT (ω : mW) : Prop := ∀ r, 0 ≤ r → r < 6 → ∀ x y, 0 ≤ x → x < y → y < ω.1 r → ω.2 r x < ω.2 r y
theorem eqW_refl (ω : mW) : eqW ω ω := fun _ _ _ => ⟨rfl, fun _ _ _ => rfl⟩
theorem eqW_symm {ω ω' : mW} (e : eqW ω ω') : eqW ω' ω := fun r r0 r1 => ⟨(e r r0 r1).1.symm, fun x x0 x1 => ((e r r0 r1).2 x x0 (by rw [← (e r r0 r1).1]; exact x1)).symm⟩
theorem eqW_trans {ω ω1 ω2 : mW} (a : eqW ω ω1) (b : eqW ω1 ω2) : eqW ω ω2 := fun r r0 r1 => ⟨by rw [(b r r0 r1).1, (a r r0 r1).1], fun x x0 x1 => by rw [(b r r0 r1).2 x x0 (by rw [(a r r0 r1).1]; exact x1), (a r r0 r1).2 x x0 x1]⟩
theorem eqW_in {ω ω' : mW} (e : eqW ω ω') {r c : Int} (hr : 0 ≤ r ∧ r < 6) : inW ω' r c ↔ inW ω r c := by
  obtain ⟨e1, e2⟩ := e r hr.1 hr.2
  constructor
  · rintro ⟨x, x0, x1, x2⟩
    rw [e1] at x1
    exact ⟨x, x0, x1, by rw [← e2 x x0 x1]; exact x2⟩
  · rintro ⟨x, x0, x1, x2⟩
    exact ⟨x, x0, by rw [e1]; exact x1, by rw [e2 x x0 x1]; exact x2⟩
theorem eqW_VW {cl kd : Int → Int} {ω ω' : mW} (e : eqW ω ω') (h : VW cl kd ω) : VW cl kd ω' := by
  intro r r0 r1
  obtain ⟨e1, e2⟩ := e r r0 r1
  obtain ⟨h1, h2, h3⟩ := h r r0 r1
  rw [e1]
  refine ⟨h1, fun x x0 x1 => ?_, fun x y x0 xy y1 => ?_⟩
  · rw [e2 x x0 x1]; exact h2 x x0 x1
  · rw [e2 x x0 (by omega), e2 y (by omega) y1]; exact h3 x y x0 xy y1
theorem eqW_cov {cl kd : Int → Int} {ω ω' : mW} (e : eqW ω ω') {r c : Int} (hr : 0 ≤ r ∧ r < 6) (h : cov cl kd ω r c) : cov cl kd ω' r c := by
  obtain ⟨x, x1, x2⟩ := h
  exact ⟨x, (eqW_in e hr).mpr x1, x2⟩
theorem eqW_SRT {ω ω' : mW} (e : eqW ω ω') (h : SRT ω) : SRT ω' := by
  intro r r0 r1 x y x0 xy y1
  obtain ⟨e1, e2⟩ := e r r0 r1
  rw [e1] at y1
  rw [e2 x x0 (by omega), e2 y (by omega) y1]
  exact h r r0 r1 x y x0 xy y1
theorem eqW_wgh {cl kd : Int → Int} {ω ω' : mW} (e : eqW ω ω') : wgh cl kd ω' = wgh cl kd ω := by
  unfold wgh
  refine sm_cg (fun r r0 r1 => sm_cg (fun x x0 _ => ?_))
  obtain ⟨e1, e2⟩ := e r r0 (by omega)
  show (if x < ω'.1 r then wt cl kd r (ω'.2 r x) else 0) = if x < ω.1 r then wt cl kd r (ω.2 r x) else 0
  rw [e1]
  by_cases q : x < ω.1 r
  · rw [if_pos q, if_pos q, e2 x x0 q]
  · rw [if_neg q, if_neg q]
/-- two stores in order with the same rows are the same -/
theorem srt_eq {ω ω' : mW} (S : SRT ω) (S' : SRT ω') (hz : ∀ r, 0 ≤ r → r < 6 → 0 ≤ ω.1 r ∧ 0 ≤ ω'.1 r) (e : ∀ r, 0 ≤ r → r < 6 → ∀ c, inW ω r c ↔ inW ω' r c) : eqW ω ω' := by
  intro r r0 r1
  have s1 := S r r0 r1
  have s2 := S' r r0 r1
  have q1 : ∀ c, (∃ x, 0 ≤ x ∧ x < ω.1 r ∧ ω.2 r x = c) ↔ (∃ x, 0 ≤ x ∧ x < ω'.1 r ∧ ω'.2 r x = c) := e r r0 r1
  obtain ⟨z1, z2⟩ := hz r r0 r1
  generalize ω.1 r = n at *
  generalize ω'.1 r = m at *
  generalize ω.2 r = f at *
  generalize ω'.2 r = g at *
  have key : ∀ (k : Nat), (∀ x : Int, 0 ≤ x → x < k → x < n → x < m → g x = f x) := by
    intro k
    induction k with
    | zero => intro x x0 x1; omega
    | succ k ih =>
      intro x x0 x1 x2 x3
      by_cases q : x < k
      · exact ih x x0 q x2 x3
      have ex : x = k := by omega
      obtain ⟨y, y0, y1, y2⟩ := (q1 (f x)).mp ⟨x, x0, x2, rfl⟩
      obtain ⟨w, w0, w1, w2⟩ := (q1 (g x)).mpr ⟨x, x0, x3, rfl⟩
      rcases (show y < x ∨ y = x ∨ x < y by omega) with a | a | a
      · have := ih y y0 (by omega) (by omega) y1
        rw [this] at y2
        have := s1 y x y0 a x2
        omega
      · rw [a] at y2; exact y2
      · have l1 := s2 x y x0 a y1
        rcases (show w < x ∨ w = x ∨ x < w by omega) with b | b | b
        · have := ih w w0 (by omega) w1 (by omega)
          rw [← this] at w2
          have := s2 w x w0 b x3
          omega
        · rw [b] at w2; omega
        · have := s1 x w x0 b w1
          omega
  have hnm : m = n := by
    rcases (show m < n ∨ m = n ∨ n < m by omega) with a | a | a
    · obtain ⟨y, y0, y1, y2⟩ := (q1 (f m)).mp ⟨m, z2, a, rfl⟩
      have := key (y.toNat + 1) y y0 (by omega) (by omega) y1
      have l := s1 y m y0 y1 a
      omega
    · exact a
    · obtain ⟨y, y0, y1, y2⟩ := (q1 (g n)).mpr ⟨n, z1, a, rfl⟩
      have := key (y.toNat + 1) y y0 (by omega) y1 (by omega)
      have l := s2 y n y0 y1 a
      omega
  refine ⟨hnm, fun x x0 x1 => key (x.toNat + 1) x x0 (by omega) x1 (by omega)⟩
section INS
variable {cl kd : Int → Int}
/-- what comes of a store by a row that is new to it -/
def nwr (cl kd : Int → Int) (r c : Int) (ω ω' : mW) : Prop := VW cl kd ω' ∧ SRT ω' ∧ (∀ q x, 0 ≤ q → q < 6 → cov cl kd ω q x → cov cl kd ω' q x) ∧ cov cl kd ω' r c ∧ (∀ q x, 0 ≤ q → q < 6 → inW ω' q x → inW ω q x ∨ (q = r ∧ x = c)) ∧ wgh cl kd ω < wgh cl kd ω' ∧ ∀ q, 0 ≤ q → q < 6 → q ≠ r → ω'.1 q = ω.1 q ∧ ∀ x, 0 ≤ x → x < ω.1 q → ω'.2 q x = ω.2 q x
theorem nwr_e {r c : Int} {ω ω1 ω' : mW} (hr : 0 ≤ r ∧ r < 6) (h : nwr cl kd r c ω ω1) (e : eqW ω1 ω') : nwr cl kd r c ω ω' := by
  obtain ⟨h1, h2, h3, h4, h5, h6, h7⟩ := h
  refine ⟨eqW_VW e h1, eqW_SRT e h2, fun q x q0 q1 k => eqW_cov e ⟨q0, q1⟩ (h3 q x q0 q1 k), eqW_cov e hr h4, fun q x q0 q1 k => h5 q x q0 q1 ((eqW_in e ⟨q0, q1⟩).mp k), by rw [eqW_wgh e]; exact h6, fun q q0 q1 n => ?_⟩
  obtain ⟨a1, a2⟩ := h7 q q0 q1 n
  obtain ⟨b1, b2⟩ := e q q0 q1
  exact ⟨by rw [b1, a1], fun x x0 x1 => by rw [b2 x x0 (by rw [a1]; exact x1), a2 x x0 x1]⟩
/-- the row at place p of r is c now -/
def repW (ω : mW) (r p c : Int) : mW := (ω.1, fun q x => if q = r ∧ x = p then c else ω.2 q x)
theorem vcd_lt {n a b : Int} (hn : 1 ≤ n ∧ n ≤ 3) (ha : vcd n a) (hb : vcd n b) {i : Int} (hi : 0 ≤ i ∧ i < n) (e : ∀ j, 0 ≤ j → j < i → cv j a = cv j b) (l : cv i a < cv i b) : a < b := by
  have ra0 := cv_r (i := 0) (by omega) ha.1
  have ra1 := cv_r (i := 1) (by omega) ha.1
  have ra2 := cv_r (i := 2) (by omega) ha.1
  have rb0 := cv_r (i := 0) (by omega) hb.1
  have rb1 := cv_r (i := 1) (by omega) hb.1
  have rb2 := cv_r (i := 2) (by omega) hb.1
  have h1 := ha.1
  have h2 := hb.1
  have da : ∀ c : Int, 0 ≤ c → c < 1000000 → c = cv 0 c * 10000 + cv 1 c * 100 + cv 2 c := by
    intro c c0 c1
    show c = c / 10000 * 10000 + c / 100 % 100 * 100 + c % 100
    omega
  have ea := da a h1.1 h1.2
  have eb := da b h2.1 h2.2
  rcases (show i = 0 ∨ i = 1 ∨ i = 2 by omega) with rfl | rfl | rfl
  · omega
  · have := e 0 (by omega) (by omega)
    omega
  · have := e 0 (by omega) (by omega)
    have := e 1 (by omega) (by omega)
    omega
theorem vcd_tri {n a b : Int} (hn : 1 ≤ n ∧ n ≤ 3) (ha : vcd n a) (hb : vcd n b) {w : Int} (hw : 0 ≤ w ∧ w ≤ n) (hne : ∃ i, 0 ≤ i ∧ i < w ∧ cv i a ≠ cv i b) : ∃ i, 0 ≤ i ∧ i < w ∧ (∀ j, 0 ≤ j → j < i → cv j a = cv j b) ∧ cv i a ≠ cv i b := by
  by_cases q0 : cv 0 a = cv 0 b
  · by_cases q1 : cv 1 a = cv 1 b
    · obtain ⟨i, i0, i1, i2⟩ := hne
      refine ⟨i, i0, i1, fun j j0 j1 => ?_, i2⟩
      rcases (show j = 0 ∨ j = 1 by omega) with rfl | rfl
      · exact q0
      · exact q1
    · obtain ⟨i, i0, i1, i2⟩ := hne
      refine ⟨1, by omega, ?_, fun j j0 j1 => ?_, q1⟩
      · rcases (show i = 0 ∨ 1 ≤ i by omega) with rfl | z
        · exact absurd q0 i2
        · omega
      · rw [show j = 0 by omega]; exact q0
  · obtain ⟨i, i0, i1, i2⟩ := hne
    exact ⟨0, by omega, by omega, fun j j0 j1 => by omega, q0⟩
/-- rows of one key lie alike to rows of others -/
theorem key_ord {n w a a' b : Int} (hn : 1 ≤ n ∧ n ≤ 3) (hw : 0 ≤ w ∧ w ≤ n) (ha : vcd n a) (ha' : vcd n a') (hb : vcd n b) (e : ∀ i, 0 ≤ i → i < w → cv i a = cv i a') (hne : ∃ i, 0 ≤ i ∧ i < w ∧ cv i a ≠ cv i b) : (a < b ↔ a' < b) ∧ (b < a ↔ b < a') := by
  obtain ⟨i, i0, i1, i2, i3⟩ := vcd_tri hn ha hb hw hne
  have e2 : ∀ j, 0 ≤ j → j < i → cv j a' = cv j b := fun j j0 j1 => by rw [← e j j0 (by omega)]; exact i2 j j0 j1
  have e3 := e i i0 i1
  rcases (show cv i a < cv i b ∨ cv i b < cv i a by omega) with l | l
  · have := vcd_lt hn ha hb (i := i) (by omega) i2 l
    have := vcd_lt hn ha' hb (i := i) (by omega) e2 (by omega)
    omega
  · have := vcd_lt hn hb ha (i := i) (by omega) (fun j j0 j1 => (i2 j j0 j1).symm) l
    have := vcd_lt hn hb ha' (i := i) (by omega) (fun j j0 j1 => (e2 j j0 j1).symm) (by omega)
    omega
theorem rep_nwr (D : DC cl kd) {ω : mW} (V : VW cl kd ω) (S : SRT ω) {r p c : Int} (hr : 0 ≤ r ∧ r < 6) (hp : 0 ≤ p ∧ p < ω.1 r) (hc : vcd (cl r) c) (hk : kd r ≠ 0) (e : ∀ i, 0 ≤ i → i < kwd cl kd r → cv i (ω.2 r p) = cv i c) (hb : btr (kd r) c (ω.2 r p)) : nwr cl kd r c ω (repW ω r p c) := by
  obtain ⟨d1, d2⟩ := D r hr.1 hr.2
  obtain ⟨v1, v2, v3⟩ := V r hr.1 hr.2
  have hw : 0 ≤ kwd cl kd r ∧ kwd cl kd r ≤ cl r := by unfold kwd; rw [if_neg hk]; omega
  have cvc : cvr cl kd r c (ω.2 r p) := ⟨fun i i0 i1 => (e i i0 i1).symm, fun q => by unfold btr at hb; omega, fun q => by unfold btr at hb; omega⟩
  have hother : ∀ x, 0 ≤ x → x < ω.1 r → x ≠ p → ∃ i, 0 ≤ i ∧ i < kwd cl kd r ∧ cv i (ω.2 r p) ≠ cv i (ω.2 r x) := by
    intro x x0 x1 xp
    rcases (show x < p ∨ p < x by omega) with q | q
    · obtain ⟨i, i0, i1, i2⟩ := v3 x p x0 q hp.2
      exact ⟨i, i0, i1, fun z => i2 z.symm⟩
    · exact v3 p x hp.1 q x1
  have hoth : ∀ x, 0 ≤ x → x < ω.1 r → x ≠ p → (ω.2 r p < ω.2 r x ↔ c < ω.2 r x) ∧ (ω.2 r x < ω.2 r p ↔ ω.2 r x < c) := fun x x0 x1 xp => key_ord d1 hw (v2 p hp.1 hp.2) hc (v2 x x0 x1) e (hother x x0 x1 xp)
  have ev : ∀ q x, (repW ω r p c).2 q x = if q = r ∧ x = p then c else ω.2 q x := fun _ _ => rfl
  have hV' : VW cl kd (repW ω r p c) := by
    intro q q0 q1
    obtain ⟨u1, u2, u3⟩ := V q q0 q1
    refine ⟨u1, fun x x0 x1 => ?_, fun x y x0 xy y1 => ?_⟩
    · rw [ev]
      by_cases z : q = r ∧ x = p
      · rw [if_pos z, z.1]; exact hc
      · rw [if_neg z]; exact u2 x x0 x1
    · have y1 : y < ω.1 q := y1
      rw [ev, ev]
      by_cases z : q = r
      · subst z
        by_cases z1 : x = p
        · rw [if_pos ⟨rfl, z1⟩, if_neg (by omega)]
          obtain ⟨i, i0, i1, i2⟩ := hother y (by omega) y1 (by omega)
          exact ⟨i, i0, i1, by rw [← e i i0 i1]; exact i2⟩
        · rw [if_neg (fun w => z1 w.2)]
          by_cases z2 : y = p
          · rw [if_pos ⟨rfl, z2⟩]
            obtain ⟨i, i0, i1, i2⟩ := hother x x0 (by omega) z1
            exact ⟨i, i0, i1, by rw [← e i i0 i1]; exact fun z => i2 z.symm⟩
          · rw [if_neg (fun w => z2 w.2)]
            exact u3 x y x0 xy y1
      · rw [if_neg (fun w => z w.1), if_neg (fun w => z w.1)]
        exact u3 x y x0 xy y1
  refine ⟨hV', ?_, ?_, ?_, ?_, ?_, ?_⟩
  · intro q q0 q1 x y x0 xy y1
    have y1 : y < ω.1 q := y1
    have s := S q q0 q1 x y x0 xy y1
    rw [ev, ev]
    by_cases z : q = r
    · subst z
      by_cases z1 : x = p
      · rw [if_pos ⟨rfl, z1⟩, if_neg (by omega)]
        rw [z1] at s
        exact (hoth y (by omega) y1 (by omega)).1.mp s
      · rw [if_neg (fun w => z1 w.2)]
        by_cases z2 : y = p
        · rw [if_pos ⟨rfl, z2⟩]
          rw [z2] at s
          exact (hoth x x0 (by omega) z1).2.mp s
        · rw [if_neg (fun w => z2 w.2)]
          exact s
    · rw [if_neg (fun w => z w.1), if_neg (fun w => z w.1)]
      exact s
  · rintro q x q0 q1 ⟨y, ⟨w, w0, w1, rfl⟩, y2⟩
    by_cases z : q = r ∧ w = p
    · obtain ⟨rfl, rfl⟩ := z
      exact ⟨c, ⟨w, w0, w1, by rw [ev, if_pos ⟨rfl, rfl⟩]⟩, cvr_trans cvc y2⟩
    · exact ⟨ω.2 q w, ⟨w, w0, w1, by rw [ev, if_neg z]⟩, y2⟩
  · exact ⟨c, ⟨p, hp.1, hp.2, by rw [ev, if_pos ⟨rfl, rfl⟩]⟩, cvr_refl _ _⟩
  · rintro q x q0 q1 ⟨y, y0, y1, rfl⟩
    rw [ev]
    by_cases z : q = r ∧ y = p
    · rw [if_pos z]; exact Or.inr ⟨z.1, rfl⟩
    · rw [if_neg z]; exact Or.inl ⟨y, y0, y1, rfl⟩
  · have hwt : wt cl kd r (ω.2 r p) < wt cl kd r c := cvr_lt D hr hc (v2 p hp.1 hp.2) cvc hk (fun z => by rw [z] at hb; unfold btr at hb; omega)
    have hle : ∀ q : Int, 0 ≤ q → q < 6 → ∀ x : Int, 0 ≤ x → x < 32 → wtx cl kd ω q x ≤ wtx cl kd (repW ω r p c) q x := by
      intro q q0 q1 x x0 x1
      show (if x < ω.1 q then wt cl kd q (ω.2 q x) else 0) ≤ (if x < ω.1 q then wt cl kd q (if q = r ∧ x = p then c else ω.2 q x) else 0)
      by_cases z : q = r ∧ x = p
      · rw [if_pos z]
        obtain ⟨rfl, rfl⟩ := z
        rw [if_pos hp.2, if_pos hp.2]
        omega
      · rw [if_neg z]
        omega
    refine sm_lt (k := r) (fun q q0 q1 => sm_le (fun x x0 x1 => hle q q0 q1 x x0 x1)) hr.1 hr.2 ?_
    refine sm_lt (k := p) (fun x x0 x1 => hle r hr.1 hr.2 x x0 x1) hp.1 (by omega) ?_
    show (if p < ω.1 r then wt cl kd r (ω.2 r p) else 0) < (if p < ω.1 r then wt cl kd r (if r = r ∧ p = p then c else ω.2 r p) else 0)
    rw [if_pos hp.2, if_pos hp.2, if_pos ⟨rfl, rfl⟩]
    exact hwt
  · intro q q0 q1 qr
    exact ⟨rfl, fun x x0 x1 => by rw [ev, if_neg (fun w => qr w.1)]⟩
/-- a row stands at place p of r, those behind it one further -/
def insW (ω : mW) (r p c : Int) : mW := (fun q => if q = r then ω.1 r + 1 else ω.1 q, fun q x => if q = r then (if x < p then ω.2 r x else if x = p then c else ω.2 r (x - 1)) else ω.2 q x)
theorem sm_ins {f g : Int → Int} {w : Int} {p : Int} (p0 : 0 ≤ p) (h1 : ∀ x, x < p → g x = f x) (h2 : g p = w) : ∀ (n : Nat), p ≤ n → (∀ x, p < x → x ≤ n → g x = f (x - 1)) → sm g (n + 1) = sm f n + w
  | 0, hp, h3 => by
    have : p = 0 := by omega
    subst this
    show 0 + g 0 = 0 + w
    rw [h2]
  | n + 1, hp, h3 => by
    show sm g (n + 1) + g ((n + 1 : Nat) : Int) = sm f n + f n + w
    by_cases q : p = (n + 1 : Nat)
    · rw [← q, h2]
      have : sm g (n + 1) = sm f n + f n := by
        show sm g n + g (n : Int) = _
        rw [h1 (n : Int) (by omega), sm_cg (fun x x0 x1 => h1 x (by omega))]
      omega
    · rw [sm_ins p0 h1 h2 n (by omega) (fun x x0 x1 => h3 x x0 (by omega)), h3 _ (by omega) (by omega), show ((n + 1 : Nat) : Int) - 1 = n by omega]
      omega
theorem ins_nwr (D : DC cl kd) {ω : mW} (V : VW cl kd ω) (S : SRT ω) {r p c : Int} (hr : 0 ≤ r ∧ r < 6) (hz : ω.1 r < 32) (hp : 0 ≤ p ∧ p ≤ ω.1 r) (hc : vcd (cl r) c) (e : ∀ x, 0 ≤ x → x < ω.1 r → ∃ i, 0 ≤ i ∧ i < kwd cl kd r ∧ cv i (ω.2 r x) ≠ cv i c) (l1 : ∀ x, 0 ≤ x → x < p → ω.2 r x < c) (l2 : ∀ x, p ≤ x → x < ω.1 r → c < ω.2 r x) : nwr cl kd r c ω (insW ω r p c) := by
  obtain ⟨v1, v2, v3⟩ := V r hr.1 hr.2
  have e1 : (insW ω r p c).1 r = ω.1 r + 1 := if_pos rfl
  have e2 : ∀ q, q ≠ r → (insW ω r p c).1 q = ω.1 q := fun q h => if_neg h
  have e3 : ∀ x, (insW ω r p c).2 r x = (if x < p then ω.2 r x else if x = p then c else ω.2 r (x - 1)) := fun x => if_pos rfl
  have e4 : ∀ q x, q ≠ r → (insW ω r p c).2 q x = ω.2 q x := fun q x h => if_neg h
  refine ⟨?_, ?_, ?_, ?_, ?_, ?_, ?_⟩
  · intro q q0 q1
    by_cases z : q = r
    · subst z
      rw [e1]
      refine ⟨by omega, fun x x0 x1 => ?_, fun x y x0 xy y1 => ?_⟩
      · rw [e3]
        by_cases a : x < p
        · rw [if_pos a]; exact v2 x x0 (by omega)
        · rw [if_neg a]
          by_cases b : x = p
          · rw [if_pos b]; exact hc
          · rw [if_neg b]; exact v2 _ (by omega) (by omega)
      · rw [e3, e3]
        by_cases a : x < p
        · rw [if_pos a]
          by_cases a' : y < p
          · rw [if_pos a']; exact v3 x y x0 xy (by omega)
          · rw [if_neg a']
            by_cases b' : y = p
            · rw [if_pos b']; exact e x x0 (by omega)
            · rw [if_neg b']; exact v3 x (y - 1) x0 (by omega) (by omega)
        · rw [if_neg a, if_neg (show ¬ y < p by omega), if_neg (show ¬ y = p by omega)]
          by_cases b : x = p
          · rw [if_pos b]
            obtain ⟨i, i0, i1, i2⟩ := e (y - 1) (by omega) (by omega)
            exact ⟨i, i0, i1, fun w => i2 w.symm⟩
          · rw [if_neg b]; exact v3 (x - 1) (y - 1) (by omega) (by omega) (by omega)
    · rw [e2 q z]
      obtain ⟨u1, u2, u3⟩ := V q q0 q1
      refine ⟨u1, fun x x0 x1 => ?_, fun x y x0 xy y1 => ?_⟩
      · rw [e4 q x z]; exact u2 x x0 x1
      · rw [e4 q x z, e4 q y z]; exact u3 x y x0 xy y1
  · intro q q0 q1 x y x0 xy y1
    by_cases z : q = r
    · subst z
      rw [e1] at y1
      rw [e3, e3]
      by_cases a : x < p
      · rw [if_pos a]
        by_cases a' : y < p
        · rw [if_pos a']; exact S q q0 q1 x y x0 xy (by omega)
        · rw [if_neg a']
          by_cases b' : y = p
          · rw [if_pos b']; exact l1 x x0 a
          · rw [if_neg b']; exact S q q0 q1 x (y - 1) x0 (by omega) (by omega)
      · rw [if_neg a, if_neg (show ¬ y < p by omega), if_neg (show ¬ y = p by omega)]
        by_cases b : x = p
        · rw [if_pos b]; exact l2 (y - 1) (by omega) (by omega)
        · rw [if_neg b]; exact S q q0 q1 (x - 1) (y - 1) (by omega) (by omega) (by omega)
    · rw [e2 q z] at y1
      rw [e4 q x z, e4 q y z]
      exact S q q0 q1 x y x0 xy y1
  · rintro q x q0 q1 ⟨y, ⟨w, w0, w1, rfl⟩, y2⟩
    by_cases z : q = r
    · subst z
      refine ⟨ω.2 q w, ?_, y2⟩
      by_cases a : w < p
      · exact ⟨w, w0, by rw [e1]; omega, by rw [e3, if_pos a]⟩
      · exact ⟨w + 1, by omega, by rw [e1]; omega, by rw [e3, if_neg (by omega), if_neg (by omega), show w + 1 - 1 = w by omega]⟩
    · exact ⟨ω.2 q w, ⟨w, w0, by rw [e2 q z]; exact w1, e4 q w z⟩, y2⟩
  · exact ⟨c, ⟨p, hp.1, by rw [e1]; omega, by rw [e3, if_neg (by omega), if_pos rfl]⟩, cvr_refl _ _⟩
  · rintro q x q0 q1 ⟨y, y0, y1, rfl⟩
    by_cases z : q = r
    · subst z
      rw [e1] at y1
      rw [e3]
      by_cases a : y < p
      · rw [if_pos a]; exact Or.inl ⟨y, y0, by omega, rfl⟩
      · rw [if_neg a]
        by_cases b : y = p
        · rw [if_pos b]; exact Or.inr ⟨rfl, rfl⟩
        · rw [if_neg b]; exact Or.inl ⟨y - 1, by omega, by omega, rfl⟩
    · rw [e2 q z] at y1
      rw [e4 q y z]
      exact Or.inl ⟨y, y0, y1, rfl⟩
  · have hw := wt_r D hr hc
    have hr' : sm (fun x => wtx cl kd (insW ω r p c) r x) 32 = sm (fun x => wtx cl kd ω r x) 31 + wt cl kd r c := by
      refine sm_ins (f := fun x => wtx cl kd ω r x) hp.1 (fun x xp => ?_) ?_ 31 (by omega) (fun x xp x1 => ?_)
      · show (if x < (insW ω r p c).1 r then wt cl kd r ((insW ω r p c).2 r x) else 0) = if x < ω.1 r then wt cl kd r (ω.2 r x) else 0
        rw [e1, e3, if_pos (show x < ω.1 r + 1 by omega), if_pos xp, if_pos (show x < ω.1 r by omega)]
      · show (if p < (insW ω r p c).1 r then wt cl kd r ((insW ω r p c).2 r p) else 0) = wt cl kd r c
        rw [e1, e3, if_pos (by omega), if_neg (by omega), if_pos rfl]
      · show (if x < (insW ω r p c).1 r then wt cl kd r ((insW ω r p c).2 r x) else 0) = if x - 1 < ω.1 r then wt cl kd r (ω.2 r (x - 1)) else 0
        rw [e1, e3, if_neg (show ¬ x < p by omega), if_neg (show ¬ x = p by omega)]
        by_cases q : x < ω.1 r + 1
        · rw [if_pos q, if_pos (by omega)]
        · rw [if_neg q, if_neg (by omega)]
    have hr0 : sm (fun x => wtx cl kd ω r x) 32 = sm (fun x => wtx cl kd ω r x) 31 := by
      show sm (fun x => wtx cl kd ω r x) 31 + (if ((31 : Nat) : Int) < ω.1 r then wt cl kd r (ω.2 r ((31 : Nat) : Int)) else 0) = _
      rw [if_neg (by omega)]
      omega
    refine sm_lt (k := r) (fun q q0 q1 => ?_) hr.1 hr.2 ?_
    · by_cases z : q = r
      · subst z
        show sm (fun x => wtx cl kd ω q x) 32 ≤ sm (fun x => wtx cl kd (insW ω q p c) q x) 32
        omega
      · refine sm_le (fun x x0 x1 => ?_)
        show (if x < ω.1 q then wt cl kd q (ω.2 q x) else 0) ≤ (if x < (insW ω r p c).1 q then wt cl kd q ((insW ω r p c).2 q x) else 0)
        rw [e2 q z, e4 q x z]
        exact Int.le_refl _
    · show sm (fun x => wtx cl kd ω r x) 32 < sm (fun x => wtx cl kd (insW ω r p c) r x) 32
      omega
  · intro q q0 q1 z
    exact ⟨e2 q z, fun x _ _ => e4 q x z⟩
end INS
