/-! A ROW IS PUT -/
theorem key_iff {n k ku c c' : Int} (hn : 1 ≤ n ∧ n ≤ 3) (hku : ku = if k = 0 then 1 else dm_unit (n - 1) * 100) (h : vcd n c) (h' : vcd n c') : c / ku = c' / ku ↔ ∀ i, 0 ≤ i → i < (if k = 0 then n else n - 1) → cv i c = cv i c' := by
  have c0 := h.1
  have c0' := h'.1
  by_cases hk : k = 0
  · rw [if_pos hk] at hku ⊢
    rw [hku, Int.ediv_one, Int.ediv_one]
    exact ⟨fun q _ _ _ => by rw [q], fun q => vcd_ext h h' (fun i i0 i1 _ => q i i0 i1)⟩
  rw [if_neg hk] at hku ⊢
  rcases (show n = 1 ∨ n = 2 ∨ n = 3 by omega) with q | q | q <;> subst q
  · have e : ku = 1000000 := by rw [hku]; show dm_unit 0 * 100 = _; rw [dm_unit0]; rfl
    subst e
    exact ⟨fun _ i i0 i1 => by omega, fun _ => by omega⟩
  · have e : ku = 10000 := by rw [hku]; show dm_unit 1 * 100 = _; rw [dm_unit1]; rfl
    subst e
    constructor
    · intro z i i0 i1
      have : i = 0 := by omega
      subst this
      unfold cv
      simp
      omega
    · intro z
      have := z 0 (by omega) (by omega)
      unfold cv at this
      simp at this
      omega
  · have e : ku = 100 := by rw [hku]; show dm_unit 2 * 100 = _; rw [dm_unit2]; rfl
    subst e
    constructor
    · intro z i i0 i1
      rcases (show i = 0 ∨ i = 1 by omega) with q | q <;> subst q <;> unfold cv <;> simp <;> omega
    · intro z
      have z0 := z 0 (by omega) (by omega)
      have z1 := z 1 (by omega) (by omega)
      unfold cv at z0 z1
      simp at z0 z1
      omega
/-- columns, as one may ask of any place -/
def cK (h : dm_H) : Int → Int := fun r => if gi h 3 r < 1 then 1 else gi h 3 r
/-- the relations' own cells -/
def RK (h : dm_H) : Prop := (0 ≤ gi h 2 0 ∧ gi h 2 0 ≤ 6) ∧ ∀ r, 0 ≤ r → r < 6 → (gi h 3 r ≤ 3 ∧ (0 ≤ gi h 4 r ∧ gi h 4 r ≤ 2)) ∧ (r < gi h 2 0 → 1 ≤ gi h 3 r ∧ gi h 5 r = if gi h 4 r = 0 then 1 else dm_unit (gi h 3 r - 1) * 100)
theorem RK_D {h : dm_H} (K : RK h) : DC (cK h) (gi h 4) := fun r r0 r1 => by
  obtain ⟨⟨a1, a2⟩, _⟩ := K.2 r r0 r1
  refine ⟨?_, a2⟩
  unfold cK
  split <;> omega
theorem RK_c {h : dm_H} (K : RK h) {r : Int} (r0 : 0 ≤ r) (r1 : r < gi h 2 0) : cK h r = gi h 3 r := by
  have := K.1
  obtain ⟨_, b⟩ := K.2 r r0 (by omega)
  have := (b r1).1
  unfold cK
  rw [if_neg (by omega)]
/-- what putting touches -/
def frP (P : Nat) (h h' : dm_H) : Prop := (∀ a i, ¬ (P + 1 ≤ a ∧ a ≤ P + 16) → ¬ (a = P ∧ i = 5) → gi h' a i = gi h a i) ∧ (∀ a i, gr h' a i = gr h a i) ∧ h'.2.2 = h.2.2
theorem frP_refl (P : Nat) (h : dm_H) : frP P h h := ⟨fun _ _ _ _ => rfl, fun _ _ => rfl, rfl⟩
theorem frP_trans {P : Nat} {h h1 h2 : dm_H} (a : frP P h h1) (b : frP P h1 h2) : frP P h h2 := ⟨fun c i p q => by rw [b.1 c i p q, a.1 c i p q], fun c i => by rw [b.2.1, a.2.1], by rw [b.2.2, a.2.2]⟩
/-- stamps as they stand while s is the newest that is given -/
def stp_ (P : Nat) (s : Int) (h : dm_H) : Prop := ∀ r, 0 ≤ r → r < 6 → (0 ≤ gi h (P + 16) r ∧ gi h (P + 16) r ≤ s) ∧ ∀ x, 0 ≤ x → x < rsz h P r → 0 ≤ rst h P r x ∧ rst h P r x ≤ gi h (P + 16) r
/-- rows go on: they stay, or are covered by what is as new as s -/
def gro (cl kd : Int → Int) (P : Nat) (s : Int) (h h' : dm_H) : Prop := ∀ r, 0 ≤ r → r < 6 → rsz h P r ≤ rsz h' P r ∧ (∀ x, 0 ≤ x → x < rsz h P r → (rws h' P r x = rws h P r x ∧ rst h' P r x = rst h P r x) ∨ (rst h' P r x = s ∧ cvr cl kd r (rws h' P r x) (rws h P r x) ∧ btr (kd r) (rws h' P r x) (rws h P r x))) ∧ (∀ x, 0 ≤ x → rsz h P r ≤ x → x < rsz h' P r → rst h' P r x = s) ∧ (gi h (P + 16) r ≤ gi h' (P + 16) r ∧ (gi h' (P + 16) r = gi h (P + 16) r ∨ ¬ (rsz h' P r = rsz h P r ∧ ∀ x, 0 ≤ x → x < rsz h P r → rws h' P r x = rws h P r x)))
section PUT
variable {cl kd : Int → Int}
theorem gro_refl (P : Nat) (s : Int) (h : dm_H) : gro cl kd P s h h := fun r _ _ => ⟨Int.le_refl _, fun _ _ _ => Or.inl ⟨rfl, rfl⟩, fun x _ _ _ => by omega, Int.le_refl _, Or.inl rfl⟩
theorem gro_trans {P : Nat} {s : Int} {h h1 h2 : dm_H} (a : gro cl kd P s h h1) (b : gro cl kd P s h1 h2) : gro cl kd P s h h2 := by
  intro r r0 r1
  obtain ⟨a1, a2, a3, a4⟩ := a r r0 r1
  obtain ⟨b1, b2, b3, b4⟩ := b r r0 r1
  refine ⟨by omega, fun x x0 x1 => ?_, fun x x00 x0 x1 => ?_, Int.le_trans a4.1 b4.1, ?_⟩
  rotate_left 2
  · by_cases q : gi h2 (P + 16) r = gi h (P + 16) r
    · exact Or.inl q
    right
    rintro ⟨w1, w2⟩
    have key : ∀ x, 0 ≤ x → x < rsz h P r → rws h1 P r x = rws h P r x := by
      intro x x0 x1
      rcases a2 x x0 x1 with ⟨z, _⟩ | ⟨_, _, z⟩
      · exact z
      · have w := w2 x x0 x1
        rcases b2 x x0 (by omega) with ⟨y, _⟩ | ⟨_, _, y⟩
        · rw [← y, w]
        · rw [w] at y
          unfold btr at y z
          omega
    rcases a4.2 with u | u
    · rcases b4.2 with t | t
      · exact q (by rw [t, u])
      · exact t ⟨by omega, fun x x0 x1 => by rw [w2 x x0 (by omega), key x x0 (by omega)]⟩
    · exact u ⟨by omega, key⟩
  · rcases b2 x x0 (by omega) with ⟨q1, q2⟩ | ⟨q1, q2⟩
    · rw [q1, q2]; exact a2 x x0 x1
    · refine Or.inr ⟨q1, ?_⟩
      rcases a2 x x0 x1 with ⟨z1, z2⟩ | ⟨z1, z2⟩
      · rw [← z1]; exact q2
      · refine ⟨cvr_trans q2.1 z2.1, ?_⟩
        have b1 := q2.2
        have b2 := z2.2
        unfold btr at b1 b2 ⊢
        omega
  · rcases Int.lt_or_le x (rsz h1 P r) with q | q
    · have := a3 x x00 x0 q
      rcases b2 x x00 q with ⟨_, q2⟩ | ⟨q1, _⟩
      · rw [q2]; exact this
      · exact q1
    · exact b3 x x00 q x1
theorem gro_cov {P : Nat} {s : Int} {h h' : dm_H} (a : gro cl kd P s h h') {r c : Int} (hr : 0 ≤ r ∧ r < 6) (k : cov cl kd (cW h P) r c) : cov cl kd (cW h' P) r c := by
  obtain ⟨y, ⟨x, x0, x1, rfl⟩, hc⟩ := k
  obtain ⟨a1, a2, a3, a4⟩ := a r hr.1 hr.2
  have x1 : x < rsz h P r := x1
  refine ⟨rws h' P r x, ⟨x, x0, show x < rsz h' P r by omega, rfl⟩, ?_⟩
  rcases a2 x x0 x1 with ⟨q1, q2⟩ | ⟨q1, q2⟩
  · rw [q1]; exact hc
  · exact cvr_trans q2.1 hc
/-- what a row weighs: more, the better -/
def wt (cl kd : Int → Int) (r c : Int) : Int := if kd r = 1 then 100 - cv (cl r - 1) c else if kd r = 2 then 1 + cv (cl r - 1) c else 1
def sm (f : Int → Int) : Nat → Int
  | 0 => 0
  | n + 1 => sm f n + f n
theorem sm_le {f g : Int → Int} : ∀ {n : Nat}, (∀ i : Int, 0 ≤ i → i < n → f i ≤ g i) → sm f n ≤ sm g n
  | 0, _ => Int.le_refl _
  | n + 1, h => by
    have := sm_le (n := n) (fun i i0 i1 => h i i0 (by omega))
    have := h n (by omega) (by omega)
    show sm f n + f n ≤ sm g n + g n
    omega
theorem sm_lt {f g : Int → Int} : ∀ {n : Nat} {k : Int}, (∀ i : Int, 0 ≤ i → i < n → f i ≤ g i) → 0 ≤ k → k < n → f k < g k → sm f n < sm g n
  | 0, k, _, _, _, _ => by omega
  | n + 1, k, h, k0, k1, hk => by
    show sm f n + f n < sm g n + g n
    have h2 := h n (by omega) (by omega)
    by_cases e : k = n
    · have := sm_le (n := n) (fun i i0 i1 => h i i0 (by omega))
      rw [e] at hk
      omega
    · have := sm_lt (n := n) (fun i i0 i1 => h i i0 (by omega)) k0 (by omega) hk
      omega
theorem sm_ub {f : Int → Int} {b : Int} : ∀ {n : Nat}, (∀ i : Int, 0 ≤ i → i < n → f i ≤ b) → sm f n ≤ n * b
  | 0, _ => by show (0 : Int) ≤ _; simp
  | n + 1, h => by
    have := sm_ub (n := n) (fun i i0 i1 => h i i0 (by omega))
    have := h n (by omega) (by omega)
    show sm f n + f n ≤ _
    rw [show ((n + 1 : Nat) : Int) * b = n * b + b by push_cast; rw [Int.add_mul, Int.one_mul]]
    omega
theorem sm_nn {f : Int → Int} : ∀ {n : Nat}, (∀ i : Int, 0 ≤ i → i < n → 0 ≤ f i) → 0 ≤ sm f n
  | 0, _ => by show (0 : Int) ≤ 0; omega
  | n + 1, h => by
    have := sm_nn (n := n) (fun i i0 i1 => h i i0 (by omega))
    have := h n (by omega) (by omega)
    show 0 ≤ sm f n + f n
    omega
def wtx (cl kd : Int → Int) (ω : mW) (r x : Int) : Int := if x < ω.1 r then wt cl kd r (ω.2 r x) else 0
/-- what all rows weigh -/
def wgh (cl kd : Int → Int) (ω : mW) : Int := sm (fun r => sm (fun x => wtx cl kd ω r x) 32) 6
theorem wt_r {r c : Int} (D : DC cl kd) (hr : 0 ≤ r ∧ r < 6) (hc : vcd (cl r) c) : 1 ≤ wt cl kd r c ∧ wt cl kd r c ≤ 100 := by
  have := D r hr.1 hr.2
  have := cv_r (i := cl r - 1) (c := c) ⟨by omega, by omega⟩ hc.1
  unfold wt
  repeat' split
  all_goals omega
theorem wgh_ub {ω : mW} (D : DC cl kd) (V : VW cl kd ω) : 0 ≤ wgh cl kd ω ∧ wgh cl kd ω ≤ 19200 := by
  have h1 : ∀ r : Int, 0 ≤ r → r < (6 : Nat) → 0 ≤ sm (fun x => wtx cl kd ω r x) 32 ∧ sm (fun x => wtx cl kd ω r x) 32 ≤ 3200 := by
    intro r r0 r1
    have h2 : ∀ x : Int, 0 ≤ x → x < (32 : Nat) → 0 ≤ wtx cl kd ω r x ∧ wtx cl kd ω r x ≤ 100 := by
      intro x x0 x1
      unfold wtx
      split
      · rename_i q
        have := wt_r D ⟨r0, by omega⟩ ((V r r0 (by omega)).2.1 x x0 q)
        omega
      · omega
    have a := sm_nn (n := 32) (fun x x0 x1 => (h2 x x0 x1).1)
    have b : sm (fun x => wtx cl kd ω r x) 32 ≤ (32 : Nat) * 100 := sm_ub (n := 32) (fun x x0 x1 => (h2 x x0 x1).2)
    exact ⟨a, by omega⟩
  have a := sm_nn (n := 6) (fun r r0 r1 => (h1 r r0 r1).1)
  have b : sm (fun r => sm (fun x => wtx cl kd ω r x) 32) 6 ≤ (6 : Nat) * 3200 := sm_ub (n := 6) (fun r r0 r1 => (h1 r r0 r1).2)
  unfold wgh
  exact ⟨a, by omega⟩
theorem cvr_last {r x c : Int} (D : DC cl kd) (hr : 0 ≤ r ∧ r < 6) (hx : vcd (cl r) x) (hc : vcd (cl r) c) (h : cvr cl kd r x c) : wt cl kd r c ≤ wt cl kd r x := by
  have d := D r hr.1 hr.2
  have le : ∀ {a b : Int}, vcd (cl r) a → vcd (cl r) b → (∀ i, 0 ≤ i → i < cl r - 1 → cv i a = cv i b) → a ≤ b → cv (cl r - 1) a ≤ cv (cl r - 1) b := by
    intro a b ha hb e hab
    rcases Int.lt_or_le (cv (cl r - 1) b) (cv (cl r - 1) a) with q | q
    · have := vcd_le d.1 hb ha (fun i i0 i1 => (e i i0 i1).symm) (by omega)
      have : a = b := by omega
      rw [this]; exact Int.le_refl _
    · exact q
  have hk : kd r ≠ 0 → ∀ i, 0 ≤ i → i < cl r - 1 → cv i x = cv i c := fun q i i0 i1 => h.1 i i0 (by unfold kwd; rw [if_neg q]; exact i1)
  unfold wt
  by_cases q1 : kd r = 1
  · rw [if_pos q1, if_pos q1]
    have := le hx hc (hk (by omega)) (h.2.1 q1)
    omega
  rw [if_neg q1, if_neg q1]
  by_cases q2 : kd r = 2
  · rw [if_pos q2, if_pos q2]
    have := le hc hx (fun i i0 i1 => (hk (by omega) i i0 i1).symm) (h.2.2 q2)
    omega
  · rw [if_neg q2, if_neg q2]
    exact Int.le_refl _
theorem cvr_lt {r x c : Int} (D : DC cl kd) (hr : 0 ≤ r ∧ r < 6) (hx : vcd (cl r) x) (hc : vcd (cl r) c) (h : cvr cl kd r x c) (hk : kd r ≠ 0) (hne : x ≠ c) : wt cl kd r c < wt cl kd r x := by
  have d := D r hr.1 hr.2
  have le := cvr_last D hr hx hc h
  have : wt cl kd r c ≠ wt cl kd r x := by
    intro e
    apply hne
    refine vcd_ext hx hc (fun i i0 i1 _ => ?_)
    by_cases q : i < cl r - 1
    · exact h.1 i i0 (by unfold kwd; rw [if_neg hk]; exact q)
    · have ei : i = cl r - 1 := by omega
      rw [ei]
      unfold wt at e
      by_cases q1 : kd r = 1
      · rw [if_pos q1, if_pos q1] at e; omega
      rw [if_neg q1, if_neg q1] at e
      rw [if_pos (show kd r = 2 by omega), if_pos (show kd r = 2 by omega)] at e
      omega
  omega
theorem gro_wtx {P : Nat} {s : Int} {h h' : dm_H} (D : DC cl kd) (V : VW cl kd (cW h P)) (V' : VW cl kd (cW h' P)) (a : gro cl kd P s h h') {r x : Int} (hr : 0 ≤ r ∧ r < 6) (x0 : 0 ≤ x) : wtx cl kd (cW h P) r x ≤ wtx cl kd (cW h' P) r x := by
  obtain ⟨a1, a2, a3, a4⟩ := a r hr.1 hr.2
  unfold wtx
  show (if x < rsz h P r then wt cl kd r (rws h P r x) else 0) ≤ (if x < rsz h' P r then wt cl kd r (rws h' P r x) else 0)
  by_cases q : x < rsz h P r
  · rw [if_pos q, if_pos (by omega)]
    rcases a2 x x0 q with ⟨z, _⟩ | ⟨_, z⟩
    · rw [z]; exact Int.le_refl _
    · exact cvr_last D hr ((V' r hr.1 hr.2).2.1 x x0 (show x < rsz h' P r by omega)) ((V r hr.1 hr.2).2.1 x x0 q) z.1
  · rw [if_neg q]
    split
    · rename_i z
      have := wt_r D hr ((V' r hr.1 hr.2).2.1 x x0 z)
      exact Int.le_trans (by omega) this.1
    · exact Int.le_refl _
theorem gro_wgh {P : Nat} {s : Int} {h h' : dm_H} (D : DC cl kd) (V : VW cl kd (cW h P)) (V' : VW cl kd (cW h' P)) (a : gro cl kd P s h h') : wgh cl kd (cW h P) ≤ wgh cl kd (cW h' P) :=
  sm_le (fun r r0 r1 => sm_le (fun x x0 x1 => gro_wtx D V V' a ⟨r0, by omega⟩ x0))
theorem gro_lt {P : Nat} {s : Int} {h h' : dm_H} (D : DC cl kd) (V : VW cl kd (cW h P)) (V' : VW cl kd (cW h' P)) (a : gro cl kd P s h h') {r x : Int} (hr : 0 ≤ r ∧ r < 6) (hx : 0 ≤ x ∧ x < 32) (l : wtx cl kd (cW h P) r x < wtx cl kd (cW h' P) r x) : wgh cl kd (cW h P) < wgh cl kd (cW h' P) :=
  sm_lt (k := r) (fun r r0 r1 => sm_le (fun x x0 x1 => gro_wtx D V V' a ⟨r0, by omega⟩ x0)) hr.1 (by omega) (sm_lt (k := x) (fun x x0 x1 => gro_wtx D V V' a hr x0) hx.1 (by omega) l)
/-- what has come of putting row c of r, as new as s -/
def pt (cl kd : Int → Int) (P : Nat) (s r c b : Int) (h h' : dm_H) : Prop := (b = 0 ∨ b = 1) ∧ frP P h h' ∧ VW cl kd (cW h' P) ∧ stp_ P s h' ∧ gro cl kd P s h h' ∧ (∀ r' x, 0 ≤ r' → r' < 6 → inW (cW h' P) r' x → inW (cW h P) r' x ∨ (r' = r ∧ x = c)) ∧ (b = 0 → (h' = h ∧ cov cl kd (cW h P) r c) ∨ (h' = si h P 5 1 ∧ rsz h P r = 32 ∧ ∀ x, 0 ≤ x → x < 32 → ∃ i, 0 ≤ i ∧ i < kwd cl kd r ∧ cv i (rws h P r x) ≠ cv i c)) ∧ (b = 1 → cov cl kd (cW h' P) r c ∧ gi h' P 5 = gi h P 5 ∧ wgh cl kd (cW h P) < wgh cl kd (cW h' P)) ∧ (∀ r', 0 ≤ r' → r' < 6 → r' ≠ r → rsz h' P r' = rsz h P r' ∧ ∀ x, rws h' P r' x = rws h P r' x)
theorem s36p {d : Nat} (hd : 2 ≤ d) {h : dm_H} {P : Nat} (hp : rw_ P) {r c s : Int} (K : RK h) (hr : 0 ≤ r ∧ r < gi h 2 0) (V : VW (cK h) (gi h 4) (cW h P)) (S : stp_ P s h) (hc : vcd (cK h r) c) :
    ∃ b h', dF d 36 [dR 1 7 P, dI r, dI c, dI s] h = rI b h' ∧ pt (cK h) (gi h 4) P s r c b h h' := by
  have hn := K.1
  have hr6 : 0 ≤ r ∧ r < 6 := by omega
  obtain ⟨v1, v2, v3⟩ := V r hr6.1 hr6.2
  have v1 : 0 ≤ rsz h P r ∧ rsz h P r ≤ 32 := v1
  have v2 : ∀ x, 0 ≤ x → x < rsz h P r → vcd (cK h r) (rws h P r x) := v2
  have v3 : ∀ x y, 0 ≤ x → x < y → y < rsz h P r → ∃ i, 0 ≤ i ∧ i < kwd (cK h) (gi h 4) r ∧ cv i (rws h P r x) ≠ cv i (rws h P r y) := v3
  have hcK := RK_c K hr.1 hr.2
  have hu := ((K.2 r hr6.1 hr6.2).2 hr.2)
  have hu0 := (K.2 r hr6.1 hr6.2).1
  have hk1 : 1 ≤ gi h 5 r := by
    rw [hu.2]
    split
    · omega
    · rcases (show gi h 3 r = 1 ∨ gi h 3 r = 2 ∨ gi h 3 r = 3 by omega) with q | q | q <;> rw [q]
      · show 1 ≤ dm_unit 0 * 100; rw [dm_unit0]; omega
      · show 1 ≤ dm_unit 1 * 100; rw [dm_unit1]; omega
      · show 1 ≤ dm_unit 2 * 100; rw [dm_unit2]; omega
  have rk : rok h P r := ⟨hr6, hk1, v1, fun x x0 x1 => (v2 x x0 x1).1.1⟩
  have hkey : ∀ {y : Int}, vcd (cK h r) y → (y / gi h 5 r = c / gi h 5 r ↔ ∀ i, 0 ≤ i → i < kwd (cK h) (gi h 4) r → cv i y = cv i c) := by
    intro y hy
    have := key_iff (n := cK h r) (k := gi h 4 r) (ku := gi h 5 r) (by omega) (by rw [hcK]; exact hu.2) hy hc
    exact this
  obtain ⟨p1, p2, p3, p4⟩ := s36 hd rk c s hc.1.1
  have hrv := riv_r h P r c v1.1
  have hP : P = 95 ∨ P = 112 := hp
  have hfr : ∀ (H : dm_H) (x : Int), frP P h H → frP P h (pth H P r x c s) := by
    intro H x q
    refine ⟨fun a i q1 q2 => ?_, fun a i => q.2.1 a i, q.2.2⟩
    unfold pth
    rw [gi_sin (by omega), gi_sin (by omega), gi_sin (by omega)]
    exact q.1 a i q1 q2
  have hlat := fun r' (a : 0 ≤ r') (b : r' < 6) => (S r' a b).1
  -- a row stands at x of r now
  have hput : ∀ (H : dm_H) (x n : Int), (H = h ∧ n = rsz h P r ∧ 0 ≤ x ∧ x < n ∨ H = si h (P + 1) r (rsz h P r + 1) ∧ x = rsz h P r ∧ n = x + 1 ∧ n ≤ 32) → (∀ y, 0 ≤ y → y < rsz h P r → y ≠ x → ∃ i, 0 ≤ i ∧ i < kwd (cK h) (gi h 4) r ∧ cv i (rws h P r y) ≠ cv i c) → (x < rsz h P r → cvr (cK h) (gi h 4) r c (rws h P r x) ∧ gi h 4 r ≠ 0 ∧ c ≠ rws h P r x) →
      pt (cK h) (gi h 4) P s r c 1 h (pth H P r x c s) := by
    intro H x n hH hne hcv
    have x0 : 0 ≤ x := by omega
    have n32 : n ≤ 32 := by omega
    have xn : x < n := by omega
    have e1 : rsz (pth H P r x c s) P r = n := by
      unfold rsz pth
      rw [gi_sin (by omega), gi_sin (by omega), gi_sin (by omega)]
      rcases hH with ⟨rfl, q, _⟩ | ⟨rfl, q1, q2, _⟩
      · exact q.symm
      · rw [gi_sis]; unfold rsz at q1 ⊢; omega
    have e2 : ∀ r', 0 ≤ r' → r' < 6 → r' ≠ r → rsz (pth H P r x c s) P r' = rsz h P r' := by
      intro r' a b q
      unfold rsz pth
      rw [gi_sin (by omega), gi_sin (by omega), gi_sin (by omega)]
      rcases hH with ⟨rfl, _⟩ | ⟨rfl, _⟩
      · rfl
      · rw [gi_sij q]
    have e3 : ∀ r' y, 0 ≤ r' → r' < 6 → ¬ (r' = r ∧ y = x) → rws (pth H P r x c s) P r' y = rws h P r' y ∧ rst (pth H P r x c s) P r' y = rst h P r' y := by
      intro r' y a b q
      have hHw : rws H P r' y = rws h P r' y ∧ rst H P r' y = rst h P r' y := by
        rcases hH with ⟨rfl, _⟩ | ⟨rfl, _⟩
        · exact ⟨rfl, rfl⟩
        · unfold rws rst
          rw [gi_sin (by omega), gi_sin (by omega)]
          exact ⟨rfl, rfl⟩
      rw [← hHw.1, ← hHw.2]
      unfold rws rst pth
      constructor
      · rw [gi_sin (show P + 3 + r'.toNat ≠ P + 16 by omega), gi_sin (show P + 3 + r'.toNat ≠ P + 10 + r.toNat by omega)]
        by_cases z : r' = r
        · rw [gi_sij (fun zz => q ⟨z, zz⟩)]
        · rw [gi_sin (by omega)]
      · rw [gi_sin (show P + 10 + r'.toNat ≠ P + 16 by omega)]
        by_cases z : r' = r
        · rw [gi_sij (fun zz => q ⟨z, zz⟩), gi_sin (by omega)]
        · rw [gi_sin (show P + 10 + r'.toNat ≠ P + 10 + r.toNat by omega), gi_sin (by omega)]
    have e4 : rws (pth H P r x c s) P r x = c ∧ rst (pth H P r x c s) P r x = s := by
      unfold rws rst pth
      rw [gi_sin (by omega), gi_sin (by omega), gi_sis, gi_sin (by omega), gi_sis]
      exact ⟨rfl, rfl⟩
    have e5 : ∀ r', 0 ≤ r' → r' < 6 → gi (pth H P r x c s) (P + 16) r' = if r' = r then s else gi h (P + 16) r' := by
      intro r' a b
      unfold pth
      by_cases z : r' = r
      · rw [z, gi_sis, if_pos rfl]
      · rw [gi_sij z, gi_sin (by omega), gi_sin (by omega), if_neg z]
        rcases hH with ⟨rfl, _⟩ | ⟨rfl, _⟩
        · rfl
        · rw [gi_sin (by omega)]
    have Q : VW (cK h) (gi h 4) (cW (pth H P r x c s) P) ∧ stp_ P s (pth H P r x c s) ∧ gro (cK h) (gi h 4) P s h (pth H P r x c s) ∧ (∀ r' y, 0 ≤ r' → r' < 6 → inW (cW (pth H P r x c s) P) r' y → inW (cW h P) r' y ∨ (r' = r ∧ y = c)) := by
      refine ⟨?_, ?_, ?_, ?_⟩
      · intro r' a b
        show (0 ≤ rsz (pth H P r x c s) P r' ∧ rsz (pth H P r x c s) P r' ≤ 32) ∧ (∀ y, 0 ≤ y → y < rsz (pth H P r x c s) P r' → vcd (cK h r') (rws (pth H P r x c s) P r' y)) ∧ ∀ y z, 0 ≤ y → y < z → z < rsz (pth H P r x c s) P r' → ∃ i, 0 ≤ i ∧ i < kwd (cK h) (gi h 4) r' ∧ cv i (rws (pth H P r x c s) P r' y) ≠ cv i (rws (pth H P r x c s) P r' z)
        by_cases q : r' = r
        · rw [q, e1]
          refine ⟨by omega, fun y y0 y1 => ?_, fun y z y0 yz zn => ?_⟩
          · by_cases q2 : y = x
            · rw [q2, e4.1]; exact hc
            · rw [(e3 r y hr6.1 hr6.2 (fun z => q2 z.2)).1]
              exact v2 y y0 (by omega)
          · by_cases q2 : y = x
            · rw [q2, e4.1, (e3 r z hr6.1 hr6.2 (fun w => by omega)).1]
              obtain ⟨i, i0, i1, i2⟩ := hne z (by omega) (by omega) (by omega)
              exact ⟨i, i0, i1, fun w => i2 w.symm⟩
            · rw [(e3 r y hr6.1 hr6.2 (fun z => q2 z.2)).1]
              by_cases q3 : z = x
              · rw [q3, e4.1]
                exact hne y y0 (by omega) q2
              · rw [(e3 r z hr6.1 hr6.2 (fun z => q3 z.2)).1]
                exact v3 y z y0 yz (by omega)
        · rw [e2 r' a b q]
          obtain ⟨w1, w2, w3⟩ := V r' a b
          refine ⟨w1, fun y y0 y1 => ?_, fun y z y0 yz zn => ?_⟩
          · rw [(e3 r' y a b (fun z => q z.1)).1]
            exact w2 y y0 y1
          · rw [(e3 r' y a b (fun z => q z.1)).1, (e3 r' z a b (fun z => q z.1)).1]
            exact w3 y z y0 yz zn
      · intro r' a b
        obtain ⟨t1, t2⟩ := S r' a b
        rw [e5 r' a b]
        by_cases q : r' = r
        · subst q
          rw [if_pos rfl, e1]
          refine ⟨by omega, fun y y0 y1 => ?_⟩
          by_cases q2 : y = x
          · rw [q2, e4.2]; omega
          · rw [(e3 r' y a b (fun z => q2 z.2)).2]
            have := t2 y y0 (by omega)
            omega
        · rw [if_neg q, e2 r' a b q]
          refine ⟨t1, fun y y0 y1 => ?_⟩
          rw [(e3 r' y a b (fun z => q z.1)).2]
          exact t2 y y0 y1
      · intro r' a b
        have hl := hlat r' a b
        rw [e5 r' a b]
        by_cases q : r' = r
        · subst q
          rw [if_pos rfl, e1]
          refine ⟨by omega, fun y y0 y1 => ?_, fun y y0 y1 y2 => ?_, hl.2, Or.inr (fun w => ?_)⟩
          · by_cases q2 : y = x
            · rw [q2, e4.1, e4.2]
              obtain ⟨z1, z2, z3⟩ := hcv (by omega)
              refine Or.inr ⟨rfl, z1, ?_⟩
              have := z1.2.1
              have := z1.2.2
              unfold btr
              omega
            · exact Or.inl (e3 r' y a b (fun z => q2 z.2))
          · have : y = x := by omega
            rw [this, e4.2]
          · have w0 := w.1
            have w1 := w.2 x x0 (by omega)
            rw [e4.1] at w1
            obtain ⟨z1, z2, z3⟩ := hcv (by omega)
            exact z3 w1
        · rw [if_neg q, e2 r' a b q]
          exact ⟨Int.le_refl _, fun y y0 y1 => Or.inl (e3 r' y a b (fun z => q z.1)), fun y y0 y1 y2 => by omega, Int.le_refl _, Or.inl rfl⟩
      · rintro r' w a b ⟨y, y0, y1, y2⟩
        have y1 : y < rsz (pth H P r x c s) P r' := y1
        have y2 : rws (pth H P r x c s) P r' y = w := y2
        by_cases q : r' = r ∧ y = x
        · right
          refine ⟨q.1, ?_⟩
          rw [← y2, q.1, q.2, e4.1]
        · left
          refine ⟨y, y0, ?_, ?_⟩
          · show y < rsz h P r'
            by_cases q2 : r' = r
            · rw [q2, e1] at y1
              rw [q2]
              have : y ≠ x := fun z => q ⟨q2, z⟩
              omega
            · rw [e2 r' a b q2] at y1
              exact y1
          · show rws h P r' y = w
            rw [← y2, (e3 r' y a b q).1]
    refine ⟨Or.inr rfl, hfr H x ?_, Q.1, Q.2.1, Q.2.2.1, Q.2.2.2, fun q => by omega, fun _ => ⟨⟨c, ⟨x, x0, ?_, ?_⟩, cvr_refl _ _⟩, ?_, ?_⟩, fun r' a b q => ⟨e2 r' a b q, fun y => (e3 r' y a b (fun z => q z.1)).1⟩⟩
    · rcases hH with ⟨rfl, _⟩ | ⟨rfl, _⟩
      · exact frP_refl P _
      · exact ⟨fun a i q1 q2 => gi_sin (by omega), fun _ _ => rfl, rfl⟩
    · show x < rsz (pth H P r x c s) P r
      rw [e1]; exact xn
    · exact e4.1
    · unfold pth
      rw [gi_sin (by omega), gi_sin (by omega), gi_sin (by omega)]
      rcases hH with ⟨rfl, _⟩ | ⟨rfl, _⟩
      · rfl
      · rw [gi_sin (by omega)]
    · refine gro_lt (RK_D K) V Q.1 Q.2.2.1 hr6 (x := x) ⟨x0, by omega⟩ ?_
      unfold wtx
      show (if x < rsz h P r then wt (cK h) (gi h 4) r (rws h P r x) else 0) < (if x < rsz (pth H P r x c s) P r then wt (cK h) (gi h 4) r (rws (pth H P r x c s) P r x) else 0)
      rw [e1, if_pos xn, e4.1]
      by_cases q : x < rsz h P r
      · rw [if_pos q]
        obtain ⟨z1, z2, z3⟩ := hcv q
        exact cvr_lt (RK_D K) hr6 hc (v2 x x0 q) z1 z2 z3
      · rw [if_neg q]
        have := wt_r (RK_D K) hr6 hc
        omega
  by_cases h1 : riv h P r c = -1
  · have hno : ∀ y, 0 ≤ y → y < rsz h P r → ∃ i, 0 ≤ i ∧ i < kwd (cK h) (gi h 4) r ∧ cv i (rws h P r y) ≠ cv i c := by
      intro y y0 y1
      rcases hrv with ⟨_, q⟩ | ⟨q, _⟩
      · have hq := q y y0 y1
        by_cases z : ∃ i, 0 ≤ i ∧ i < kwd (cK h) (gi h 4) r ∧ cv i (rws h P r y) ≠ cv i c
        · exact z
        · refine absurd ((hkey (v2 y y0 y1)).mpr (fun i i0 i1 => ?_)) hq
          by_cases w : cv i (rws h P r y) = cv i c
          · exact w
          · exact absurd ⟨i, i0, i1, w⟩ z
      · omega
    by_cases h2 : rsz h P r < 32
    · exact ⟨1, _, p1 h1 h2, hput _ _ _ (Or.inr ⟨rfl, rfl, rfl, by omega⟩) (fun y y0 y1 _ => hno y y0 y1) (fun q => by omega)⟩
    · refine ⟨0, _, p2 h1 (by omega), Or.inl rfl, ⟨fun a i q1 q2 => ?_, fun _ _ => rfl, rfl⟩, ?_, ?_, ?_, ?_, fun _ => Or.inr ⟨rfl, by omega, fun x x0 x1 => hno x x0 (by omega)⟩, fun q => by omega, fun r' a b q => ⟨by unfold rsz; rw [gi_sin (by omega)], fun x => by unfold rws; rw [gi_sin (by omega)]⟩⟩
      · rw [gi_si, if_neg (fun z => q2 z)]
      · have : cW (si h P 5 1) P = cW h P := by
          unfold cW
          congr 1
          · funext r'; unfold rsz; rw [gi_sin (by omega)]
          · funext r' x; unfold rws; rw [gi_sin (by omega)]
        rw [this]; exact V
      · intro r' a b
        have := S r' a b
        unfold rsz rst at this ⊢
        refine ⟨by rw [gi_sin (by omega)]; exact this.1, fun x x0 x1 => ?_⟩
        rw [gi_sin (by omega), gi_sin (by omega)]
        rw [gi_sin (by omega)] at x1
        exact this.2 x x0 x1
      · intro r' a b
        unfold rsz rst rws
        rw [gi_sin (by omega), gi_sin (by omega)]
        refine ⟨Int.le_refl _, fun x x0 x1 => Or.inl ?_, fun x x0 x1 x2 => by omega, Int.le_refl _, Or.inl rfl⟩
        rw [gi_sin (by omega), gi_sin (by omega)]
        exact ⟨rfl, rfl⟩
      · rintro r' x a b ⟨y, y0, y1, y2⟩
        left
        refine ⟨y, y0, ?_, ?_⟩
        · have y1 : y < rsz (si h P 5 1) P r' := y1
          unfold rsz at y1
          rw [gi_sin (by omega)] at y1
          exact y1
        · have y2 : rws (si h P 5 1) P r' y = x := y2
          unfold rws at y2
          rw [gi_sin (by omega)] at y2
          exact y2
  · have hin := hrv.resolve_left (fun q => h1 q.1)
    have hky := (hkey (v2 _ hin.1.1 hin.1.2)).mp hin.2
    have hoth : ∀ y, 0 ≤ y → y < rsz h P r → y ≠ riv h P r c → ∃ i, 0 ≤ i ∧ i < kwd (cK h) (gi h 4) r ∧ cv i (rws h P r y) ≠ cv i c := by
      intro y y0 y1 y2
      rcases (show y < riv h P r c ∨ riv h P r c < y by omega) with q | q
      · obtain ⟨i, i0, i1, i2⟩ := v3 y _ y0 q hin.1.2
        exact ⟨i, i0, i1, by rw [← hky i i0 i1]; exact i2⟩
      · obtain ⟨i, i0, i1, i2⟩ := v3 _ y hin.1.1 q y1
        exact ⟨i, i0, i1, by rw [← hky i i0 i1]; exact fun z => i2 z.symm⟩
    by_cases h2 : btr (gi h 4 r) c (rws h P r (riv h P r c))
    · refine ⟨1, _, p3 h1 h2, hput h _ _ (Or.inl ⟨rfl, rfl, hin.1.1, hin.1.2⟩) hoth (fun _ => ⟨⟨fun i i0 i1 => (hky i i0 i1).symm, fun q => ?_, fun q => ?_⟩, ?_, ?_⟩)⟩
      · unfold btr at h2; omega
      · unfold btr at h2; omega
      · unfold btr at h2; omega
      · unfold btr at h2; omega
    · refine ⟨0, h, p4 h1 h2, Or.inl rfl, frP_refl P h, V, S, gro_refl P s h, fun r' x a b q => Or.inl q, fun _ => Or.inl ⟨rfl, ⟨rws h P r (riv h P r c), ⟨_, hin.1.1, hin.1.2, rfl⟩, hky, fun q => ?_, fun q => ?_⟩⟩, fun q => by omega, fun r' a b q => ⟨rfl, fun x => rfl⟩⟩
      · unfold btr at h2; omega
      · unfold btr at h2; omega
/-- where rows stay, their stamps do -/
theorem gro_old {P : Nat} {s : Int} {h h' : dm_H} (a : gro cl kd P s h h') {r : Int} (hr : 0 ≤ r ∧ r < 6) (e : ∀ x, rws h' P r x = rws h P r x) : ∀ x, 0 ≤ x → x < rsz h P r → rst h' P r x = rst h P r x := by
  intro x x0 x1
  obtain ⟨a1, a2, a3, a4⟩ := a r hr.1 hr.2
  rcases a2 x x0 x1 with ⟨_, z⟩ | ⟨_, _, z⟩
  · exact z
  · rw [e] at z
    unfold btr at z
    omega
end PUT
