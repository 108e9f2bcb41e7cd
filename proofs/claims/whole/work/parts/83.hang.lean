/-! WHAT HANGS ON WHAT -/
/-- H is all that e leads to -/
def LT (e H : Int → Int → Prop) : Prop := (∀ r q, e r q → H r q) ∧ (∀ r q s, H r q → H q s → H r s) ∧ ∀ R : Int → Int → Prop, (∀ r q, e r q → R r q) → (∀ r q s, R r q → R q s → R r s) → ∀ r q, H r q → R r q
theorem LT_eq {e e' H H' : Int → Int → Prop} (h : LT e H) (h' : LT e' H') (he : ∀ r q, e r q ↔ e' r q) : ∀ r q, H r q ↔ H' r q := fun r q => ⟨h.2.2 H' (fun r q z => h'.1 r q ((he r q).mp z)) h'.2.1 r q, h'.2.2 H (fun r q z => h.1 r q ((he r q).mpr z)) h.2.1 r q⟩
theorem LT_mono {e e' H H' : Int → Int → Prop} (h : LT e H) (h' : LT e' H') (he : ∀ r q, e r q → e' r q) : ∀ r q, H r q → H' r q := h.2.2 H' (fun r q z => h'.1 r q (he r q z)) h'.2.1
/-- one middle more -/
def WS (H : Int → Int → Prop) (m r s : Int) : Prop := H r s ∨ (H r m ∧ H m s)
/-- transitive over the middles below m -/
def TB (m : Int) (H : Int → Int → Prop) : Prop := ∀ r q s, q < m → H r q → H q s → H r s
theorem TB_s {m : Int} {H : Int → Int → Prop} (t : TB m H) : TB (m + 1) (WS H m) := by
  intro r q s hq h1 h2
  rcases (show q < m ∨ q = m by omega) with l | rfl
  · rcases h1 with a | ⟨a, b⟩ <;> rcases h2 with c | ⟨c, e⟩
    · exact Or.inl (t r q s l a c)
    · exact Or.inr ⟨t r q m l a c, e⟩
    · exact Or.inr ⟨a, t m q s l b c⟩
    · exact Or.inr ⟨a, e⟩
  · have a : H r q := by
      rcases h1 with a | ⟨a, _⟩ <;> exact a
    have b : H q s := by
      rcases h2 with b | ⟨_, b⟩ <;> exact b
    exact Or.inr ⟨a, b⟩
/-- bits of six rows -/
def bh (h : dm_H) (a : Nat) (r q : Int) : Prop := (0 ≤ r ∧ r < 6) ∧ (0 ≤ q ∧ q < 6) ∧ bt (gi h a r) q = true
def st6 (h : dm_H) (a : Nat) : Prop := ∀ r, 0 ≤ r → r < 6 → st 6 (gi h a r)
/-- rows below x of array a have the middle m -/
def WI (h : dm_H) (a : Nat) (H : Int → Int → Prop) (m x : Int) : Prop := st6 h a ∧ ∀ r q, 0 ≤ r → r < 6 → 0 ≤ q → q < 6 → (bt (gi h a r) q = true ↔ if r < x then WS H m r q else H r q)
theorem WI_0 {h : dm_H} {a : Nat} (s : st6 h a) (m : Int) : WI h a (bh h a) m 0 := ⟨s, fun r q r0 r1 q0 q1 => by rw [if_neg (by omega)]; exact ⟨fun z => ⟨⟨r0, r1⟩, ⟨q0, q1⟩, z⟩, fun z => z.2.2⟩⟩
theorem WI_m {h : dm_H} {a : Nat} {H : Int → Int → Prop} {m x : Int} (w : WI h a H m x) (m0 : 0 ≤ m ∧ m < 6) {q : Int} (q0 : 0 ≤ q) (q1 : q < 6) : bt (gi h a m) q = true ↔ H m q := by
  rw [w.2 m q m0.1 m0.2 q0 q1]
  by_cases z : m < x
  · rw [if_pos z]
    constructor
    · rintro (y | ⟨_, y⟩) <;> exact y
    · exact Or.inl
  · rw [if_neg z]
theorem WI_x {h : dm_H} {a : Nat} {H : Int → Int → Prop} {m x : Int} (w : WI h a H m x) (x0 : 0 ≤ x ∧ x < 6) (m0 : 0 ≤ m ∧ m < 6) : (bt (gi h a x) m = true → WI (si h a x (dm_or (gi h a x) (gi h a m))) a H m (x + 1)) ∧ (bt (gi h a x) m = false → WI h a H m (x + 1)) := by
  have hx : ∀ q, 0 ≤ q → q < 6 → (bt (gi h a x) q = true ↔ H x q) := fun q q0 q1 => by rw [w.2 x q x0.1 x0.2 q0 q1, if_neg (by omega)]
  constructor
  · intro hb
    have s1 := w.1 x x0.1 x0.2
    have s2 := w.1 m m0.1 m0.2
    refine ⟨fun r r0 r1 => ?_, fun r q r0 r1 q0 q1 => ?_⟩
    · rw [gi_si]
      split
      · exact st_or (by omega) s1 s2
      · exact w.1 r r0 r1
    · rw [gi_si]
      by_cases z : r = x
      · rw [if_pos ⟨rfl, z⟩, bt_or (by omega) s1 s2, Bool.or_eq_true, hx q q0 q1, WI_m w m0 q0 q1, if_pos (by omega), z]
        have := (hx m m0.1 m0.2).mp hb
        constructor
        · rintro (y | y)
          · exact Or.inl y
          · exact Or.inr ⟨this, y⟩
        · rintro (y | ⟨_, y⟩)
          · exact Or.inl y
          · exact Or.inr y
      · rw [if_neg (fun y => z y.2), w.2 r q r0 r1 q0 q1]
        by_cases y : r < x
        · rw [if_pos y, if_pos (by omega)]
        · rw [if_neg y, if_neg (by omega)]
  · intro hb
    refine ⟨w.1, fun r q r0 r1 q0 q1 => ?_⟩
    rw [w.2 r q r0 r1 q0 q1]
    by_cases z : r = x
    · rw [z, if_neg (by omega), if_pos (by omega)]
      constructor
      · exact Or.inl
      · rintro (y | ⟨y, _⟩)
        · exact y
        · have := (hx m m0.1 m0.2).mpr y
          rw [hb] at this
          cases this
    · by_cases y : r < x
      · rw [if_pos y, if_pos (by omega)]
      · rw [if_neg y, if_neg (by omega)]
/-- all middles below m are in -/
def WM (h0 h : dm_H) (a : Nat) (m : Int) : Prop := st6 h a ∧ TB m (bh h a) ∧ (∀ r q, bh h0 a r q → bh h a r q) ∧ ∀ R : Int → Int → Prop, (∀ r q, bh h0 a r q → R r q) → (∀ r q s, R r q → R q s → R r s) → ∀ r q, bh h a r q → R r q
theorem WM_0 {h : dm_H} {a : Nat} (s : st6 h a) : WM h h a 0 := ⟨s, fun r q s hq h1 _ => by have := h1.2.1.1; omega, fun _ _ z => z, fun R h1 _ r q z => h1 r q z⟩
theorem WM_s {h0 h h' : dm_H} {a : Nat} {m : Int} (w : WM h0 h a m) (m0 : 0 ≤ m ∧ m < 6) (i : WI h' a (bh h a) m 6) : WM h0 h' a (m + 1) := by
  have e : ∀ r q, bh h' a r q ↔ (0 ≤ r ∧ r < 6) ∧ (0 ≤ q ∧ q < 6) ∧ WS (bh h a) m r q := by
    intro r q
    constructor
    · rintro ⟨a1, a2, a3⟩
      have := (i.2 r q a1.1 a1.2 a2.1 a2.2).mp a3
      rw [if_pos a1.2] at this
      exact ⟨a1, a2, this⟩
    · rintro ⟨a1, a2, a3⟩
      exact ⟨a1, a2, (i.2 r q a1.1 a1.2 a2.1 a2.2).mpr (by rw [if_pos a1.2]; exact a3)⟩
  obtain ⟨w1, w2, w3, w4⟩ := w
  refine ⟨i.1, fun r q s hq h1 h2 => ?_, fun r q z => ?_, fun R h1 h2 r q z => ?_⟩
  · obtain ⟨b1, b2, b3⟩ := (e r q).mp h1
    obtain ⟨c1, c2, c3⟩ := (e q s).mp h2
    exact (e r s).mpr ⟨b1, c2, TB_s w2 r q s hq b3 c3⟩
  · have y := w3 r q z
    exact (e r q).mpr ⟨y.1, y.2.1, Or.inl y⟩
  · obtain ⟨_, _, y | ⟨y1, y2⟩⟩ := (e r q).mp z
    · exact w4 R h1 h2 r q y
    · exact h2 r m q (w4 R h1 h2 r m y1) (w4 R h1 h2 m q y2)
theorem WM_LT {h0 h : dm_H} {a : Nat} (w : WM h0 h a 6) : LT (bh h0 a) (bh h a) := ⟨w.2.2.1, fun r q s h1 h2 => w.2.1 r q s (by have := h1.2.1.2; omega) h1 h2, w.2.2.2⟩
/-- rows and bits from n on are empty -/
def emp (h : dm_H) (a : Nat) (n : Int) : Prop := ∀ r q, bh h a r q → r < n ∧ q < n
section HG
variable {h : dm_H}
theorem s110 {d : Nat} (hd : 1 ≤ d) (s : st6 h 6) {n : Int} (en : gi h 2 0 = n) (hn : 0 ≤ n ∧ n ≤ 6) (em : emp h 6 n) : ∃ h', dF d 110 [dR 1 6 2] h = rV h' ∧ (∀ a i, a ≠ 6 → gi h' a i = gi h a i) ∧ (∀ a i, gr h' a i = gr h a i) ∧ h'.2.2 = h.2.2 ∧ st6 h' 6 ∧ LT (bh h 6) (bh h' 6) ∧ emp h' 6 n := by
  have inner : ∀ (H : dm_H) (m : Int), 0 ≤ m → m < n → emp H 6 n → ∀ (k : Nat) (x : Int) (H1 : dm_H), 0 ≤ x → x + k = n → (∀ a i, a ≠ 6 → gi H1 a i = gi h a i) → (∀ a i, gr H1 a i = gr h a i) → H1.2.2 = h.2.2 → WI H1 6 (bh H 6) m x →
      ∃ H2, dL (d - 1) 110 12 [lR 1 6 2, lI m, lI x] [] H1 = dL (d - 1) 110 2 [lR 1 6 2, lI (m + 1), lI n] [] H2 ∧ (∀ a i, a ≠ 6 → gi H2 a i = gi h a i) ∧ (∀ a i, gr H2 a i = gr h a i) ∧ H2.2.2 = h.2.2 ∧ WI H2 6 (bh H 6) m 6 := by
    intro H m m0 m1 emH k
    induction k with
    | zero =>
      intro x H1 x0 xk e1 e2 e3 w
      have ex : x = n := by omega
      rw [b110_12, e1 2 0 (by decide), en, if_neg (by omega), ck_p (by omega) (by omega), ex]
      refine ⟨H1, rfl, e1, e2, e3, w.1, fun r q r0 r1 q0 q1 => ?_⟩
      rw [w.2 r q r0 r1 q0 q1, if_pos r1]
      by_cases z : r < x
      · rw [if_pos z]
      · rw [if_neg z]
        constructor
        · exact Or.inl
        · rintro (y | ⟨y, _⟩)
          · exact y
          · have := (emH r m y).1
            omega
    | succ k ih =>
      intro x H1 x0 xk e1 e2 e3 w
      have sx := w.1 x x0 (by omega)
      obtain ⟨w1, w2⟩ := WI_x w ⟨x0, by omega⟩ ⟨m0, by omega⟩
      rw [b110_12, e1 2 0 (by decide), en, if_pos (by omega), ix_p x0 (by omega)]
      by_cases z : dm_and (dm_shr (gi H1 6 x) m) 1 = 0
      · rw [if_pos z, b110_48, ck_p (by omega) (by omega)]
        exact ih (x + 1) H1 (by omega) (by omega) e1 e2 e3 (w2 ((bt_0 (by omega) sx (by omega)).mp z))
      · rw [if_neg z, ix_p x0 (by omega), ix_p m0 (by omega), ix_p x0 (by omega), b110_48, ck_p (by omega) (by omega)]
        have hb : bt (gi H1 6 x) m = true := by
          cases hq : bt (gi H1 6 x) m with
          | true => rfl
          | false => exact absurd ((bt_0 (by omega) sx (by omega)).mpr hq) z
        exact ih (x + 1) _ (by omega) (by omega) (fun a i ha => by rw [gi_sin ha]; exact e1 a i ha) (fun a i => e2 a i) e3 (w1 hb)
  have outer : ∀ (k : Nat) (m : Int) (w2 : Option dm_V) (H : dm_H), 0 ≤ m → m + k = n → (∀ a i, a ≠ 6 → gi H a i = gi h a i) → (∀ a i, gr H a i = gr h a i) → H.2.2 = h.2.2 → WM h H 6 m → emp H 6 n →
      ∃ h', dL (d - 1) 110 2 [lR 1 6 2, lI m, w2] [] H = rV h' ∧ (∀ a i, a ≠ 6 → gi h' a i = gi h a i) ∧ (∀ a i, gr h' a i = gr h a i) ∧ h'.2.2 = h.2.2 ∧ WM h h' 6 n ∧ emp h' 6 n := by
    intro k
    induction k with
    | zero =>
      intro m w2 H m0 mk e1 e2 e3 w emH
      rw [b110_2, e1 2 0 (by decide), en, if_neg (by omega)]
      rw [show m = n by omega] at w
      exact ⟨H, rfl, e1, e2, e3, w, emH⟩
    | succ k ih =>
      intro m w2 H m0 mk e1 e2 e3 w emH
      rw [b110_2, e1 2 0 (by decide), en, if_pos (by omega)]
      obtain ⟨H2, t1, t2, t3, t4, t5⟩ := inner H m m0 (by omega) emH n.toNat 0 H (by omega) (by omega) e1 e2 e3 (WI_0 w.1 m)
      rw [t1]
      refine ih (m + 1) _ H2 (by omega) (by omega) t2 t3 t4 (WM_s w (by omega) t5) (fun r q z => ?_)
      have := (t5.2 r q z.1.1 z.1.2 z.2.1.1 z.2.1.2).mp z.2.2
      rw [if_pos z.1.2] at this
      rcases this with y | ⟨y1, y2⟩
      · exact emH r q y
      · exact ⟨(emH r m y1).1, (emH m q y2).2⟩
  rw [f110 (by omega), b110_0]
  obtain ⟨h', t1, t2, t3, t4, t5, t6⟩ := outer n.toNat 0 none h (by omega) (by omega) (fun _ _ _ => rfl) (fun _ _ => rfl) rfl (WM_0 s) em
  refine ⟨h', t1, t2, t3, t4, t5.1, WM_LT ⟨t5.1, fun r q s hq h1 h2 => t5.2.1 r q s ?_ h1 h2, t5.2.2⟩, t6⟩
  exact (t6 r q h1).2
/-- rules lead from their heads to their atoms -/
def eg (RL : mU → Prop) (r q : Int) : Prop := ∃ u, RL u ∧ u.2.1 = r ∧ ∃ k, 0 ≤ k ∧ k < u.2.2.2.2 ∧ (u.2.2.2.1.1 k = 0 ∨ u.2.2.2.1.1 k = 1) ∧ u.2.2.2.1.2.1 k = q
/-- the book, as far as hanging looks at it -/
def CB (h : dm_H) : Prop := (0 ≤ gi h 13 1 ∧ gi h 13 1 ≤ 10) ∧ (0 ≤ gi h 2 0 ∧ gi h 2 0 ≤ 6) ∧ ∀ j, 0 ≤ j → j < gi h 13 1 → ru (gr h 14 j) ∧ (0 ≤ gi h (gr h 14 j) 4 ∧ gi h (gr h 14 j) 4 ≤ 4) ∧ (gi h (gr h 14 j) 1 ≠ 3 → 0 ≤ gi h (gr h 14 j) 2 ∧ gi h (gr h 14 j) 2 < gi h 2 0) ∧ ∀ k, 0 ≤ k → k < gi h (gr h 14 j) 4 → (gi h (gr h 14 j + 2) k = 0 ∨ gi h (gr h 14 j + 2) k = 1) → 0 ≤ gi h (gr h 14 j + 3) k ∧ gi h (gr h 14 j + 3) k < gi h 2 0
/-- edges of the first j rules, and of the first k literals of the next -/
def egC (h : dm_H) (j k r q : Int) : Prop := ∃ i, 0 ≤ i ∧ gi h (gr h 14 i) 1 ≠ 3 ∧ gi h (gr h 14 i) 2 = r ∧ ∃ l, 0 ≤ l ∧ l < gi h (gr h 14 i) 4 ∧ (i < j ∨ (i = j ∧ l < k)) ∧ (gi h (gr h 14 i + 2) l = 0 ∨ gi h (gr h 14 i + 2) l = 1) ∧ gi h (gr h 14 i + 3) l = q
theorem s109 {d : Nat} (hd : 2 ≤ d) (C : CB h) : ∃ h', dF d 109 [dR 1 9 13] h = rV h' ∧ (∀ a i, a ≠ 6 → gi h' a i = gi h a i) ∧ (∀ a i, gr h' a i = gr h a i) ∧ h'.2.2 = h.2.2 ∧ st6 h' 6 ∧ LT (eg (RLc h)) (bh h' 6) ∧ emp h' 6 (gi h 2 0) := by
  obtain ⟨c1, c2, c3⟩ := C
  have lits : ∀ (j : Int), 0 ≤ j → j < gi h 13 1 → ∀ (m : Nat) (k : Int) (H : dm_H), 0 ≤ k → k + m = gi h (gr h 14 j) 4 → (∀ a i, a ≠ 6 → gi H a i = gi h a i) → (∀ a i, gr H a i = gr h a i) → H.2.2 = h.2.2 → st6 H 6 → (∀ r q, bh H 6 r q ↔ egC h j k r q) →
      ∃ H', dL (d - 1) 109 30 [lR 1 9 13, lI j, lR 1 8 (gr h 14 j), lI k] [] H = dL (d - 1) 109 13 [lR 1 9 13, lI (j + 1), lR 1 8 (gr h 14 j), lI (gi h (gr h 14 j) 4)] [] H' ∧ (∀ a i, a ≠ 6 → gi H' a i = gi h a i) ∧ (∀ a i, gr H' a i = gr h a i) ∧ H'.2.2 = h.2.2 ∧ st6 H' 6 ∧ (∀ r q, bh H' 6 r q ↔ egC h (j + 1) 0 r q) := by
    intro j j0 j1 m
    obtain ⟨r1, r2, r3, r4⟩ := c3 j j0 j1
    have hru := ru_g r1
    induction m with
    | zero =>
      intro k H k0 km e1 e2 e3 s E
      have ek : k = gi h (gr h 14 j) 4 := by omega
      rw [b109_30, e1 _ 4 (by omega), if_neg (by omega), ck_p (by omega) (by omega), ek]
      refine ⟨H, rfl, e1, e2, e3, s, fun r q => ?_⟩
      rw [E]
      constructor
      · rintro ⟨i, i0, i1, i2, l, l0, l1, l2, l3⟩
        exact ⟨i, i0, i1, i2, l, l0, l1, by omega, l3⟩
      · rintro ⟨i, i0, i1, i2, l, l0, l1, l2, l3⟩
        refine ⟨i, i0, i1, i2, l, l0, l1, ?_, l3⟩
        by_cases z : i = j
        · rw [z] at l1; exact Or.inr ⟨z, by omega⟩
        · omega
    | succ m ih =>
      intro k H k0 km e1 e2 e3 s E
      have hk4 : k < 4 := by omega
      have hnext : ∀ H', dL (d - 1) 109 77 [lR 1 9 13, lI j, lR 1 8 (gr h 14 j), lI k] [] H' = dL (d - 1) 109 30 [lR 1 9 13, lI j, lR 1 8 (gr h 14 j), lI (k + 1)] [] H' := fun H' => by rw [b109_77, ck_p (by omega) (by omega)]
      have same : ¬ (gi h (gr h 14 j) 1 ≠ 3 ∧ (gi h (gr h 14 j + 2) k = 0 ∨ gi h (gr h 14 j + 2) k = 1)) → ∀ r q, bh H 6 r q ↔ egC h j (k + 1) r q := by
        intro hno r q
        rw [E]
        constructor
        · rintro ⟨i, i0, i1, i2, l, l0, l1, l2, l3⟩
          exact ⟨i, i0, i1, i2, l, l0, l1, by omega, l3⟩
        · rintro ⟨i, i0, i1, i2, l, l0, l1, l2, l3⟩
          refine ⟨i, i0, i1, i2, l, l0, l1, ?_, l3⟩
          rcases l2 with z | ⟨z1, z2⟩
          · exact Or.inl z
          · by_cases y : l = k
            · rw [z1, y] at l3
              rw [z1] at i1
              exact absurd ⟨i1, l3.1⟩ hno
            · exact Or.inr ⟨z1, by omega⟩
      rw [b109_30, e1 _ 4 (by omega), if_pos (by omega), e1 _ 1 (by omega)]
      by_cases z3 : gi h (gr h 14 j) 1 = 3
      · rw [if_pos z3, hnext]
        exact ih (k + 1) H (by omega) (by omega) e1 e2 e3 s (same (fun z => z.1 z3))
      rw [if_neg z3, s39 (by omega) _ k H (by omega), bk_v, b109_51, e1 _ k (by omega)]
      by_cases za : gi h (gr h 14 j + 2) k = 0 ∨ gi h (gr h 14 j + 2) k = 1
      · obtain ⟨q0, q1⟩ := r4 k k0 (by omega) za
        obtain ⟨p0, p1⟩ := r3 z3
        rw [bi_1 za, if_neg (by decide), e1 _ 2 (by omega), ix_p p0 (by omega), ix_p k0 (by omega), ix_p p0 (by omega), e1 _ k (by omega), hnext]
        have sr := s (gi h (gr h 14 j) 2) p0 (by omega)
        have ss : st 6 (dm_shl 1 (gi h (gr h 14 j + 3) k)) := st_shl (by omega) ⟨q0, by omega⟩
        refine ih (k + 1) _ (by omega) (by omega) (fun a i ha => by rw [gi_sin ha]; exact e1 a i ha) (fun a i => e2 a i) e3 (fun r r0 r1 => ?_) (fun r q => ?_)
        · rw [gi_si]
          split
          · exact st_or (by omega) sr ss
          · exact s r r0 r1
        · have key : bh (si H 6 (gi h (gr h 14 j) 2) (dm_or (gi H 6 (gi h (gr h 14 j) 2)) (dm_shl 1 (gi h (gr h 14 j + 3) k)))) 6 r q ↔ bh H 6 r q ∨ (r = gi h (gr h 14 j) 2 ∧ q = gi h (gr h 14 j + 3) k) := by
            unfold bh
            rw [gi_si]
            by_cases y : r = gi h (gr h 14 j) 2
            · rw [if_pos ⟨rfl, y⟩]
              constructor
              · rintro ⟨a1, a2, a3⟩
                rw [bt_or (by omega) sr ss, Bool.or_eq_true, bt_shl ⟨q0, by omega⟩ a2.1, decide_eq_true_iff] at a3
                rcases a3 with a3 | a3
                · exact Or.inl ⟨a1, a2, by rw [y]; exact a3⟩
                · exact Or.inr ⟨y, a3.symm⟩
              · rintro (⟨a1, a2, a3⟩ | ⟨_, a2⟩)
                · refine ⟨a1, a2, ?_⟩
                  rw [bt_or (by omega) sr ss, Bool.or_eq_true]
                  rw [y] at a3
                  exact Or.inl a3
                · refine ⟨by omega, by omega, ?_⟩
                  rw [bt_or (by omega) sr ss, Bool.or_eq_true, bt_shl ⟨q0, by omega⟩ (by omega), decide_eq_true_iff]
                  exact Or.inr a2.symm
            · rw [if_neg (fun w => y w.2)]
              exact ⟨Or.inl, fun w => w.resolve_right (fun v => y v.1)⟩
          rw [key, E]
          constructor
          · rintro (⟨i, i0, i1, i2, l, l0, l1, l2, l3⟩ | ⟨rfl, rfl⟩)
            · exact ⟨i, i0, i1, i2, l, l0, l1, by omega, l3⟩
            · exact ⟨j, j0, z3, rfl, k, k0, by omega, Or.inr ⟨rfl, by omega⟩, za, rfl⟩
          · rintro ⟨i, i0, i1, i2, l, l0, l1, l2, l3⟩
            by_cases y : i = j ∧ l = k
            · obtain ⟨rfl, rfl⟩ := y
              exact Or.inr ⟨i2.symm, l3.2.symm⟩
            · refine Or.inl ⟨i, i0, i1, i2, l, l0, l1, ?_, l3⟩
              rcases l2 with w | ⟨w1, w2⟩
              · exact Or.inl w
              · have : l ≠ k := fun v => y ⟨w1, v⟩
                exact Or.inr ⟨w1, by omega⟩
      · rw [bi_0 za, if_pos rfl, hnext]
        exact ih (k + 1) H (by omega) (by omega) e1 e2 e3 s (same (fun z => za z.2))
  have rules : ∀ (m : Nat) (j : Int) (H : dm_H) (w2 w3 : Option dm_V), 0 ≤ j → j + m = gi h 13 1 → (∀ a i, a ≠ 6 → gi H a i = gi h a i) → (∀ a i, gr H a i = gr h a i) → H.2.2 = h.2.2 → st6 H 6 → (∀ r q, bh H 6 r q ↔ egC h j 0 r q) →
      ∃ H' w2' w3', dL (d - 1) 109 13 [lR 1 9 13, lI j, w2, w3] [] H = dL (d - 1) 109 13 [lR 1 9 13, lI (gi h 13 1), w2', w3'] [] H' ∧ (∀ a i, a ≠ 6 → gi H' a i = gi h a i) ∧ (∀ a i, gr H' a i = gr h a i) ∧ H'.2.2 = h.2.2 ∧ st6 H' 6 ∧ (∀ r q, bh H' 6 r q ↔ egC h (gi h 13 1) 0 r q) := by
    intro m
    induction m with
    | zero =>
      intro j H w2 w3 j0 jm e1 e2 e3 s E
      rw [show j = gi h 13 1 by omega] at E ⊢
      exact ⟨H, _, _, rfl, e1, e2, e3, s, E⟩
    | succ m ih =>
      intro j H w2 w3 j0 jm e1 e2 e3 s E
      obtain ⟨H', t1, t2, t3, t4, t5, t6⟩ := lits j j0 (by omega) (gi h (gr h 14 j) 4).toNat 0 H (by omega) (by have := (c3 j j0 (by omega)).2.1; omega) e1 e2 e3 s E
      rw [b109_13, e1 13 1 (by decide), if_pos (by omega), ix_p j0 (by omega), e2, t1]
      exact ih (j + 1) H' _ _ (by omega) (by omega) t2 t3 t4 t5 t6
  rw [f109 (by omega), b109_0, s21 (by omega) 6 6 0 h (by omega), bk_n, b109_11]
  have z0 : ∀ r, 0 ≤ r → r < 6 → gi (fill h 6 ((6 : Nat) : Int) 0) 6 r = 0 := fun r r0 r1 => by rw [gi_fill, if_pos ⟨rfl, r0, by omega⟩]
  obtain ⟨H', w2', w3', t1, t2, t3, t4, t5, t6⟩ := rules (gi h 13 1).toNat 0 (fill h 6 ((6 : Nat) : Int) 0) none none (by omega) (by omega) (fun a i ha => by rw [gi_fill, if_neg (fun z => ha z.1)]) (fun _ _ => rfl) rfl (fun r r0 r1 => by rw [z0 r r0 r1]; exact st_z 6) (fun r q => by
    constructor
    · rintro ⟨a1, a2, a3⟩
      rw [z0 r a1.1 a1.2, bt_z] at a3
      cases a3
    · rintro ⟨i, i0, i1, i2, l, l0, l1, l2, l3⟩
      omega)
  have em : emp H' 6 (gi h 2 0) := by
    intro r q z
    obtain ⟨i, i0, i1, i2, l, l0, l1, l2, l3, l4⟩ := (t6 r q).mp z
    obtain ⟨_, _, c, e⟩ := c3 i i0 (by omega)
    rw [← i2, ← l4]
    exact ⟨(c i1).2, (e l l0 l1 l3).2⟩
  obtain ⟨h', u1, u2, u3, u4, u5, u6, u7⟩ := s110 (d := d - 1) (by omega) t5 (t2 2 0 (by decide)) c2 em
  rw [t1, b109_13, t2 13 1 (by decide), if_neg (by omega), u1, bk_n, b109_96]
  refine ⟨h', rfl, fun a i ha => by rw [u2 a i ha]; exact t2 a i ha, fun a i => by rw [u3]; exact t3 a i, by rw [u4]; exact t4, u5, ?_, u7⟩
  have ee : ∀ r q, bh H' 6 r q ↔ eg (RLc h) r q := by
    intro r q
    rw [t6]
    constructor
    · rintro ⟨i, i0, i1, i2, l, l0, l1, l2, l3, l4⟩
      exact ⟨uR h (gr h 14 i), ⟨i, i0, by omega, i1, rfl⟩, i2, l, l0, l1, l3, l4⟩
    · rintro ⟨u, ⟨i, i0, i1, i2, rfl⟩, i3, l, l0, l1, l3, l4⟩
      exact ⟨i, i0, i2, i3, l, l0, l1, Or.inl i1, l3, l4⟩
  exact ⟨fun r q z => u6.1 r q ((ee r q).mpr z), u6.2.1, fun R h1 h2 => u6.2.2 R (fun r q z => h1 r q ((ee r q).mp z)) h2⟩
end HG
