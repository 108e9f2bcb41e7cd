/-! FACTS: lists in order -/
abbrev mT : Type := Int × Int × Int × Int
def fL (a : Nat) (h : dm_H) : Int → mT := fun p => (gi h a p, gi h (a + 1) p, gi h (a + 2) p, gi h (a + 3) p)
def kyF (t : mT) : Int := t.1 * 1000000 + t.2.1
/-- facts lie in order -/
def FO (f : Int → mT) (n : Int) : Prop := ∀ x y, 0 ≤ x → x < y → y < n → kyF (f x) < kyF (f y)
def inF (f : Int → mT) (n : Int) (t : mT) : Prop := ∃ x, 0 ≤ x ∧ x < n ∧ f x = t
theorem FO_inj {f : Int → mT} {n x y : Int} (S : FO f n) (x0 : 0 ≤ x) (x1 : x < n) (y0 : 0 ≤ y) (y1 : y < n) (e : kyF (f x) = kyF (f y)) : x = y := by
  rcases (show x < y ∨ x = y ∨ y < x by omega) with q | q | q
  · have := S x y x0 q y1; omega
  · exact q
  · have := S y x y0 q x1; omega
/-- lists in order with the same facts are the same -/
theorem FO_eq {f g : Int → mT} {n m : Int} (hn : 0 ≤ n) (hm : 0 ≤ m) (S : FO f n) (S' : FO g m) (e : ∀ t, inF f n t ↔ inF g m t) : m = n ∧ ∀ x, 0 ≤ x → x < n → g x = f x := by
  have key : ∀ (k : Nat), (∀ x : Int, 0 ≤ x → x < k → x < n → x < m → g x = f x) := by
    intro k
    induction k with
    | zero => intro x x0 x1; omega
    | succ k ih =>
      intro x x0 x1 x2 x3
      by_cases q : x < k
      · exact ih x x0 q x2 x3
      have ex : x = k := by omega
      obtain ⟨y, y0, y1, y2⟩ := (e (f x)).mp ⟨x, x0, x2, rfl⟩
      obtain ⟨w, w0, w1, w2⟩ := (e (g x)).mpr ⟨x, x0, x3, rfl⟩
      rcases (show y < x ∨ y = x ∨ x < y by omega) with a | a | a
      · have h1 := ih y y0 (by omega) (by omega) y1
        rw [h1] at y2
        have := S y x y0 a x2
        rw [y2] at this
        omega
      · rw [a] at y2; exact y2
      · have l1 := S' x y x0 a y1
        rw [y2] at l1
        rcases (show w < x ∨ w = x ∨ x < w by omega) with b | b | b
        · have h1 := ih w w0 (by omega) w1 (by omega)
          rw [← h1] at w2
          have := S' w x w0 b x3
          rw [w2] at this
          omega
        · rw [b] at w2; exact w2.symm
        · have := S x w x0 b w1
          rw [w2] at this
          omega
  have hnm : m = n := by
    rcases (show m < n ∨ m = n ∨ n < m by omega) with a | a | a
    · obtain ⟨y, y0, y1, y2⟩ := (e (f m)).mp ⟨m, hm, a, rfl⟩
      have h1 := key (y.toNat + 1) y y0 (by omega) (by omega) y1
      have l := S y m y0 y1 a
      rw [← h1, y2] at l
      omega
    · exact a
    · obtain ⟨y, y0, y1, y2⟩ := (e (g n)).mpr ⟨n, hn, a, rfl⟩
      have h1 := key (y.toNat + 1) y y0 (by omega) y1 (by omega)
      have l := S' y n y0 y1 a
      rw [h1, y2] at l
      omega
  exact ⟨hnm, fun x x0 x1 => key (x.toNat + 1) x x0 (by omega) x1 (by omega)⟩
/-- one fact more at its place -/
theorem FO_ins {f g : Int → mT} {n p : Int} {t : mT} (S : FO f n) (hp : 0 ≤ p ∧ p ≤ n) (h1 : ∀ x, 0 ≤ x → x < p → g x = f x) (h2 : g p = t) (h3 : ∀ x, p < x → x ≤ n → g x = f (x - 1)) (l1 : ∀ x, 0 ≤ x → x < p → kyF (f x) < kyF t) (l2 : ∀ x, p ≤ x → x < n → kyF t < kyF (f x)) : FO g (n + 1) ∧ ∀ s, inF g (n + 1) s ↔ inF f n s ∨ s = t := by
  refine ⟨fun x y x0 xy y1 => ?_, fun s => ⟨?_, ?_⟩⟩
  · by_cases a : x < p
    · rw [h1 x x0 a]
      by_cases b : y < p
      · rw [h1 y (by omega) b]; exact S x y x0 xy (by omega)
      · by_cases b' : y = p
        · rw [b', h2]; exact l1 x x0 a
        · rw [h3 y (by omega) (by omega)]; exact S x (y - 1) x0 (by omega) (by omega)
    · by_cases a' : x = p
      · rw [a', h2, h3 y (by omega) (by omega)]; exact l2 (y - 1) (by omega) (by omega)
      · rw [h3 x (by omega) (by omega), h3 y (by omega) (by omega)]; exact S (x - 1) (y - 1) (by omega) (by omega) (by omega)
  · rintro ⟨x, x0, x1, rfl⟩
    by_cases a : x < p
    · exact Or.inl ⟨x, x0, by omega, (h1 x x0 a).symm⟩
    · by_cases a' : x = p
      · exact Or.inr (by rw [a', h2])
      · exact Or.inl ⟨x - 1, by omega, by omega, (h3 x (by omega) (by omega)).symm⟩
  · rintro (⟨x, x0, x1, rfl⟩ | rfl)
    · by_cases b : x < p
      · exact ⟨x, x0, by omega, h1 x x0 b⟩
      · exact ⟨x + 1, by omega, by omega, by rw [h3 (x + 1) (by omega) (by omega), show x + 1 - 1 = x by omega]⟩
    · exact ⟨p, hp.1, by omega, h2⟩
/-- one fact less -/
theorem FO_del {f g : Int → mT} {n p : Int} (S : FO f n) (hp : 0 ≤ p ∧ p < n) (h1 : ∀ x, 0 ≤ x → x < p → g x = f x) (h3 : ∀ x, p ≤ x → x < n - 1 → g x = f (x + 1)) : FO g (n - 1) ∧ ∀ s, inF g (n - 1) s ↔ inF f n s ∧ s ≠ f p := by
  refine ⟨fun x y x0 xy y1 => ?_, fun s => ⟨?_, ?_⟩⟩
  · by_cases a : x < p
    · rw [h1 x x0 a]
      by_cases b : y < p
      · rw [h1 y (by omega) b]; exact S x y x0 xy (by omega)
      · rw [h3 y (by omega) (by omega)]; exact S x (y + 1) x0 (by omega) (by omega)
    · rw [h3 x (by omega) (by omega), h3 y (by omega) (by omega)]; exact S (x + 1) (y + 1) (by omega) (by omega) (by omega)
  · rintro ⟨x, x0, x1, rfl⟩
    by_cases a : x < p
    · rw [h1 x x0 a]
      refine ⟨⟨x, x0, by omega, rfl⟩, fun e => ?_⟩
      have := S x p x0 a hp.2
      rw [e] at this; omega
    · rw [h3 x (by omega) (by omega)]
      refine ⟨⟨x + 1, by omega, by omega, rfl⟩, fun e => ?_⟩
      have := S p (x + 1) hp.1 (by omega) (by omega)
      rw [e] at this; omega
  · rintro ⟨⟨x, x0, x1, rfl⟩, hne⟩
    by_cases b : x < p
    · exact ⟨x, x0, by omega, h1 x x0 b⟩
    · have : x ≠ p := fun z => hne (by rw [z])
      exact ⟨x - 1, by omega, by omega, by rw [h3 (x - 1) (by omega) (by omega), show x - 1 + 1 = x by omega]⟩
/-- four arrays of facts, one further -/
def mov4 (h : dm_H) (a : Nat) (lo hi : Int) : dm_H := (fun b j => if (a ≤ b ∧ b ≤ a + 3) ∧ lo < j ∧ j ≤ hi then h.1 b (j - 1) else h.1 b j, h.2)
def dn4 (h : dm_H) (a : Nat) (lo hi : Int) : dm_H := (fun b j => if (a ≤ b ∧ b ≤ a + 3) ∧ lo ≤ j ∧ j < hi then h.1 b (j + 1) else h.1 b j, h.2)
def mv4 (h : dm_H) (a : Nat) (p q : Int) : dm_H := si (si (si (si h a q (gi h a p)) (a + 1) q (gi h (a + 1) p)) (a + 2) q (gi h (a + 2) p)) (a + 3) q (gi h (a + 3) p)
def st4 (h : dm_H) (a : Nat) (p x1 x2 x3 x4 : Int) : dm_H := si (si (si (si h a p x1) (a + 1) p x2) (a + 2) p x3) (a + 3) p x4
theorem gi_mov4 (h : dm_H) (a b : Nat) (lo hi j : Int) : gi (mov4 h a lo hi) b j = if (a ≤ b ∧ b ≤ a + 3) ∧ lo < j ∧ j ≤ hi then gi h b (j - 1) else gi h b j := rfl
theorem gi_dn4 (h : dm_H) (a b : Nat) (lo hi j : Int) : gi (dn4 h a lo hi) b j = if (a ≤ b ∧ b ≤ a + 3) ∧ lo ≤ j ∧ j < hi then gi h b (j + 1) else gi h b j := rfl
theorem gi_mv4 (h : dm_H) (a b : Nat) (p q j : Int) : gi (mv4 h a p q) b j = if (a ≤ b ∧ b ≤ a + 3) ∧ j = q then gi h b p else gi h b j := by
  unfold mv4
  rw [gi_si, gi_si, gi_si, gi_si]
  by_cases z : (a ≤ b ∧ b ≤ a + 3) ∧ j = q
  · rw [if_pos z]
    rcases (show b = a ∨ b = a + 1 ∨ b = a + 2 ∨ b = a + 3 by omega) with rfl | rfl | rfl | rfl
    · rw [if_neg (by omega), if_neg (by omega), if_neg (by omega), if_pos ⟨rfl, z.2⟩]
    · rw [if_neg (by omega), if_neg (by omega), if_pos ⟨rfl, z.2⟩]
    · rw [if_neg (by omega), if_pos ⟨rfl, z.2⟩]
    · rw [if_pos ⟨rfl, z.2⟩]
  · rw [if_neg z, if_neg (by omega), if_neg (by omega), if_neg (by omega), if_neg (by omega)]
theorem gi_st4 (h : dm_H) (a b : Nat) (p x1 x2 x3 x4 j : Int) : gi (st4 h a p x1 x2 x3 x4) b j = if (a ≤ b ∧ b ≤ a + 3) ∧ j = p then (if b = a then x1 else if b = a + 1 then x2 else if b = a + 2 then x3 else x4) else gi h b j := by
  unfold st4
  rw [gi_si, gi_si, gi_si, gi_si]
  by_cases z : (a ≤ b ∧ b ≤ a + 3) ∧ j = p
  · rw [if_pos z]
    rcases (show b = a ∨ b = a + 1 ∨ b = a + 2 ∨ b = a + 3 by omega) with rfl | rfl | rfl | rfl
    · rw [if_neg (by omega), if_neg (by omega), if_neg (by omega), if_pos ⟨rfl, z.2⟩, if_pos rfl]
    · rw [if_neg (by omega), if_neg (by omega), if_pos ⟨rfl, z.2⟩, if_neg (by omega), if_pos rfl]
    · rw [if_neg (by omega), if_pos ⟨rfl, z.2⟩, if_neg (by omega), if_neg (by omega), if_pos rfl]
    · rw [if_pos ⟨rfl, z.2⟩, if_neg (by omega), if_neg (by omega), if_neg (by omega)]
  · rw [if_neg z, if_neg (by omega), if_neg (by omega), if_neg (by omega), if_neg (by omega)]
theorem mH_ext {h h' : dm_H} (e1 : ∀ a i, gi h' a i = gi h a i) (e2 : h'.2 = h.2) : h' = h := by
  rcases h with ⟨h1, h2⟩
  rcases h' with ⟨h1', h2'⟩
  have e2 : h2' = h2 := e2
  subst e2
  congr 1
  funext a i
  exact e1 a i
theorem mov4_step {h : dm_H} {a : Nat} {lo hi : Int} (hl : lo ≤ hi) : mv4 (mov4 h a lo hi) a (lo - 1) lo = mov4 h a (lo - 1) hi := by
  refine mH_ext (fun b j => ?_) rfl
  rw [gi_mv4, gi_mov4, gi_mov4, gi_mov4]
  by_cases hb : a ≤ b ∧ b ≤ a + 3
  · by_cases q : j = lo
    · rw [if_pos ⟨hb, q⟩, if_neg (by omega), if_pos (by omega), q]
    · rw [if_neg (fun z => q z.2)]
      by_cases w : lo < j ∧ j ≤ hi
      · rw [if_pos ⟨hb, w⟩, if_pos (by omega)]
      · rw [if_neg (fun z => w z.2), if_neg (by omega)]
  · rw [if_neg (fun z => hb z.1), if_neg (fun z => hb z.1), if_neg (fun z => hb z.1)]
theorem mov4_e {h : dm_H} {a : Nat} {lo : Int} : mov4 h a lo lo = h := by
  refine mH_ext (fun b j => ?_) rfl
  rw [gi_mov4, if_neg (by omega)]
theorem dn4_step {h : dm_H} {a : Nat} {lo hi : Int} (hl : lo ≤ hi) : mv4 (dn4 h a lo hi) a (hi + 1) hi = dn4 h a lo (hi + 1) := by
  refine mH_ext (fun b j => ?_) rfl
  rw [gi_mv4, gi_dn4, gi_dn4, gi_dn4]
  by_cases hb : a ≤ b ∧ b ≤ a + 3
  · by_cases q : j = hi
    · rw [if_pos ⟨hb, q⟩, if_neg (by omega), if_pos (by omega), q]
    · rw [if_neg (fun z => q z.2)]
      by_cases w : lo ≤ j ∧ j < hi
      · rw [if_pos ⟨hb, w⟩, if_pos (by omega)]
      · rw [if_neg (fun z => w z.2), if_neg (by omega)]
  · rw [if_neg (fun z => hb z.1), if_neg (fun z => hb z.1), if_neg (fun z => hb z.1)]
theorem dn4_e {h : dm_H} {a : Nat} {lo : Int} : dn4 h a lo lo = h := by
  refine mH_ext (fun b j => ?_) rfl
  rw [gi_dn4, if_neg (by omega)]
theorem fL_mov4 {h : dm_H} {a : Nat} {lo hi : Int} (x : Int) : fL a (mov4 h a lo hi) x = if lo < x ∧ x ≤ hi then fL a h (x - 1) else fL a h x := by
  unfold fL
  rw [gi_mov4, gi_mov4, gi_mov4, gi_mov4]
  by_cases q : lo < x ∧ x ≤ hi
  · rw [if_pos (by omega), if_pos (by omega), if_pos (by omega), if_pos (by omega), if_pos q]
  · rw [if_neg (by omega), if_neg (by omega), if_neg (by omega), if_neg (by omega), if_neg q]
theorem fL_dn4 {h : dm_H} {a : Nat} {lo hi : Int} (x : Int) : fL a (dn4 h a lo hi) x = if lo ≤ x ∧ x < hi then fL a h (x + 1) else fL a h x := by
  unfold fL
  rw [gi_dn4, gi_dn4, gi_dn4, gi_dn4]
  by_cases q : lo ≤ x ∧ x < hi
  · rw [if_pos (by omega), if_pos (by omega), if_pos (by omega), if_pos (by omega), if_pos q]
  · rw [if_neg (by omega), if_neg (by omega), if_neg (by omega), if_neg (by omega), if_neg q]
theorem fL_mv4 {h : dm_H} {a : Nat} {p q : Int} (x : Int) : fL a (mv4 h a p q) x = if x = q then fL a h p else fL a h x := by
  unfold fL
  rw [gi_mv4, gi_mv4, gi_mv4, gi_mv4]
  by_cases z : x = q
  · rw [if_pos (by omega), if_pos (by omega), if_pos (by omega), if_pos (by omega), if_pos z]
  · rw [if_neg (by omega), if_neg (by omega), if_neg (by omega), if_neg (by omega), if_neg z]
theorem fL_st4 {h : dm_H} {a : Nat} {p x1 x2 x3 x4 : Int} (x : Int) : fL a (st4 h a p x1 x2 x3 x4) x = if x = p then (x1, x2, x3, x4) else fL a h x := by
  by_cases z : x = p
  · have c1 : gi (st4 h a p x1 x2 x3 x4) a x = x1 := by rw [gi_st4, if_pos (by omega), if_pos rfl]
    have c2 : gi (st4 h a p x1 x2 x3 x4) (a + 1) x = x2 := by rw [gi_st4, if_pos (by omega), if_neg (by omega), if_pos rfl]
    have c3 : gi (st4 h a p x1 x2 x3 x4) (a + 2) x = x3 := by rw [gi_st4, if_pos (by omega), if_neg (by omega), if_neg (by omega), if_pos rfl]
    have c4 : gi (st4 h a p x1 x2 x3 x4) (a + 3) x = x4 := by rw [gi_st4, if_pos (by omega), if_neg (by omega), if_neg (by omega), if_neg (by omega)]
    unfold fL
    rw [c1, c2, c3, c4, if_pos z]
  · unfold fL
    rw [gi_st4, gi_st4, gi_st4, gi_st4, if_neg (by omega), if_neg (by omega), if_neg (by omega), if_neg (by omega), if_neg z]
theorem fL_o {h h' : dm_H} {a : Nat} (e : ∀ b i, a ≤ b → b ≤ a + 3 → gi h' b i = gi h b i) : fL a h' = fL a h := by
  funext x
  unfold fL
  rw [e a x (by omega) (by omega), e (a + 1) x (by omega) (by omega), e (a + 2) x (by omega) (by omega), e (a + 3) x (by omega) (by omega)]
/-- where a row stands among facts; -1 if it does not -/
def fpl (f : Int → mT) (n r c : Int) : Int := fz (fun x => (f x).1 = r ∧ (f x).2.1 = c) n.toNat 0
section CF
variable {h : dm_H}
theorem s78 {d : Nat} (hd : 1 ≤ d) (r c : Int) (hn : 0 ≤ gi h 8 0 ∧ gi h 8 0 ≤ 24) : dF d 78 [dR 1 2 8, dI r, dI c] h = rI (fpl (fL 9 h) (gi h 8 0) r c) h := by
  rw [f78 (by omega), b78_0]
  refine fz_loop (P := fun x => (fL 9 h x).1 = r ∧ (fL 9 h x).2.1 = c) (Hd := fun i => dL (d - 1) 78 2 [lR 1 2 8, lI r, lI c, lI i] [] h) (r := fun x => rI x h) (N := gi h 8 0) ?_ ?_ ?_ (gi h 8 0).toNat 0 (by omega) (by omega)
  · intro i i0 i1 ⟨q1, q2⟩
    have q1 : gi h 9 i = r := q1
    have q2 : gi h 10 i = c := q2
    show dL (d - 1) 78 2 [lR 1 2 8, lI r, lI c, lI i] [] h = rI i h
    rw [b78_2, if_pos i1, ix_p i0 (by omega), if_pos q1, ix_p i0 (by omega), if_pos q2]
  · intro i i0 i1 q
    show dL (d - 1) 78 2 [lR 1 2 8, lI r, lI c, lI i] [] h = dL (d - 1) 78 2 [lR 1 2 8, lI r, lI c, lI (i + 1)] [] h
    rw [b78_2, if_pos i1, ix_p i0 (by omega), b78_32, ck_p (by omega) (by omega)]
    by_cases q1 : gi h 9 i = r
    · rw [if_pos q1, ix_p i0 (by omega), if_neg (show ¬ gi h 10 i = c from fun q2 => q ⟨q1, q2⟩)]
    · rw [if_neg q1]
  · intro i i0 i1
    show dL (d - 1) 78 2 [lR 1 2 8, lI r, lI c, lI i] [] h = rI (-1) h
    rw [b78_2, if_neg (by omega)]
theorem s79 {d : Nat} (hd : 2 ≤ d) (x1 x2 x3 x4 : Int) (hn : 0 ≤ gi h 8 0 ∧ gi h 8 0 < 24) (hc : ∀ p, 0 ≤ p → p < gi h 8 0 → 0 ≤ gi h 10 p ∧ gi h 10 p < 1000000) (hx : 0 ≤ x2 ∧ x2 < 1000000) (hne : ∀ p, 0 ≤ p → p < gi h 8 0 → ¬ (gi h 9 p = x1 ∧ gi h 10 p = x2)) (S : FO (fL 9 h) (gi h 8 0)) :
    ∃ p, (0 ≤ p ∧ p ≤ gi h 8 0) ∧ dF d 79 [dR 1 2 8, dI x1, dI x2, dI x3, dI x4] h = rV (si (st4 (mov4 h 9 p (gi h 8 0)) 9 p x1 x2 x3 x4) 8 0 (gi h 8 0 + 1)) ∧ (∀ x, 0 ≤ x → x < p → kyF (fL 9 h x) < kyF (x1, x2, x3, x4)) ∧ (∀ x, p ≤ x → x < gi h 8 0 → kyF (x1, x2, x3, x4) < kyF (fL 9 h x)) := by
  have behind : ∀ x, 0 ≤ x → x < gi h 8 0 → ((x1 < gi h 9 x ∨ (gi h 9 x = x1 ∧ x2 < gi h 10 x)) ↔ kyF (x1, x2, x3, x4) < kyF (fL 9 h x)) ∧ kyF (x1, x2, x3, x4) ≠ kyF (fL 9 h x) := by
    intro x a b
    have h1 := hc x a b
    have h2 := hne x a b
    show ((x1 < gi h 9 x ∨ (gi h 9 x = x1 ∧ x2 < gi h 10 x)) ↔ x1 * 1000000 + x2 < gi h 9 x * 1000000 + gi h 10 x) ∧ x1 * 1000000 + x2 ≠ gi h 9 x * 1000000 + gi h 10 x
    omega
  rw [f79 (by omega), b79_0, if_pos hn.2]
  have loop : ∀ (m : Nat) (y : Int), (y : Int) = m → y ≤ gi h 8 0 → (∀ x, y ≤ x → x < gi h 8 0 → kyF (x1, x2, x3, x4) < kyF (fL 9 h x)) →
      ∃ p, (0 ≤ p ∧ p ≤ gi h 8 0) ∧ dL (d - 1) 79 16 [lR 1 2 8, lI x1, lI x2, lI x3, lI x4, lI y] [] (mov4 h 9 y (gi h 8 0)) = rV (si (st4 (mov4 h 9 p (gi h 8 0)) 9 p x1 x2 x3 x4) 8 0 (gi h 8 0 + 1)) ∧ (∀ x, 0 ≤ x → x < p → kyF (fL 9 h x) < kyF (x1, x2, x3, x4)) ∧ (∀ x, p ≤ x → x < gi h 8 0 → kyF (x1, x2, x3, x4) < kyF (fL 9 h x)) := by
    intro m
    have done : ∀ (y : Int), 0 ≤ y → y ≤ gi h 8 0 → dL (d - 1) 79 50 [lR 1 2 8, lI x1, lI x2, lI x3, lI x4, lI y] [] (mov4 h 9 y (gi h 8 0)) = rV (si (st4 (mov4 h 9 y (gi h 8 0)) 9 y x1 x2 x3 x4) 8 0 (gi h 8 0 + 1)) := by
      intro y y0 y1
      have e8 : gi (st4 (mov4 h 9 y (gi h 8 0)) 9 y x1 x2 x3 x4) 8 0 = gi h 8 0 := by rw [gi_st4, if_neg (by omega), gi_mov4, if_neg (by omega)]
      rw [b79_50, ix_p y0 (by omega), ix_p y0 (by omega), ix_p y0 (by omega), ix_p y0 (by omega)]
      show dm_ck (gi (st4 (mov4 h 9 y (gi h 8 0)) 9 y x1 x2 x3 x4) 8 0 + 1) _ = _
      rw [e8, ck_p (by omega) (by omega)]
      rfl
    induction m with
    | zero =>
      intro y ym y1 l2
      rw [b79_16, if_neg (by omega), done y (by omega) y1]
      exact ⟨y, ⟨by omega, y1⟩, rfl, fun x x0 x1 => by omega, l2⟩
    | succ m ih =>
      intro y ym y1 l2
      have b1 := behind (y - 1) (by omega) (by omega)
      have e9 : gi (mov4 h 9 y (gi h 8 0)) 9 (y - 1) = gi h 9 (y - 1) := by rw [gi_mov4, if_neg (by omega)]
      have e10 : gi (mov4 h 9 y (gi h 8 0)) 10 (y - 1) = gi h 10 (y - 1) := by rw [gi_mov4, if_neg (by omega)]
      rw [b79_16, if_pos (by omega), ck_p (by omega) (by omega), s80 (by omega) (y - 1) x1 x2 _ (by omega), bk_v, b79_31, e9, e10]
      by_cases z : x1 < gi h 9 (y - 1) ∨ (gi h 9 (y - 1) = x1 ∧ x2 < gi h 10 (y - 1))
      · rw [bi_1 z, if_neg (by decide), ck_p (by omega) (by omega), s81 (by omega) (y - 1) y _ (by omega) (by omega), bk_n, b79_44, ck_p (by omega) (by omega), show mvf (mov4 h 9 y (gi h 8 0)) (y - 1) y = mv4 (mov4 h 9 y (gi h 8 0)) 9 (y - 1) y from rfl, mov4_step y1, show y + -1 = y - 1 by omega]
        refine ih (y - 1) (by omega) (by omega) (fun x x0 x1 => ?_)
        by_cases w : x = y - 1
        · rw [w]; exact b1.1.mp z
        · exact l2 x (by omega) x1
      · rw [bi_0 z, if_pos rfl, done y (by omega) y1]
        have hz := fun w => z (b1.1.mpr w)
        have hb2 := b1.2
        refine ⟨y, ⟨by omega, y1⟩, rfl, fun x x0 x1 => ?_, l2⟩
        by_cases w : x = y - 1
        · rw [w]; omega
        · have := S x (y - 1) x0 (by omega) (by omega)
          omega
  obtain ⟨p, a1, a2, a3, a4⟩ := loop (gi h 8 0).toNat (gi h 8 0) (by omega) (Int.le_refl _) (fun x x0 x1 => by omega)
  rw [mov4_e] at a2
  exact ⟨p, a1, a2, a3, a4⟩
theorem s82 {d : Nat} (hd : 2 ≤ d) {g : Int} (hg : 0 ≤ g ∧ g < gi h 8 0) (hn : gi h 8 0 ≤ 24) : dF d 82 [dR 1 2 8, dI g] h = rV (si (dn4 h 9 g (gi h 8 0 - 1)) 8 0 (gi h 8 0 - 1)) := by
  have loop : ∀ (m : Nat) (x : Int), g < x → x + m = gi h 8 0 → dL (d - 1) 82 17 [lR 1 2 8, lI g, lI x] [] (dn4 h 9 g (x - 1)) = rV (si (dn4 h 9 g (gi h 8 0 - 1)) 8 0 (gi h 8 0 - 1)) := by
    intro m
    induction m with
    | zero =>
      intro x x0 xm
      have e8 : gi (dn4 h 9 g (x - 1)) 8 0 = gi h 8 0 := by rw [gi_dn4, if_neg (by omega)]
      rw [b82_17, e8, if_neg (by omega), ck_p (by omega) (by omega), show x - 1 = gi h 8 0 - 1 by omega]
    | succ m ih =>
      intro x x0 xm
      have e8 : gi (dn4 h 9 g (x - 1)) 8 0 = gi h 8 0 := by rw [gi_dn4, if_neg (by omega)]
      have st : mv4 (dn4 h 9 g (x - 1)) 9 x (x - 1) = dn4 h 9 g (x + 1 - 1) := by
        have := dn4_step (h := h) (a := 9) (lo := g) (hi := x - 1) (by omega)
        rw [show x - 1 + 1 = x by omega] at this
        rw [this, show x + 1 - 1 = x by omega]
      rw [b82_17, e8, if_pos (by omega), ck_p (by omega) (by omega), s81 (by omega) x (x - 1) _ (by omega) (by omega), bk_n, b82_33, ck_p (by omega) (by omega), show mvf (dn4 h 9 g (x - 1)) x (x - 1) = mv4 (dn4 h 9 g (x - 1)) 9 x (x - 1) from rfl, st]
      exact ih (x + 1) (by omega) (by omega)
  have := loop (gi h 8 0 - g - 1).toNat (g + 1) (by omega) (by omega)
  rw [show g + 1 - 1 = g by omega, dn4_e] at this
  rw [f82 (by omega), b82_0, if_neg (by omega), if_pos hg.2, ck_p (by omega) (by omega), this]
/-- a fact has ended -/
def edd (t : Int) (f : mT) : Prop := f.2.2.2 ≠ -1 ∧ f.2.2.2 ≤ t
theorem s90 {d : Nat} (hd : 2 ≤ d) (t : Int) (hn : 0 ≤ gi h 8 0 ∧ gi h 8 0 ≤ 24) (S : FO (fL 9 h) (gi h 8 0)) : ∃ h' k, dF d 90 [dR 1 2 8, dI t] h = rI (gi h 8 0 - k) h' ∧ (0 ≤ k ∧ k ≤ gi h 8 0) ∧ gi h' 8 0 = k ∧ (∀ a i, ¬ (9 ≤ a ∧ a ≤ 12) → ¬ (a = 8 ∧ i = 0) → gi h' a i = gi h a i) ∧ (∀ a i, gr h' a i = gr h a i) ∧ h'.2.2 = h.2.2 ∧ FO (fL 9 h') k ∧ ∀ s, inF (fL 9 h') k s ↔ inF (fL 9 h) (gi h 8 0) s ∧ ¬ edd t s := by
  have loop : ∀ (m : Nat) (x k : Int) (H : dm_H), 0 ≤ k → k ≤ x → x + m = gi h 8 0 → (∀ a i, ¬ (9 ≤ a ∧ a ≤ 12) → gi H a i = gi h a i) → (∀ a i, gr H a i = gr h a i) → H.2.2 = h.2.2 → FO (fL 9 H) k → (∀ s, inF (fL 9 H) k s ↔ inF (fL 9 h) x s ∧ ¬ edd t s) → (∀ y, x ≤ y → fL 9 H y = fL 9 h y) →
      ∃ h' k', dL (d - 1) 90 4 [lR 1 2 8, lI t, lI k, lI x] [] H = rI (gi h 8 0 - k') h' ∧ (0 ≤ k' ∧ k' ≤ gi h 8 0) ∧ gi h' 8 0 = k' ∧ (∀ a i, ¬ (9 ≤ a ∧ a ≤ 12) → ¬ (a = 8 ∧ i = 0) → gi h' a i = gi h a i) ∧ (∀ a i, gr h' a i = gr h a i) ∧ h'.2.2 = h.2.2 ∧ FO (fL 9 h') k' ∧ ∀ s, inF (fL 9 h') k' s ↔ inF (fL 9 h) (gi h 8 0) s ∧ ¬ edd t s := by
    intro m
    induction m with
    | zero =>
      intro x k H k0 kx xm e1 e2 e3 S' I C
      have ex : x = gi h 8 0 := by omega
      rw [b90_4, e1 8 0 (by omega), if_neg (by omega), ck_p (by omega) (by omega)]
      have ef : fL 9 (si H 8 0 k) = fL 9 H := fL_o (fun b i _ _ => gi_sin (by omega))
      refine ⟨_, k, rfl, ⟨k0, by omega⟩, gi_sis, fun a i n1 n2 => by rw [gi_si, if_neg n2]; exact e1 a i n1, fun a i => e2 a i, e3, by rw [ef]; exact S', fun s => ?_⟩
      rw [ef, I, ex]
    | succ m ih =>
      intro x k H k0 kx xm e1 e2 e3 S' I C
      have hnext : ∀ k' H', dL (d - 1) 90 30 [lR 1 2 8, lI t, lI k', lI x] [] H' = dL (d - 1) 90 4 [lR 1 2 8, lI t, lI k', lI (x + 1)] [] H' := fun k' H' => by rw [b90_30, ck_p (by omega) (by omega)]
      have cx := C x (Int.le_refl _)
      have c12 : gi H 12 x = gi h 12 x := by
        have := congrArg (fun q : mT => q.2.2.2) cx
        exact this
      have hs : ∀ s, inF (fL 9 h) (x + 1) s ↔ inF (fL 9 h) x s ∨ s = fL 9 h x := by
        intro s
        constructor
        · rintro ⟨y, y0, y1, rfl⟩
          by_cases z : y = x
          · rw [z]; exact Or.inr rfl
          · exact Or.inl ⟨y, y0, by omega, rfl⟩
        · rintro (⟨y, y0, y1, rfl⟩ | rfl)
          · exact ⟨y, y0, by omega, rfl⟩
          · exact ⟨x, by omega, by omega, rfl⟩
      rw [b90_4, e1 8 0 (by omega), if_pos (by omega), s60 (by omega) x t H (by omega), bk_v, b90_18, c12]
      by_cases z : gi h 12 x ≠ -1 ∧ gi h 12 x ≤ t
      · rw [bi_1 z, if_neg (by decide), hnext]
        refine ih (x + 1) k H k0 (by omega) (by omega) e1 e2 e3 S' (fun s => ?_) (fun y y0 => C y (by omega))
        rw [I, hs]
        constructor
        · rintro ⟨a, b⟩; exact ⟨Or.inl a, b⟩
        · rintro ⟨a | rfl, b⟩
          · exact ⟨a, b⟩
          · exact absurd z b
      · have em : mvf H x k = mv4 H 9 x k := rfl
        rw [bi_0 z, if_pos rfl, s81 (by omega) x k H (by omega) (by omega), bk_n, b90_27, ck_p (by omega) (by omega), hnext, em]
        have g' : ∀ y, fL 9 (mv4 H 9 x k) y = if y = k then fL 9 h x else fL 9 H y := fun y => by rw [fL_mv4, cx]
        obtain ⟨n1, n2⟩ := FO_ins (f := fL 9 H) (g := fL 9 (mv4 H 9 x k)) (n := k) (p := k) (t := fL 9 h x) S' ⟨k0, Int.le_refl _⟩ (fun y y0 y1 => by rw [g', if_neg (by omega)]) (by rw [g', if_pos rfl]) (fun y y0 y1 => by omega) (fun y y0 y1 => by
          obtain ⟨⟨w, w0, w1, w2⟩, _⟩ := (I (fL 9 H y)).mp ⟨y, y0, y1, rfl⟩
          rw [← w2]
          exact S w x w0 w1 (by omega)) (fun y y0 y1 => by omega)
        refine ih (x + 1) (k + 1) _ (by omega) (by omega) (by omega) (fun a i n => by rw [gi_mv4, if_neg (by omega)]; exact e1 a i n) (fun a i => e2 a i) e3 n1 (fun s => ?_) (fun y y0 => by rw [g', if_neg (by omega)]; exact C y (by omega))
        rw [n2, I, hs]
        constructor
        · rintro (⟨a, b⟩ | rfl)
          · exact ⟨Or.inl a, b⟩
          · exact ⟨Or.inr rfl, z⟩
        · rintro ⟨a | a, b⟩
          · exact Or.inl ⟨a, b⟩
          · exact Or.inr a
  rw [f90 (by omega), b90_0]
  exact loop (gi h 8 0).toNat 0 0 h (by omega) (by omega) (by omega) (fun _ _ _ => rfl) (fun _ _ => rfl) rfl (fun x y x0 xy y1 => by omega) (fun s => ⟨fun ⟨x, x0, x1, _⟩ => by omega, fun ⟨⟨x, x0, x1, _⟩, _⟩ => by omega⟩) (fun _ _ => rfl)
end CF
