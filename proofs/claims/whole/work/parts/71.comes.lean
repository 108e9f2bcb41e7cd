/-! THE REFERENCE PUTS A ROW: comes; and copies -/
/-- the rows of the next round -/
def nW (h : dm_H) : mW := (fun r => gi h 180 r, fun r x => gi h 179 (40 * r + x))
/-- what comes touches -/
def frN (h h' : dm_H) : Prop := (∀ a i, a ≠ 179 → a ≠ 180 → ¬ (a = 165 ∧ i = 27) → gi h' a i = gi h a i) ∧ (∀ a i, gr h' a i = gr h a i) ∧ h'.2.2 = h.2.2
theorem frN_refl (h : dm_H) : frN h h := ⟨fun _ _ _ _ _ => rfl, fun _ _ => rfl, rfl⟩
theorem frN_trans {h h1 h2 : dm_H} (a : frN h h1) (b : frN h1 h2) : frN h h2 := ⟨fun c i p q r => by rw [b.1 c i p q r, a.1 c i p q r], fun c i => by rw [b.2.1, a.2.1], by rw [b.2.2, a.2.2]⟩
theorem s187 {d : Nat} (hd : 1 ≤ d) {h : dm_H} {r c n : Int} (hr : 0 ≤ r ∧ r < 6) (e6 : gi h 166 r = n) (hn : 1 ≤ n ∧ n ≤ 3) (hc : vcd n c) : dF d 187 [dR 1 11 165, dI r, dI c] h = rI (c / (dm_unit (n - 1) * 100)) h := by
  have hc1 := hc.1
  rw [f187 hd, b187_0, ix_p hr.1 hr.2, e6]
  rcases (show n = 1 ∨ n = 2 ∨ n = 3 by omega) with e | e | e
  · rw [if_pos e, b187_36, e, show dm_unit (1 - 1) = 10000 from dm_unit0, show c / (10000 * 100) = 0 by omega]
  · rw [if_neg (by omega), ix_p hr.1 hr.2, if_pos e, if_pos (by omega), b187_36, e, show dm_unit (2 - 1) = 100 from dm_unit1]
    rfl
  · rw [if_neg (by omega), ix_p hr.1 hr.2, if_neg (by omega), if_pos (by omega), b187_36, e, show dm_unit (3 - 1) = 1 from dm_unit2]
    rfl
/-- cells of a one further, from lo to hi -/
def mov (h : dm_H) (a : Nat) (lo hi : Int) : dm_H := (fun b j => if b = a ∧ lo < j ∧ j ≤ hi then h.1 a (j - 1) else h.1 b j, h.2)
theorem gi_mov (h : dm_H) (a b : Nat) (lo hi j : Int) : gi (mov h a lo hi) b j = if b = a ∧ lo < j ∧ j ≤ hi then gi h a (j - 1) else gi h b j := rfl
theorem gr_mov (h : dm_H) (a b : Nat) (lo hi j : Int) : gr (mov h a lo hi) b j = gr h b j := rfl
theorem mov_step {h : dm_H} {a : Nat} {lo hi : Int} (hl : lo ≤ hi) : si (mov h a lo hi) a lo (gi (mov h a lo hi) a (lo - 1)) = mov h a (lo - 1) hi := by
  unfold si mov
  congr 1
  funext b j
  show (if b = a ∧ j = lo then (if a = a ∧ lo < lo - 1 ∧ lo - 1 ≤ hi then h.1 a (lo - 1 - 1) else h.1 a (lo - 1)) else if b = a ∧ lo < j ∧ j ≤ hi then h.1 a (j - 1) else h.1 b j) = if b = a ∧ lo - 1 < j ∧ j ≤ hi then h.1 a (j - 1) else h.1 b j
  rw [if_neg (show ¬ (a = a ∧ lo < lo - 1 ∧ lo - 1 ≤ hi) by omega)]
  by_cases hb : b = a
  · by_cases q : j = lo
    · rw [if_pos ⟨hb, q⟩, if_pos (by omega), q]
    · rw [if_neg (fun z => q z.2)]
      by_cases w : lo < j ∧ j ≤ hi
      · rw [if_pos ⟨hb, w⟩, if_pos (by omega)]
      · rw [if_neg (fun z => w z.2), if_neg (by omega)]
  · rw [if_neg (fun z => hb z.1), if_neg (fun z => hb z.1), if_neg (fun z => hb z.1)]
theorem mov_e {h : dm_H} {a : Nat} {lo : Int} : mov h a lo lo = h := by
  rcases h with ⟨h1, h2⟩
  unfold mov
  congr 1
  funext b j
  exact if_neg (by omega)
section COMES
variable {cl kd : Int → Int}
theorem s186 {d : Nat} (hd : 2 ≤ d) (D : DC cl kd) {h : dm_H} {r c : Int} (hr : 0 ≤ r ∧ r < 6) (e6 : gi h 166 r = cl r) (e7 : gi h 167 r = kd r) (V : VW cl kd (nW h)) (S : SRT (nW h)) (hc : vcd (cl r) c) :
    ∃ b h', dF d 186 [dR 1 11 165, dI r, dI c] h = rI b h' ∧ frN h h' ∧ ((b = 0 ∧ h' = h ∧ cov cl kd (nW h) r c) ∨ (b = 0 ∧ h' = si h 165 27 1 ∧ (nW h).1 r = 32 ∧ ∀ x, 0 ≤ x → x < 32 → ∃ i, 0 ≤ i ∧ i < kwd cl kd r ∧ cv i ((nW h).2 r x) ≠ cv i c) ∨ (b = 1 ∧ gi h' 165 27 = gi h 165 27 ∧ nwr cl kd r c (nW h) (nW h'))) := by
  obtain ⟨d1, d2⟩ := D r hr.1 hr.2
  obtain ⟨v1, v2, v3⟩ := V r hr.1 hr.2
  have s1 := S r hr.1 hr.2
  have v1 : 0 ≤ gi h 180 r ∧ gi h 180 r ≤ 32 := v1
  have v2 : ∀ x, 0 ≤ x → x < gi h 180 r → vcd (cl r) (gi h 179 (40 * r + x)) := v2
  have s1 : ∀ x y, 0 ≤ x → x < y → y < gi h 180 r → gi h 179 (40 * r + x) < gi h 179 (40 * r + y) := s1
  rw [f186 (by omega), b186_0]
  have loop : ∀ (m : Nat) (k p : Int) (w5 w6 : Option dm_V), 0 ≤ k → k + m = gi h 180 r → 0 ≤ p → p ≤ k → (∀ x, 0 ≤ x → x < k → ∃ i, 0 ≤ i ∧ i < kwd cl kd r ∧ cv i (gi h 179 (40 * r + x)) ≠ cv i c) → (∀ x, 0 ≤ x → x < p → gi h 179 (40 * r + x) < c) → (∀ x, p ≤ x → x < k → c < gi h 179 (40 * r + x)) →
      ∃ b h', dL (d - 1) 186 5 [lR 1 11 165, lI r, lI c, lI p, lI k, w5, w6] [] h = rI b h' ∧ frN h h' ∧ ((b = 0 ∧ h' = h ∧ cov cl kd (nW h) r c) ∨ (b = 0 ∧ h' = si h 165 27 1 ∧ (nW h).1 r = 32 ∧ ∀ x, 0 ≤ x → x < 32 → ∃ i, 0 ≤ i ∧ i < kwd cl kd r ∧ cv i ((nW h).2 r x) ≠ cv i c) ∨ (b = 1 ∧ gi h' 165 27 = gi h 165 27 ∧ nwr cl kd r c (nW h) (nW h'))) := by
    intro m
    induction m with
    | zero =>
      intro k p w5 w6 k0 km p0 pk hk hl hg
      have ek : k = gi h 180 r := by omega
      rw [b186_5, ix_p hr.1 hr.2, if_neg (by omega), ix_p hr.1 hr.2]
      by_cases q : gi h 180 r = 32
      · rw [if_pos q]
        exact ⟨0, _, rfl, ⟨fun a i _ _ z => by rw [gi_si, if_neg z], fun _ _ => rfl, rfl⟩, Or.inr (Or.inl ⟨rfl, rfl, q, fun x x0 x1 => hk x x0 (by omega)⟩)⟩
      rw [if_neg q, ix_p hr.1 hr.2]
      have shift : ∀ (m : Nat) (y : Int), p ≤ y → p + m = y → y ≤ gi h 180 r → dL (d - 1) 186 173 [lR 1 11 165, lI r, lI c, lI p, lI y, w5, w6] [] (mov h 179 (40 * r + y) (40 * r + gi h 180 r)) = dL (d - 1) 186 173 [lR 1 11 165, lI r, lI c, lI p, lI p, w5, w6] [] (mov h 179 (40 * r + p) (40 * r + gi h 180 r)) := by
        intro m
        induction m with
        | zero => intro y y0 ym y1; rw [show y = p by omega]
        | succ m ih =>
          intro y y0 ym y1
          rw [b186_173, if_pos (by omega), ck_p (by omega) (by omega), ck_p (by omega) (by omega), ck_p (by omega) (by omega), ck_p (by omega) (by omega), ck_p (by omega) (by omega), ix_p (by omega) (by omega), ix_p (by omega) (by omega), ck_p (by omega) (by omega), mov_step (by omega), show y + -1 = y - 1 by omega, show 40 * r + y - 1 = 40 * r + (y - 1) by omega]
          exact ih (y - 1) (by omega) (by omega) (by omega)
      have sh := shift (gi h 180 r - p).toNat (gi h 180 r) (by omega) (by omega) (by omega)
      rw [mov_e] at sh
      rw [sh, b186_173, if_neg (by omega), ck_p (by omega) (by omega), ck_p (by omega) (by omega), ix_p (by omega) (by omega), ix_p hr.1 hr.2]
      have g180 : ∀ j, gi (si (mov h 179 (40 * r + p) (40 * r + gi h 180 r)) 179 (40 * r + p) c) 180 j = gi h 180 j := fun j => by
        rw [gi_sin (by decide), gi_mov, if_neg (by omega)]
      rw [g180, ck_p (by omega) (by omega), ix_p hr.1 hr.2]
      refine ⟨1, _, rfl, ⟨fun a i n1 n2 n3 => by rw [gi_sin n2, gi_sin n1, gi_mov, if_neg (fun z => n1 z.1)], fun _ _ => rfl, rfl⟩, Or.inr (Or.inr ⟨rfl, by rw [gi_sin (by decide), gi_sin (by decide), gi_mov, if_neg (by omega)], nwr_e hr (ins_nwr D V S hr (p := p) (show gi h 180 r < 32 by omega) ⟨p0, show p ≤ gi h 180 r by omega⟩ hc (fun x x0 x1 => hk x x0 (show x < k by have : x < gi h 180 r := x1; omega)) hl (fun x x0 x1 => hg x x0 (show x < k by have : x < gi h 180 r := x1; omega))) ?_⟩)⟩
      intro q q0 q1
      have vq : 0 ≤ gi h 180 q ∧ gi h 180 q ≤ 32 := (V q q0 q1).1
      have t1 : (nW (si (si (mov h 179 (40 * r + p) (40 * r + gi h 180 r)) 179 (40 * r + p) c) 180 r (gi h 180 r + 1))).1 q = if q = r then gi h 180 r + 1 else gi h 180 q := by
        show gi (si (si (mov h 179 (40 * r + p) (40 * r + gi h 180 r)) 179 (40 * r + p) c) 180 r (gi h 180 r + 1)) 180 q = _
        by_cases z : q = r
        · rw [z, gi_sis, if_pos rfl]
        · rw [gi_sij z, g180, if_neg z]
      refine ⟨t1, fun x x0 x1 => ?_⟩
      have x1 : x < if q = r then gi h 180 r + 1 else gi h 180 q := x1
      show gi (si (si (mov h 179 (40 * r + p) (40 * r + gi h 180 r)) 179 (40 * r + p) c) 180 r (gi h 180 r + 1)) 179 (40 * q + x) = if q = r then (if x < p then gi h 179 (40 * r + x) else if x = p then c else gi h 179 (40 * r + (x - 1))) else gi h 179 (40 * q + x)
      rw [gi_sin (by decide), gi_si, gi_mov]
      by_cases z : q = r
      · subst z
        rw [if_pos rfl] at x1 ⊢
        by_cases a : x < p
        · rw [if_pos a, if_neg (by omega), if_neg (by omega)]
        · rw [if_neg a]
          by_cases b : x = p
          · rw [if_pos b, if_pos (by omega)]
          · rw [if_neg b, if_neg (by omega), if_pos (by omega)]; exact congrArg (gi h 179) (by omega)
      · rw [if_neg z] at x1
        rw [if_neg z, if_neg (by omega), if_neg (by omega)]
    | succ m ih =>
      intro k p w5 w6 k0 km p0 pk hk hl hg
      have hkn : k < gi h 180 r := by omega
      have vk := v2 k k0 hkn
      rw [b186_5, ix_p hr.1 hr.2, if_pos hkn, ck_p (by omega) (by omega), ck_p (by omega) (by omega), ix_p (by omega) (by omega)]
      by_cases q : gi h 179 (40 * r + k) = c
      · rw [if_pos q]
        exact ⟨0, h, rfl, frN_refl h, Or.inl ⟨rfl, rfl, cov_in ⟨k, k0, hkn, q⟩⟩⟩
      rw [if_neg q, ix_p hr.1 hr.2, e7]
      have next : (∃ i, 0 ≤ i ∧ i < kwd cl kd r ∧ cv i (gi h 179 (40 * r + k)) ≠ cv i c) → ∃ b h', dL (d - 1) 186 126 [lR 1 11 165, lI r, lI c, lI p, lI k, lI (gi h 179 (40 * r + k)), w6] [] h = rI b h' ∧ frN h h' ∧ ((b = 0 ∧ h' = h ∧ cov cl kd (nW h) r c) ∨ (b = 0 ∧ h' = si h 165 27 1 ∧ (nW h).1 r = 32 ∧ ∀ x, 0 ≤ x → x < 32 → ∃ i, 0 ≤ i ∧ i < kwd cl kd r ∧ cv i ((nW h).2 r x) ≠ cv i c) ∨ (b = 1 ∧ gi h' 165 27 = gi h 165 27 ∧ nwr cl kd r c (nW h) (nW h'))) := by
        intro hd'
        have hk' : ∀ x, 0 ≤ x → x < k + 1 → ∃ i, 0 ≤ i ∧ i < kwd cl kd r ∧ cv i (gi h 179 (40 * r + x)) ≠ cv i c := by
          intro x x0 x1
          by_cases z : x = k
          · rw [z]; exact hd'
          · exact hk x x0 (by omega)
        rw [b186_126]
        by_cases z : gi h 179 (40 * r + k) < c
        · rw [if_pos z, ck_p (by omega) (by omega), b186_140, ck_p (by omega) (by omega)]
          refine ih (k + 1) (k + 1) _ _ (by omega) (by omega) (by omega) (by omega) hk' (fun x x0 x1 => ?_) (fun x x0 x1 => by omega)
          by_cases w : x = k
          · rw [w]; exact z
          · have := s1 x k x0 (by omega) hkn
            omega
        · rw [if_neg z, b186_140, ck_p (by omega) (by omega)]
          refine ih (k + 1) p _ _ (by omega) (by omega) (by omega) (by omega) hk' hl (fun x x0 x1 => ?_)
          by_cases w : x = k
          · rw [w]; omega
          · exact hg x x0 (by omega)
      by_cases hk0 : kd r = 0
      · rw [if_pos hk0]
        refine next ?_
        by_cases w : ∃ i, 0 ≤ i ∧ i < kwd cl kd r ∧ cv i (gi h 179 (40 * r + k)) ≠ cv i c
        · exact w
        · refine absurd (vcd_ext vk hc (fun i i0 i1 _ => ?_)) q
          by_cases y : cv i (gi h 179 (40 * r + k)) = cv i c
          · exact y
          · exact absurd ⟨i, i0, by unfold kwd; rw [if_pos hk0]; exact i1, y⟩ w
      rw [if_neg hk0, s187 (by omega) hr e6 d1 vk, bk_v, b186_54, s187 (by omega) hr e6 d1 hc, bk_v, b186_60]
      have kiff := key_iff (n := cl r) (k := kd r) (ku := dm_unit (cl r - 1) * 100) (c := gi h 179 (40 * r + k)) (c' := c) d1 (by rw [if_neg hk0]) vk hc
      have ekw : kwd cl kd r = cl r - 1 := if_neg hk0
      rw [if_neg hk0] at kiff
      by_cases z : c / (dm_unit (cl r - 1) * 100) = gi h 179 (40 * r + k) / (dm_unit (cl r - 1) * 100)
      case neg =>
        rw [if_neg (by omega)]
        refine next ?_
        by_cases w : ∃ i, 0 ≤ i ∧ i < kwd cl kd r ∧ cv i (gi h 179 (40 * r + k)) ≠ cv i c
        · exact w
        · refine absurd (kiff.mpr (fun i i0 i1 => ?_)).symm z
          by_cases y : cv i (gi h 179 (40 * r + k)) = cv i c
          · exact y
          · exact absurd ⟨i, i0, by rw [ekw]; exact i1, y⟩ w
      rw [if_pos (by omega), ix_p hr.1 hr.2, e7]
      have ke := kiff.mp z.symm
      have keep : ∀ w3 w6', ¬ btr (kd r) c (gi h 179 (40 * r + k)) → ∃ b h', dL (d - 1) 186 98 [lR 1 11 165, lI r, lI c, w3, lI k, lI (gi h 179 (40 * r + k)), w6'] [dI 0] h = rI b h' ∧ frN h h' ∧ ((b = 0 ∧ h' = h ∧ cov cl kd (nW h) r c) ∨ (b = 0 ∧ h' = si h 165 27 1 ∧ (nW h).1 r = 32 ∧ ∀ x, 0 ≤ x → x < 32 → ∃ i, 0 ≤ i ∧ i < kwd cl kd r ∧ cv i ((nW h).2 r x) ≠ cv i c) ∨ (b = 1 ∧ gi h' 165 27 = gi h 165 27 ∧ nwr cl kd r c (nW h) (nW h'))) := by
        intro w3 w6' hb
        rw [b186_98, ck_p (by omega) (by omega), ck_p (by omega) (by omega), if_pos rfl, b186_122, ix_p (by omega) (by omega), z1_p (Or.inl rfl), si_same rfl]
        exact ⟨0, h, rfl, frN_refl h, Or.inl ⟨rfl, rfl, ⟨gi h 179 (40 * r + k), ⟨k, k0, hkn, rfl⟩, fun i i0 i1 => ke i i0 (by omega), fun y => by unfold btr at hb; omega, fun y => by unfold btr at hb; omega⟩⟩⟩
      have set1 : ∀ w3 w6', btr (kd r) c (gi h 179 (40 * r + k)) → ∃ b h', dL (d - 1) 186 98 [lR 1 11 165, lI r, lI c, w3, lI k, lI (gi h 179 (40 * r + k)), w6'] [dI 1] h = rI b h' ∧ frN h h' ∧ ((b = 0 ∧ h' = h ∧ cov cl kd (nW h) r c) ∨ (b = 0 ∧ h' = si h 165 27 1 ∧ (nW h).1 r = 32 ∧ ∀ x, 0 ≤ x → x < 32 → ∃ i, 0 ≤ i ∧ i < kwd cl kd r ∧ cv i ((nW h).2 r x) ≠ cv i c) ∨ (b = 1 ∧ gi h' 165 27 = gi h 165 27 ∧ nwr cl kd r c (nW h) (nW h'))) := by
        intro w3 w6' hb
        rw [b186_98, ck_p (by omega) (by omega), ck_p (by omega) (by omega), if_neg (by decide), b186_122, ix_p (by omega) (by omega), z1_p (Or.inr rfl)]
        refine ⟨1, _, rfl, ⟨fun a i n1 n2 n3 => gi_sin n1, fun _ _ => rfl, rfl⟩, Or.inr (Or.inr ⟨rfl, gi_sin (by decide), nwr_e hr (rep_nwr D V S hr (p := k) ⟨k0, hkn⟩ hc hk0 (fun i i0 i1 => ke i i0 (by omega)) hb) ?_⟩)⟩
        intro q q0 q1
        have vq : 0 ≤ gi h 180 q ∧ gi h 180 q ≤ 32 := (V q q0 q1).1
        refine ⟨show gi (si h 179 (40 * r + k) c) 180 q = gi h 180 q from gi_sin (by decide), fun x x0 x1 => ?_⟩
        have x1 : x < gi h 180 q := x1
        show gi (si h 179 (40 * r + k) c) 179 (40 * q + x) = if q = r ∧ x = k then c else gi h 179 (40 * q + x)
        rw [gi_si]
        by_cases y : q = r ∧ x = k
        · rw [if_pos y, if_pos (by omega)]
        · rw [if_neg y, if_neg (by omega)]
      by_cases k1 : kd r = 1
      · rw [if_pos k1]
        by_cases l : c < gi h 179 (40 * r + k)
        · rw [if_pos l]; exact set1 _ _ (Or.inl ⟨k1, l⟩)
        · rw [if_neg l]; exact keep _ _ (by unfold btr; omega)
      · rw [if_neg k1]
        by_cases l : gi h 179 (40 * r + k) < c
        · rw [if_pos l]; exact set1 _ _ (Or.inr ⟨by omega, l⟩)
        · rw [if_neg l]; exact keep _ _ (by unfold btr; omega)
  exact loop (gi h 180 r).toNat 0 0 none none (by omega) (by omega) (by omega) (by omega) (fun x x0 x1 => by omega) (fun x x0 x1 => by omega) (fun x x0 x1 => by omega)
end COMES
/-- six relations' rows are copied -/
def cpy (a1 a2 a3 a4 : Nat) (h h' : dm_H) : Prop := (∀ b i, b ≠ a3 → b ≠ a4 → gi h' b i = gi h b i) ∧ (∀ b i, gr h' b i = gr h b i) ∧ h'.2.2 = h.2.2 ∧ ∀ r, 0 ≤ r → r < 6 → gi h' a4 r = gi h a2 r ∧ ∀ x, 0 ≤ x → x < gi h a2 r → gi h' a3 (40 * r + x) = gi h a1 (40 * r + x)
theorem s175 {d : Nat} (hd : 1 ≤ d) (h : dm_H) {a1 a2 a3 a4 : Nat} (n1 : a1 ≠ a3) (n2 : a1 ≠ a4) (n3 : a2 ≠ a3) (n4 : a2 ≠ a4) (n5 : a3 ≠ a4) (hz : ∀ r, 0 ≤ r → r < 6 → 0 ≤ gi h a2 r ∧ gi h a2 r ≤ 32) : ∃ h', dF d 175 [dR 1 11 165, dR 2 240 a1, dR 2 6 a2, dR 2 240 a3, dR 2 6 a4] h = rV h' ∧ cpy a1 a2 a3 a4 h h' := by
  rw [f175 hd, b175_0]
  have inner : ∀ (r : Int), 0 ≤ r → r < 6 → ∀ (m : Nat) (x : Int) (H : dm_H), 0 ≤ x → x + m = gi h a2 r → (∀ b i, b ≠ a3 → b ≠ a4 → gi H b i = gi h b i) → (∀ b i, gr H b i = gr h b i) → H.2.2 = h.2.2 → (∀ q, 0 ≤ q → q ≤ r → gi H a4 q = gi h a2 q) → (∀ q, 0 ≤ q → q < r → ∀ y, 0 ≤ y → y < gi h a2 q → gi H a3 (40 * q + y) = gi h a1 (40 * q + y)) → (∀ y, 0 ≤ y → y < x → gi H a3 (40 * r + y) = gi h a1 (40 * r + y)) →
      ∃ H', dL (d - 1) 175 22 [lR 1 11 165, lR 2 240 a1, lR 2 6 a2, lR 2 240 a3, lR 2 6 a4, lI r, lI x] [] H = dL (d - 1) 175 3 [lR 1 11 165, lR 2 240 a1, lR 2 6 a2, lR 2 240 a3, lR 2 6 a4, lI (r + 1), lI (gi h a2 r)] [] H' ∧ (∀ b i, b ≠ a3 → b ≠ a4 → gi H' b i = gi h b i) ∧ (∀ b i, gr H' b i = gr h b i) ∧ H'.2.2 = h.2.2 ∧ (∀ q, 0 ≤ q → q ≤ r → gi H' a4 q = gi h a2 q) ∧ (∀ q, 0 ≤ q → q < r + 1 → ∀ y, 0 ≤ y → y < gi h a2 q → gi H' a3 (40 * q + y) = gi h a1 (40 * q + y)) := by
    intro r r0 r1 m
    have zr := hz r r0 r1
    induction m with
    | zero =>
      intro x H x0 xm e1 e2 e3 e4 e5 e6
      have ex : x = gi h a2 r := by omega
      rw [b175_22, ix_p r0 r1, e1 a2 r n3 n4, if_neg (by omega), ck_p (by omega) (by omega), ex]
      refine ⟨H, rfl, e1, e2, e3, e4, fun q q0 q1 y y0 y1 => ?_⟩
      by_cases z : q = r
      · rw [z] at y1 ⊢; exact e6 y y0 (by omega)
      · exact e5 q q0 (by omega) y y0 y1
    | succ m ih =>
      intro x H x0 xm e1 e2 e3 e4 e5 e6
      rw [b175_22, ix_p r0 r1, e1 a2 r n3 n4, if_pos (by omega), ck_p (by omega) (by omega), ck_p (by omega) (by omega), ck_p (by omega) (by omega), ck_p (by omega) (by omega), ix_p (by omega) (by omega), ix_p (by omega) (by omega), ck_p (by omega) (by omega)]
      refine ih (x + 1) _ (by omega) (by omega) (fun b i b1 b2 => by rw [gi_sin b1]; exact e1 b i b1 b2) (fun b i => e2 b i) e3 (fun q q0 q1 => by rw [gi_sin (Ne.symm n5)]; exact e4 q q0 q1) (fun q q0 q1 y y0 y1 => ?_) (fun y y0 y1 => ?_)
      · have zq := hz q q0 (by omega)
        rw [gi_sij (by omega)]; exact e5 q q0 q1 y y0 y1
      · by_cases z : y = x
        · rw [z, gi_sis, e1 a1 _ n1 n2]
        · rw [gi_sij (by omega)]; exact e6 y y0 (by omega)
  have outer : ∀ (m : Nat) (r : Int) (w6 : Option dm_V) (H : dm_H), 0 ≤ r → r + m = 6 → (∀ b i, b ≠ a3 → b ≠ a4 → gi H b i = gi h b i) → (∀ b i, gr H b i = gr h b i) → H.2.2 = h.2.2 → (∀ q, 0 ≤ q → q < r → gi H a4 q = gi h a2 q) → (∀ q, 0 ≤ q → q < r → ∀ y, 0 ≤ y → y < gi h a2 q → gi H a3 (40 * q + y) = gi h a1 (40 * q + y)) →
      ∃ h', dL (d - 1) 175 3 [lR 1 11 165, lR 2 240 a1, lR 2 6 a2, lR 2 240 a3, lR 2 6 a4, lI r, w6] [] H = rV h' ∧ cpy a1 a2 a3 a4 h h' := by
    intro m
    induction m with
    | zero =>
      intro r w6 H r0 rm e1 e2 e3 e4 e5
      rw [b175_3, if_neg (by omega)]
      exact ⟨H, rfl, e1, e2, e3, fun q q0 q1 => ⟨e4 q q0 (by omega), e5 q q0 (by omega)⟩⟩
    | succ m ih =>
      intro r w6 H r0 rm e1 e2 e3 e4 e5
      have zr := hz r r0 (by omega)
      rw [b175_3, if_pos (by omega), ix_p (by omega) (by omega), ix_p (by omega) (by omega)]
      obtain ⟨H', t1, t2, t3, t4, t5, t6⟩ := inner r r0 (by omega) (gi h a2 r).toNat 0 (si H a4 r (gi H a2 r)) (by omega) (by omega) (fun b i b1 b2 => by rw [gi_sin b2]; exact e1 b i b1 b2) (fun b i => e2 b i) e3 (fun q q0 q1 => by
        by_cases z : q = r
        · rw [z, gi_sis, e1 a2 r n3 n4]
        · rw [gi_sij z]; exact e4 q q0 (by omega)) (fun q q0 q1 y y0 y1 => by rw [gi_sin n5]; exact e5 q q0 q1 y y0 y1) (fun y y0 y1 => by omega)
      rw [t1]
      exact ih (r + 1) _ H' (by omega) (by omega) t2 t3 t4 (fun q q0 q1 => t5 q q0 (by omega)) t6
  exact outer 6 0 none h (by omega) (by omega) (fun _ _ _ _ => rfl) (fun _ _ => rfl) rfl (fun q q0 q1 => by omega) (fun q q0 q1 => by omega)
