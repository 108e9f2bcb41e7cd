/-! THE BOOK: a rule goes, comes back, gets its number; its place -/
section BOP
variable {h : dm_H}
/-- rules but the one at g -/
def RLx (g : Int) (h : dm_H) : mU → Prop := fun u => ∃ j, 0 ≤ j ∧ j < gi h 13 1 ∧ j ≠ g ∧ gi h (gr h 14 j) 1 ≠ 3 ∧ u = uR h (gr h 14 j)
/-- places when the one at g has gone to the end of n -/
def remA {α : Type} (f : Int → α) (g n : Int) : Int → α := fun j => if j < g ∨ n ≤ j then f j else if j < n - 1 then f (j + 1) else f g
/-- and when the one at the end of n has come to g -/
def insA {α : Type} (f : Int → α) (g n : Int) : Int → α := fun j => if j < g ∨ n < j then f j else if j = g then f n else f (j - 1)
theorem ins_rem {α : Type} (f : Int → α) {g n : Int} (hg : 0 ≤ g ∧ g < n) : insA (remA f g n) g (n - 1) = f := by
  funext j
  unfold insA remA
  by_cases z1 : j < g ∨ n - 1 < j
  · rw [if_pos z1, if_pos (by omega)]
  rw [if_neg z1]
  by_cases z2 : j = g
  · rw [if_pos z2, if_neg (by omega), if_neg (by omega), z2]
  · rw [if_neg z2, if_neg (by omega), if_pos (by omega), show j - 1 + 1 = j by omega]
/-- a heap with other rules in the book -/
def hBk (h h' : dm_H) (f : Int → Nat) (n : Int) : Prop := (∀ a i, ¬ (a = 13 ∧ i = 1) → gi h' a i = gi h a i) ∧ gi h' 13 1 = n ∧ (∀ a i, ¬ (a = 14 ∧ 0 ≤ i ∧ i < 10) → gr h' a i = gr h a i) ∧ (∀ j, 0 ≤ j → j < 10 → gr h' 14 j = f j) ∧ h'.2.2 = h.2.2
/-- the class's book without rule g, before it is connected -/
theorem s121a {d : Nat} (hn : 0 ≤ gi h 13 1 ∧ gi h 13 1 ≤ 10) {g : Int} (hg : 0 ≤ g ∧ g < gi h 13 1) : ∃ h' w1 w2 w3, dL d 121 0 [lR 1 9 13, lI g, none, none] [] h = dm_back (dL d 121) dm_t121 73 [lR 1 9 13, w1, w2, w3] [] (dF d 109 [dR 1 9 13] h') ∧ hBk h h' (remA (gr h 14) g (gi h 13 1)) (gi h 13 1 - 1) := by
  obtain ⟨n, en⟩ : ∃ n, gi h 13 1 = n := ⟨_, rfl⟩
  rw [en] at hn hg ⊢
  have loop : ∀ (m : Nat) (x : Int) (H : dm_H), g < x → x + m = n → (∀ a i, gi H a i = gi h a i) → (∀ a i, ¬ (a = 14 ∧ 0 ≤ i ∧ i < 10) → gr H a i = gr h a i) → (∀ j, 0 ≤ j → j < 10 → gr H 14 j = if j < g ∨ x - 1 ≤ j then gr h 14 j else gr h 14 (j + 1)) → H.2.2 = h.2.2 →
      ∃ h' w1 w2 w3, dL d 121 24 [lR 1 9 13, lI g, lR 1 8 (gr h 14 g), lI x] [] H = dm_back (dL d 121) dm_t121 73 [lR 1 9 13, w1, w2, w3] [] (dF d 109 [dR 1 9 13] h') ∧ hBk h h' (remA (gr h 14) g n) (n - 1) := by
    intro m
    induction m with
    | zero =>
      intro x H gx xm e1 e2 e3 e4
      have ex : x = n := by omega
      rw [b121_24, if_neg (by rw [e1, en]; omega), e1, en, ck_p (by omega) (by omega), gi_si, if_pos ⟨rfl, rfl⟩, ix_p (by omega) (by omega)]
      refine ⟨_, _, _, _, rfl, fun a i hai => ?_, ?_, fun a i hai => ?_, fun j j0 j1 => ?_, e4⟩
      · rw [gi_sr, gi_si, if_neg hai, e1]
      · rw [gi_sr, gi_si, if_pos ⟨rfl, rfl⟩]
      · rw [gr_sr, if_neg (fun w => hai ⟨w.1, by omega, by omega⟩), gr_si, e2 a i hai]
      · rw [gr_sr, gr_si, e3 j j0 j1]
        unfold remA
        by_cases z : j = n - 1
        · rw [if_pos ⟨rfl, z⟩, if_neg (by omega), if_neg (by omega)]
        · rw [if_neg (fun w => z w.2)]
          by_cases y : j < g ∨ x - 1 ≤ j
          · rw [if_pos y, if_pos (by omega)]
          · rw [if_neg y, if_neg (by omega), if_pos (by omega)]
    | succ m ih =>
      intro x H gx xm e1 e2 e3 e4
      rw [b121_24, if_pos (by rw [e1, en]; omega), ck_p (by omega) (by omega), ix_p (by omega) (by omega), ix_p (by omega) (by omega), ck_p (by omega) (by omega)]
      refine ih (x + 1) _ (by omega) (by omega) (fun a i => by rw [gi_sr, e1]) (fun a i hai => by rw [gr_sr, if_neg (fun w => hai ⟨w.1, by omega, by omega⟩), e2 a i hai]) (fun j j0 j1 => ?_) e4
      rw [gr_sr, e3 j j0 j1]
      by_cases z : j = x - 1
      · rw [if_pos ⟨rfl, z⟩, e3 x (by omega) (by omega), if_pos (by omega), if_neg (by omega), show j + 1 = x by omega]
      · rw [if_neg (fun w => z w.2)]
        by_cases y : j < g ∨ x - 1 ≤ j
        · rw [if_pos y, if_pos (by omega)]
        · rw [if_neg y, if_neg (by omega)]
  rw [b121_0, if_neg (by omega), if_pos (by omega), ix_p (by omega) (by omega), ck_p (by omega) (by omega)]
  refine loop (n - (g + 1)).toNat (g + 1) h (by omega) (by omega) (fun _ _ => rfl) (fun _ _ _ => rfl) (fun j j0 j1 => ?_) rfl
  by_cases z : j < g ∨ g + 1 - 1 ≤ j
  · rw [if_pos z]
  · omega
/-- the class's book with the rule behind its end put back at g, before it is connected -/
theorem s127a {d : Nat} (hn : 0 ≤ gi h 13 1 ∧ gi h 13 1 < 10) {g : Int} (hg : 0 ≤ g ∧ g ≤ gi h 13 1) : ∃ h' w1 w2 w3, dL d 127 0 [lR 1 9 13, lI g, none, none] [] h = dm_back (dL d 127) dm_t127 80 [lR 1 9 13, w1, w2, w3] [] (dF d 109 [dR 1 9 13] h') ∧ hBk h h' (insA (gr h 14) g (gi h 13 1)) (gi h 13 1 + 1) := by
  obtain ⟨n, en⟩ : ∃ n, gi h 13 1 = n := ⟨_, rfl⟩
  rw [en] at hn hg ⊢
  have loop : ∀ (m : Nat) (x : Int) (H : dm_H), x ≤ n → g + m = x → (∀ a i, gi H a i = gi h a i) → (∀ a i, ¬ (a = 14 ∧ 0 ≤ i ∧ i < 10) → gr H a i = gr h a i) → (∀ j, 0 ≤ j → j < 10 → gr H 14 j = if j ≤ x ∨ n < j then gr h 14 j else gr h 14 (j - 1)) → H.2.2 = h.2.2 →
      ∃ h' w1 w2 w3, dL d 127 37 [lR 1 9 13, lI g, lR 1 8 (gr h 14 n), lI x] [] H = dm_back (dL d 127) dm_t127 80 [lR 1 9 13, w1, w2, w3] [] (dF d 109 [dR 1 9 13] h') ∧ hBk h h' (insA (gr h 14) g n) (n + 1) := by
    intro m
    induction m with
    | zero =>
      intro x H xn xm e1 e2 e3 e4
      have ex : x = g := by omega
      rw [b127_37, if_neg (by omega), ix_p (by omega) (by omega), gi_sr, e1, en, ck_p (by omega) (by omega)]
      refine ⟨_, _, _, _, rfl, fun a i hai => ?_, ?_, fun a i hai => ?_, fun j j0 j1 => ?_, e4⟩
      · rw [gi_si, if_neg hai, gi_sr, e1]
      · rw [gi_si, if_pos ⟨rfl, rfl⟩]
      · rw [gr_si, gr_sr, if_neg (fun w => hai ⟨w.1, by omega, by omega⟩), e2 a i hai]
      · rw [gr_si, gr_sr, e3 j j0 j1]
        unfold insA
        by_cases z : j = g
        · rw [if_pos ⟨rfl, z⟩, if_neg (by omega), if_pos z]
        · rw [if_neg (fun w => z w.2)]
          by_cases y : j ≤ x ∨ n < j
          · rw [if_pos y, if_pos (by omega)]
          · rw [if_neg y, if_neg (by omega), if_neg z]
    | succ m ih =>
      intro x H xn xm e1 e2 e3 e4
      rw [b127_37, if_pos (by omega), ck_p (by omega) (by omega), ix_p (by omega) (by omega), ix_p (by omega) (by omega), ck_p (by omega) (by omega), show x + (-1) = x - 1 by omega]
      refine ih (x - 1) _ (by omega) (by omega) (fun a i => by rw [gi_sr, e1]) (fun a i hai => by rw [gr_sr, if_neg (fun w => hai ⟨w.1, by omega, by omega⟩), e2 a i hai]) (fun j j0 j1 => ?_) e4
      rw [gr_sr, e3 j j0 j1]
      by_cases z : j = x
      · rw [if_pos ⟨rfl, z⟩, e3 (x - 1) (by omega) (by omega), if_pos (by omega), if_neg (by omega), show j - 1 = x - 1 by omega]
      · rw [if_neg (fun w => z w.2)]
        by_cases y : j ≤ x ∨ n < j
        · rw [if_pos y, if_pos (by omega)]
        · rw [if_neg y, if_neg (by omega)]
  rw [b127_0, if_neg (by omega), if_neg (by omega), if_pos (by omega), en, ix_p (by omega) (by omega)]
  refine loop (n - g).toNat n h (by omega) (by omega) (fun _ _ => rfl) (fun _ _ _ => rfl) (fun j j0 j1 => ?_) rfl
  by_cases z : j ≤ n ∨ n < j
  · rw [if_pos z]
  · omega
/-- the place of a number -/
theorem s126 {d : Nat} (hd : 1 ≤ d) (x : Int) (hn : 0 ≤ gi h 13 1 ∧ gi h 13 1 ≤ 10) : dF d 126 [dR 1 9 13, dI x] h = rI (fz (fun j => gi h (gr h 14 j) 0 = x) (gi h 13 1).toNat 0) h := by
  have loop : ∀ (m : Nat) (j : Int), 0 ≤ j → j + m = gi h 13 1 → dL (d - 1) 126 2 [lR 1 9 13, lI x, lI j] [] h = rI (fz (fun j => gi h (gr h 14 j) 0 = x) m j) h := by
    intro m
    induction m with
    | zero =>
      intro j j0 jm
      rw [b126_2, if_neg (by omega)]
      rfl
    | succ m ih =>
      intro j j0 jm
      rw [b126_2, if_pos (by omega), ix_p j0 (by omega)]
      show _ = rI (if gi h (gr h 14 j) 0 = x then j else fz (fun j => gi h (gr h 14 j) 0 = x) m (j + 1)) h
      by_cases z : gi h (gr h 14 j) 0 = x
      · rw [if_pos z, if_pos z]
      · rw [if_neg z, if_neg z, ck_p (by omega) (by omega)]
        exact ih (j + 1) (by omega) (by omega)
  rw [f126 (by omega), b126_0]
  exact loop (gi h 13 1).toNat 0 (by omega) (by omega)
theorem s125 {d : Nat} (hd : 2 ≤ d) (x : Int) (hn : 0 ≤ gi h 13 1 ∧ gi h 13 1 ≤ 10) : dF d 125 [dR 1 10 1, dI x] h = if fz (fun j => gi h (gr h 14 j) 0 = x) (gi h 13 1).toNat 0 = -1 then rX 0 (sg h 6) else rI (fz (fun j => gi h (gr h 14 j) 0 = x) (gi h 13 1).toNat 0) h := by
  rw [f125 (by omega), b125_0, s126 (by omega) x hn, bk_v, b125_8]
theorem s239 {d : Nat} (hd : 1 ≤ d) (x : Int) : dF d 239 [dR 1 11 165, dI x] h = rI (fz (fun p => gi h 174 p ≠ 0 ∧ gi h 173 p = x) 10 0) h := by
  have loop : ∀ (m : Nat) (p : Int), 0 ≤ p → p + m = 10 → dL (d - 1) 239 2 [lR 1 11 165, lI x, lI p] [] h = rI (fz (fun p => gi h 174 p ≠ 0 ∧ gi h 173 p = x) m p) h := by
    intro m
    induction m with
    | zero =>
      intro p p0 pm
      rw [b239_2, if_neg (by omega)]
      rfl
    | succ m ih =>
      intro p p0 pm
      rw [b239_2, if_pos (by omega), ix_p p0 (by omega)]
      show _ = rI (if gi h 174 p ≠ 0 ∧ gi h 173 p = x then p else fz (fun p => gi h 174 p ≠ 0 ∧ gi h 173 p = x) m (p + 1)) h
      by_cases z : gi h 174 p = 0
      · rw [if_pos z, if_neg (fun w => w.1 z), b239_29, ck_p (by omega) (by omega)]
        exact ih (p + 1) (by omega) (by omega)
      · rw [if_neg z, ix_p p0 (by omega)]
        by_cases y : gi h 173 p = x
        · rw [if_pos y, if_pos ⟨z, y⟩]
        · rw [if_neg y, if_neg (fun w => y w.2), b239_29, ck_p (by omega) (by omega)]
          exact ih (p + 1) (by omega) (by omega)
  rw [f239 (by omega), b239_0]
  exact loop 10 0 (by omega) (by omega)
end BOP
