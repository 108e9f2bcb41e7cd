/-! FACTS come and go, in both lists, packed -/
section FA2
variable {h : dm_H}
/-- only a list of facts (arrays a .. a + 3, size at b, c) is another one -/
def frF4 (a b : Nat) (c : Int) (h h' : dm_H) : Prop := (∀ x i, ¬ (a ≤ x ∧ x ≤ a + 3) → ¬ (x = b ∧ i = c) → gi h' x i = gi h x i) ∧ (∀ x i, gr h' x i = gr h x i) ∧ h'.2.2 = h.2.2
theorem st_all {a b : Nat} {c : Int} (ab : b < a ∨ a + 3 < b) {n p x1 x2 x3 x4 : Int} (hp : 0 ≤ p ∧ p ≤ n) (S : FO (fL a h) n) (l1 : ∀ x, 0 ≤ x → x < p → kyF (fL a h x) < kyF (x1, x2, x3, x4)) (l2 : ∀ x, p ≤ x → x < n → kyF (x1, x2, x3, x4) < kyF (fL a h x)) :
    frF4 a b c h (si (st4 (mov4 h a p n) a p x1 x2 x3 x4) b c (n + 1)) ∧ gi (si (st4 (mov4 h a p n) a p x1 x2 x3 x4) b c (n + 1)) b c = n + 1 ∧ FO (fL a (si (st4 (mov4 h a p n) a p x1 x2 x3 x4) b c (n + 1))) (n + 1) ∧ ∀ s, inF (fL a (si (st4 (mov4 h a p n) a p x1 x2 x3 x4) b c (n + 1))) (n + 1) s ↔ inF (fL a h) n s ∨ s = (x1, x2, x3, x4) := by
  have e : fL a (si (st4 (mov4 h a p n) a p x1 x2 x3 x4) b c (n + 1)) = fL a (st4 (mov4 h a p n) a p x1 x2 x3 x4) := fL_o (fun q i q0 q1 => gi_sin (by omega))
  have v : ∀ x, fL a (st4 (mov4 h a p n) a p x1 x2 x3 x4) x = if x = p then (x1, x2, x3, x4) else if p < x ∧ x ≤ n then fL a h (x - 1) else fL a h x := fun x => by rw [fL_st4, fL_mov4]
  obtain ⟨f1, f2⟩ := FO_ins (g := fL a (st4 (mov4 h a p n) a p x1 x2 x3 x4)) (t := (x1, x2, x3, x4)) S hp (fun x x0 xp => by rw [v, if_neg (by omega), if_neg (by omega)]) (by rw [v, if_pos rfl]) (fun x xp xn => by rw [v, if_neg (by omega), if_pos ⟨xp, xn⟩]) l1 l2
  refine ⟨⟨fun x i q r => ?_, fun x i => rfl, rfl⟩, by rw [gi_si, if_pos ⟨rfl, rfl⟩], by rw [e]; exact f1, by rw [e]; exact f2⟩
  rw [gi_si, if_neg r, gi_st4, if_neg (fun w => q w.1), gi_mov4, if_neg (fun w => q w.1)]
/-- FactList.insert -/
theorem ins_c {d : Nat} (hd : 2 ≤ d) (r c pr en : Int) (hn : 0 ≤ gi h 8 0 ∧ gi h 8 0 < 24) (hc : ∀ p, 0 ≤ p → p < gi h 8 0 → 0 ≤ gi h 10 p ∧ gi h 10 p < 1000000) (hx : 0 ≤ c ∧ c < 1000000) (hne : ∀ p, 0 ≤ p → p < gi h 8 0 → ¬ (gi h 9 p = r ∧ gi h 10 p = c)) (S : FO (fL 9 h) (gi h 8 0)) : ∃ h', dF d 79 [dR 1 2 8, dI r, dI c, dI pr, dI en] h = rV h' ∧ frF4 9 8 0 h h' ∧ gi h' 8 0 = gi h 8 0 + 1 ∧ FO (fL 9 h') (gi h 8 0 + 1) ∧ ∀ s, inF (fL 9 h') (gi h 8 0 + 1) s ↔ inF (fL 9 h) (gi h 8 0) s ∨ s = (r, c, pr, en) := by
  obtain ⟨p, hp, x1, l1, l2⟩ := s79 hd r c pr en hn hc hx hne S
  exact ⟨_, x1, st_all (by omega) hp S l1 l2⟩
/-- the reference's lays -/
theorem ins_r {d : Nat} (hd : 2 ≤ d) (r c pr en : Int) {n : Int} (e5 : gi h 165 5 = n) (hn : 0 ≤ n ∧ n < 24) (hc : ∀ p, 0 ≤ p → p < n → 0 ≤ gi h 169 p ∧ gi h 169 p < 1000000) (hx : 0 ≤ c ∧ c < 1000000) (hne : ∀ p, 0 ≤ p → p < n → ¬ (gi h 168 p = r ∧ gi h 169 p = c)) (S : FO (fL 168 h) n) : ∃ h', dF d 176 [dR 1 11 165, dI r, dI c, dI pr, dI en] h = rV h' ∧ frF4 168 165 5 h h' ∧ gi h' 165 5 = n + 1 ∧ FO (fL 168 h') (n + 1) ∧ ∀ s, inF (fL 168 h') (n + 1) s ↔ inF (fL 168 h) n s ∨ s = (r, c, pr, en) := by
  obtain ⟨p, hp, x1, l1, l2⟩ := s176 hd r c pr en e5 hn hc hx hne S
  exact ⟨_, x1, st_all (by omega) hp S l1 l2⟩
theorem dn_all {a b : Nat} {c : Int} (ab : b < a ∨ a + 3 < b) {n g : Int} (hg : 0 ≤ g ∧ g < n) (S : FO (fL a h) n) {H : dm_H} (e : ∀ x i, H.1 x i = (si (dn4 h a g (n - 1)) b c (n - 1)).1 x i) (e2 : H.2 = h.2) : frF4 a b c h H ∧ gi H b c = n - 1 ∧ FO (fL a H) (n - 1) ∧ ∀ s, inF (fL a H) (n - 1) s ↔ inF (fL a h) n s ∧ s ≠ fL a h g := by
  have eg : ∀ x i, gi H x i = gi (si (dn4 h a g (n - 1)) b c (n - 1)) x i := e
  have e1 : fL a H = fL a (dn4 h a g (n - 1)) := fL_o (fun q i q0 q1 => by rw [eg, gi_sin (by omega)])
  have v : ∀ x, fL a (dn4 h a g (n - 1)) x = if g ≤ x ∧ x < n - 1 then fL a h (x + 1) else fL a h x := fun x => fL_dn4 x
  obtain ⟨f1, f2⟩ := FO_del (g := fL a (dn4 h a g (n - 1))) S hg (fun x x0 xg => by rw [v, if_neg (by omega)]) (fun x xg xn => by rw [v, if_pos ⟨xg, xn⟩])
  refine ⟨⟨fun x i q r => ?_, fun x i => by show H.2.1 x i = h.2.1 x i; rw [e2], by rw [e2]⟩, by rw [eg, gi_si, if_pos ⟨rfl, rfl⟩], by rw [e1]; exact f1, by rw [e1]; exact f2⟩
  rw [eg, gi_si, if_neg r, gi_dn4, if_neg (fun w => q w.1)]
/-- FactList.removeAt -/
theorem del_c {d : Nat} (hd : 2 ≤ d) {g : Int} (hg : 0 ≤ g ∧ g < gi h 8 0) (hn : gi h 8 0 ≤ 24) (S : FO (fL 9 h) (gi h 8 0)) : ∃ h', dF d 82 [dR 1 2 8, dI g] h = rV h' ∧ frF4 9 8 0 h h' ∧ gi h' 8 0 = gi h 8 0 - 1 ∧ FO (fL 9 h') (gi h 8 0 - 1) ∧ ∀ s, inF (fL 9 h') (gi h 8 0 - 1) s ↔ inF (fL 9 h) (gi h 8 0) s ∧ s ≠ fL 9 h g :=
  ⟨_, s82 hd hg hn, dn_all (by omega) hg S (fun _ _ => rfl) rfl⟩
/-- the reference's removes -/
theorem del_r {d : Nat} (hd : 1 ≤ d) {g n : Int} (e5 : gi h 165 5 = n) (hg : 0 ≤ g ∧ g < n) (hn : n ≤ 24) (S : FO (fL 168 h) n) : ∃ h', dF d 211 [dR 1 11 165, dI g] h = rV h' ∧ frF4 168 165 5 h h' ∧ gi h' 165 5 = n - 1 ∧ FO (fL 168 h') (n - 1) ∧ ∀ s, inF (fL 168 h') (n - 1) s ↔ inF (fL 168 h) n s ∧ s ≠ fL 168 h g := by
  refine ⟨_, s211 hd e5 hg hn, dn_all (by omega) hg S (fun x i => ?_) rfl⟩
  show gi (dn4 (si h 165 5 (n - 1)) 168 g (n - 1)) x i = gi (si (dn4 h 168 g (n - 1)) 165 5 (n - 1)) x i
  rw [gi_dn4]
  by_cases z : (168 ≤ x ∧ x ≤ 168 + 3) ∧ g ≤ i ∧ i < n - 1
  · rw [if_pos z, gi_sin (by omega), gi_sin (by omega), gi_dn4, if_pos z]
  · rw [if_neg z]
    by_cases y : x = 165 ∧ i = 5
    · rw [gi_si, if_pos y, gi_si, if_pos y]
    · rw [gi_si, if_neg y, gi_si, if_neg y, gi_dn4, if_neg z]
end FA2
