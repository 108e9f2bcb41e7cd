/-! THE CALL takeBack -/
section TB
variable {h : dm_H} {π : Int → Int}
theorem s86 {d : Nat} (hd : 1 ≤ d) (r a b c : Int) (x : dm_O) (e : dF (d - 1) 87 [dR 1 10 1, dI r, dI a, dI b, dI c] h = x) :
    (∀ v h', x = rI v h' → dF d 86 [dR 1 10 1, dI r, dI a, dI b, dI c, dR 4 1 196] h = rI 0 (sl h' 0 v)) ∧ (∀ h', x = rX 0 h' → dF d 86 [dR 1 10 1, dI r, dI a, dI b, dI c, dR 4 1 196] h = rI 1 h') ∧ (∀ h', x = rX 1 h' → dF d 86 [dR 1 10 1, dI r, dI a, dI b, dI c, dR 4 1 196] h = rI 2 h') ∧ ∀ h', x = rX 2 h' → dF d 86 [dR 1 10 1, dI r, dI a, dI b, dI c, dR 4 1 196] h = rI 3 h' := by
  rw [f86 hd, b86_0, e]
  refine ⟨fun v h' ex => ?_, fun h' ex => ?_, fun h' ex => ?_, fun h' ex => ?_⟩
  · rw [ex, bk_v, b86_12, ix_p (by omega) (by omega)]
  · rw [ex, bk_c (g := 17) (j := 6) (n := 2) (L' := [lR 1 10 1, lI r, lI a, lI b, lI c, lR 4 1 196, none]) rfl (fun f => rfl)]
    exact b86_19 _ _ _ _ _ _ _ _ _
  · rw [ex, bk_c (g := 21) (j := 6) (n := 2) (L' := [lR 1 10 1, lI r, lI a, lI b, lI c, lR 4 1 196, none]) rfl (fun f => rfl)]
    exact b86_23 _ _ _ _ _ _ _ _ _
  · rw [ex, bk_c (g := 25) (j := 6) (n := 2) (L' := [lR 1 10 1, lI r, lI a, lI b, lI c, lR 4 1 196, none]) rfl (fun f => rfl)]
    exact b86_27 _ _ _ _ _ _ _ _ _
/-- what the class refuses -/
theorem s87a {d : Nat} (hd : 5 ≤ d) (I : IN0 π h) (r a b c : Int) :
    (¬ (0 ≤ r ∧ r < gi h 2 0) → dF d 87 [dR 1 10 1, dI r, dI a, dI b, dI c] h = rX 0 (sg h 6)) ∧
    ((0 ≤ r ∧ r < gi h 2 0) → ¬ wit (gi h 3 r) 0 99 a b c → dF d 87 [dR 1 10 1, dI r, dI a, dI b, dI c] h = rX 1 (sg h 6)) ∧
    ((0 ≤ r ∧ r < gi h 2 0) → wit (gi h 3 r) 0 99 a b c → fpl (fL 9 h) (gi h 8 0) r (a * 10000 + b * 100 + c) = -1 → dF d 87 [dR 1 10 1, dI r, dI a, dI b, dI c] h = rX 2 (sg h 6)) ∧
    ((0 ≤ r ∧ r < gi h 2 0) → wit (gi h 3 r) 0 99 a b c → ∀ g, fpl (fL 9 h) (gi h 8 0) r (a * 10000 + b * 100 + c) = g → g ≠ -1 → dF d 87 [dR 1 10 1, dI r, dI a, dI b, dI c] h = dm_back (dL (d - 1) 87) dm_t87 55 [lR 1 10 1, lI r, lI a, lI b, lI c, lI (a * 10000 + b * 100 + c), lI g, none] [] (dF (d - 1) 58 [dR 1 1 143, dR 1 7 (gr h 1 9), dI (gi h 1 12), dI g, dI g] h)) := by
  have n6 := I.1.1.1
  have F := I.2.2.2.2.2.2.2.2.1
  have hn := F.1.1
  rcases s72 (h := h) (d := d - 1) (by omega) r a b c n6 with ⟨y, e⟩ | ⟨y, y2, e⟩ | ⟨y, y2, e⟩
  · have c0 : dF d 87 [dR 1 10 1, dI r, dI a, dI b, dI c] h = rX 0 (sg h 6) := by rw [f87 (by omega), b87_0, e, bk_x rfl]
    exact ⟨fun _ => c0, fun q => absurd q y, fun q => absurd q y, fun q => absurd q y⟩
  · have c0 : dF d 87 [dR 1 10 1, dI r, dI a, dI b, dI c] h = rX 1 (sg h 6) := by rw [f87 (by omega), b87_0, e, bk_x rfl]
    exact ⟨fun q => absurd y q, fun _ _ => c0, fun _ q => absurd q y2, fun _ q => absurd q y2⟩
  · have st : dF d 87 [dR 1 10 1, dI r, dI a, dI b, dI c] h = dL (d - 1) 87 21 [lR 1 10 1, lI r, lI a, lI b, lI c, lI (a * 10000 + b * 100 + c), none, none] [dI (fpl (fL 9 h) (gi h 8 0) r (a * 10000 + b * 100 + c))] h := by
      rw [f87 (by omega), b87_0, e, bk_v, b87_9, s78 (by omega) _ _ hn, bk_v]
    refine ⟨fun q => absurd y q, fun _ q => absurd y2 q, fun _ _ z => ?_, fun _ _ g eg z => ?_⟩
    · rw [st, z, b87_21, if_pos rfl]
    · rw [st, eg, b87_21, if_neg z]
/-- what the reference refuses -/
theorem s214a {d : Nat} (hd : 5 ≤ d) (I : IN0 π h) {H : dm_H} (e : ∀ a i, 144 ≤ a → gi H a i = gi h a i) (r a b c : Int) :
    (¬ (0 ≤ r ∧ r < gi h 2 0) → dF d 214 [dR 1 11 165, dI r, dI a, dI b, dI c] H = rI 0 (si H 165 0 1)) ∧
    ((0 ≤ r ∧ r < gi h 2 0) → ¬ wit (gi h 3 r) 0 99 a b c → dF d 214 [dR 1 11 165, dI r, dI a, dI b, dI c] H = rI 0 (si H 165 0 2)) ∧
    ((0 ≤ r ∧ r < gi h 2 0) → wit (gi h 3 r) 0 99 a b c → fpl (fL 9 h) (gi h 8 0) r (a * 10000 + b * 100 + c) = -1 → dF d 214 [dR 1 11 165, dI r, dI a, dI b, dI c] H = rI 0 (si H 165 0 3)) ∧
    ((0 ≤ r ∧ r < gi h 2 0) → wit (gi h 3 r) 0 99 a b c → ∀ g, fpl (fL 9 h) (gi h 8 0) r (a * 10000 + b * 100 + c) = g → g ≠ -1 → dF d 214 [dR 1 11 165, dI r, dI a, dI b, dI c] H = dm_back (dL (d - 1) 214) dm_t214 105 [lR 1 11 165, lI r, lI a, lI b, lI c, lI 1, lI g, lI (gi h 170 g), none] [] (dF (d - 1) 174 [dR 1 11 165] (si H 165 0 0))) := by
  have n6 := I.1.1.1
  have nr := I.1.2.1
  have F := I.2.2.2.2.2.2.2.2.1
  have e1 : gi H 165 1 = gi h 2 0 := by rw [e _ _ (by omega)]; exact nr
  have s2 : dF (d - 1) 170 [dR 1 11 165, dI r] H = rI (bi (0 ≤ r ∧ r < gi h 2 0)) H := by
    rw [s170 (by omega) r H (by rw [e1]; exact n6), e1]
  have e3 : gi H 166 r = gi h 3 r := by rw [e _ _ (by omega)]; exact (I.1.2.2.1 r).1
  have st : ∀ (x : Int), x = bi ((0 ≤ r ∧ r < gi h 2 0) ∧ wit (gi h 3 r) 0 99 a b c) → dF d 214 [dR 1 11 165, dI r, dI a, dI b, dI c] H = dL (d - 1) 214 25 [lR 1 11 165, lI r, lI a, lI b, lI c, none, none, none, none] [dI x] H := by
    intro x ex
    rw [f214 (by omega), b214_0, s2, bk_v, b214_5]
    by_cases y : 0 ≤ r ∧ r < gi h 2 0
    case neg => rw [bi_0 y, if_pos rfl, b214_24, ex, bi_0 (fun w => y w.1)]
    have hc := (cK_c I.1.1 y.1 y.2).2.1
    rw [bi_1 y, if_neg (by decide), s171 (by omega) r a b c H (by omega) (by rw [e3]; exact hc), e3, bk_v, b214_17]
    by_cases w : wit (gi h 3 r) 0 99 a b c
    · rw [bi_1 w, if_neg (by decide), ex, bi_1 (show (0 ≤ r ∧ r < gi h 2 0) ∧ wit (gi h 3 r) 0 99 a b c from ⟨y, w⟩)]
    · rw [bi_0 w, if_pos rfl, b214_24, ex, bi_0 (fun v => w v.2)]
  have bad : ∀ (k : Int) (l1 l2 l3 l4 l5 : Option dm_V) (x6 : Int) (l7 l8 : Option dm_V), 0 < k → dL (d - 1) 214 83 [lR 1 11 165, l1, l2, l3, l4, l5, lI x6, l7, l8] [dI k, dR 1 11 165] H = rI 0 (si H 165 0 k) := by
    intro k l1 l2 l3 l4 l5 x6 l7 l8 hk
    rw [b214_83, thr0, if_pos hk]
  refine ⟨fun y => ?_, fun y w => ?_, fun y w z => ?_, fun y w g eg z => ?_⟩
  · rw [st 0 (bi_0 (fun v => y v.1)).symm, b214_25, if_pos rfl, b214_48, s2, bk_v, b214_56, bi_0 y, if_pos rfl, bad _ _ _ _ _ _ _ _ _ (by decide)]
  · rw [st 0 (bi_0 (fun v => w v.2)).symm, b214_25, if_pos rfl, b214_48, s2, bk_v, b214_56, bi_1 y, if_neg (by decide), if_pos rfl, bad _ _ _ _ _ _ _ _ _ (by decide)]
  all_goals
    have hb := wit_99 w (by omega) (by omega)
    have ef : fL 168 H = fL 168 h := fL_o (fun q i q0 q1 => e q i (by omega))
    have ep : dF (d - 1) 173 [dR 1 11 165, dI r, dI (10000 * a + 100 * b + c)] H = rI (fpl (fL 9 h) (gi h 8 0) r (a * 10000 + b * 100 + c)) H := by
      have n24 : 0 ≤ gi H 165 5 ∧ gi H 165 5 ≤ 24 := by rw [e _ _ (by omega), F.2.2.1]; exact F.1.1
      rw [s173 (by omega) _ _ n24, ef, e 165 5 (by omega), fpl_same F, show 10000 * a + 100 * b + c = a * 10000 + b * 100 + c by omega]
    rw [st 1 (bi_1 (show (0 ≤ r ∧ r < gi h 2 0) ∧ wit (gi h 3 r) 0 99 a b c from ⟨y, w⟩)).symm, b214_25, if_neg (by decide), s172 (by omega) _ hb.1 hb.2.1 hb.2.2, bk_v, b214_41, ep, bk_v, b214_44, b214_48, s2, bk_v, b214_56, bi_1 y, if_neg (by decide), if_neg (by decide)]
  · rw [if_pos z, bad _ _ _ _ _ _ _ _ _ (by decide)]
  · have hg : 0 ≤ g ∧ g < 24 := by
      have hn := F.1.1
      rcases fpl_r (f := fL 9 h) (n := gi h 8 0) (r := r) (c := a * 10000 + b * 100 + c) hn.1 with ⟨q, _⟩ | ⟨q, _⟩
      · rw [eg] at q; exact absurd q z
      · rw [eg] at q; omega
    rw [eg, if_neg z, b214_83, thr0, if_neg (by decide), ix_p hg.1 hg.2, gi_sin (by omega), e 170 g (by omega)]
/-- the facts without one of them -/
theorem ftC_g (F : FO (fL 9 h) (gi h 8 0)) {g : Int} (hg : 0 ≤ g ∧ g < gi h 8 0) (t : Int) : ftC h t g g = ftS (fun s => inF (fL 9 h) (gi h 8 0) s ∧ s ≠ fL 9 h g) t := by
  funext r c
  refine propext ⟨fun ⟨p, p0, p1, p2, p3, p4, p5, p6⟩ => ⟨fL 9 h p, ⟨⟨p, p0, p1, rfl⟩, fun e => p2 (FO_inj F p0 p1 hg.1 hg.2 (by rw [e]))⟩, p4, p5, p6⟩, ?_⟩
  rintro ⟨s, ⟨⟨p, p0, p1, rfl⟩, q⟩, p4, p5, p6⟩
  exact ⟨p, p0, p1, fun e => q (by rw [e]), fun e => q (by rw [e]), p4, p5, p6⟩
theorem ftC_gg (t g r c : Int) : ftC h t g g r c ↔ ftC h t g (-1) r c :=
  ⟨fun ⟨p, p0, p1, p2, p3, p4, p5, p6⟩ => ⟨p, p0, p1, p2, by omega, p4, p5, p6⟩, fun ⟨p, p0, p1, p2, p3, p4, p5, p6⟩ => ⟨p, p0, p1, p2, p2, p4, p5, p6⟩⟩
theorem frF4_refl (a b : Nat) (c : Int) (h : dm_H) : frF4 a b c h h := ⟨fun _ _ _ _ => rfl, fun _ _ => rfl, rfl⟩
end TB
