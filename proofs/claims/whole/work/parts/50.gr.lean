/-! GROUPS: the class's -/
theorem s30 {d : Nat} (hd : 1 ≤ d) (h : dm_H) (key : Int) (hn : 0 ≤ gi h 140 2 ∧ gi h 140 2 ≤ 32) : ∃ g, dF d 30 [dR 1 4 140, dI key] h = rI g h ∧ (0 ≤ g ∧ g ≤ gi h 140 2) ∧ (∀ x, 0 ≤ x → x < g → gi h 141 x ≠ key) ∧ (g < gi h 140 2 → gi h 141 g = key) := by
  rw [f30 hd, b30_0]
  have K : ∀ (m : Nat) (i : Int), 0 ≤ i → i + m = gi h 140 2 → (∀ x, 0 ≤ x → x < i → gi h 141 x ≠ key) → ∃ g, dL (d - 1) 30 2 [lR 1 4 140, lI key, lI i] [] h = rI g h ∧ (0 ≤ g ∧ g ≤ gi h 140 2) ∧ (∀ x, 0 ≤ x → x < g → gi h 141 x ≠ key) ∧ (g < gi h 140 2 → gi h 141 g = key) := by
    intro m
    induction m with
    | zero =>
      intro i i0 im hx
      refine ⟨i, ?_, ⟨i0, by omega⟩, hx, fun q => by omega⟩
      rw [b30_2, if_neg (by omega), b30_26]
    | succ m ih =>
      intro i i0 im hx
      rw [b30_2, if_pos (by omega), ix_p i0 (by omega)]
      by_cases q : gi h 141 i = key
      · rw [if_pos q, b30_26]
        exact ⟨i, rfl, ⟨i0, by omega⟩, hx, fun _ => q⟩
      · rw [if_neg q, ck_p (by omega) (by omega)]
        refine ih (i + 1) (by omega) (by omega) (fun x x0 x1 => ?_)
        by_cases e : x = i
        · rw [e]; exact q
        · exact hx x x0 (by omega)
  exact K (gi h 140 2).toNat 0 (by omega) (by omega) (fun x x0 x1 => by omega)
/-- the groups hold what the bindings of a list bring -/
def GR (cl : Int → Int) (u : mU) (l : List mA) (h : dm_H) : Prop := (0 ≤ gi h 140 2 ∧ gi h 140 2 ≤ 32) ∧ (∀ x y, 0 ≤ x → x < y → y < gi h 140 2 → gi h 141 x ≠ gi h 141 y) ∧ (∀ x, 0 ≤ x → x < gi h 140 2 → (∃ v, v ∈ l ∧ gkv cl u v = gi h 141 x) ∧ gi h 142 x = m99 (gsm (gkv cl u) (gam cl u) (gi h 141 x) l)) ∧ ∀ v, v ∈ l → ∃ x, 0 ≤ x ∧ x < gi h 140 2 ∧ gi h 141 x = gkv cl u v
theorem m99_r {x : Int} (h : 0 ≤ x) : 0 ≤ m99 x ∧ m99 x ≤ 99 := by unfold m99; split <;> omega
theorem m99_add {a b : Int} (hb : 0 ≤ b) : m99 (m99 a + b) = m99 (a + b) := by
  unfold m99
  repeat' split
  all_goals omega
theorem gsm_one {g a : mA → Int} {key : Int} {l : List mA} {v : mA} : gsm g a key (l ++ [v]) = gsm g a key l + if g v = key then a v else 0 := by
  rw [gsm_app]
  show _ + (_ + 0) = _
  omega
theorem gsm_none {g a : mA → Int} {key : Int} : ∀ {l : List mA}, (∀ v, v ∈ l → g v ≠ key) → gsm g a key l = 0
  | [], _ => rfl
  | v :: l, h => by
    show (if g v = key then a v else 0) + gsm g a key l = 0
    rw [if_neg (h v List.mem_cons_self), gsm_none (fun w hw => h w (List.mem_cons_of_mem _ hw))]
    rfl
theorem GR_0 {cl : Int → Int} {u : mU} {h : dm_H} (h0 : gi h 140 2 = 0) : GR cl u [] h := ⟨by omega, fun x y _ _ _ => by omega, fun x _ _ => by omega, fun v hv => by cases hv⟩
/-- a binding more in a group that is there -/
theorem GR_old {cl : Int → Int} {u : mU} {l : List mA} {h h' : dm_H} {v : mA} {g : Int} (G : GR cl u l h) (hg : 0 ≤ g ∧ g < gi h 140 2) (hk : gi h 141 g = gkv cl u v) (e1 : gi h' 140 2 = gi h 140 2) (e2 : ∀ x, gi h' 141 x = gi h 141 x) (e3 : ∀ x, gi h' 142 x = if x = g then m99 (gi h 142 g + gam cl u v) else gi h 142 x) (ha : 0 ≤ gam cl u v) : GR cl u (l ++ [v]) h' := by
  obtain ⟨g1, g2, g3, g4⟩ := G
  refine ⟨by rw [e1]; exact g1, fun x y x0 xy y1 => by rw [e2, e2]; rw [e1] at y1; exact g2 x y x0 xy y1, fun x x0 x1 => ?_, fun w hw => ?_⟩
  · rw [e1] at x1
    obtain ⟨⟨w, w1, w2⟩, w3⟩ := g3 x x0 x1
    rw [e2, e3]
    refine ⟨⟨w, List.mem_append_left _ w1, w2⟩, ?_⟩
    rw [gsm_one]
    by_cases q : x = g
    · rw [if_pos q, ← q, w3, m99_add ha, if_pos (by rw [q]; exact hk.symm)]
    · have hne : gkv cl u v ≠ gi h 141 x := by
        intro z
        rw [← hk] at z
        rcases (show x < g ∨ g < x by omega) with y | y
        · exact g2 x g x0 y hg.2 z.symm
        · exact g2 g x hg.1 y x1 z
      rw [if_neg q, if_neg hne, w3]
      congr 1
      omega
  · rcases List.mem_append.mp hw with q | q
    · obtain ⟨x, x0, x1, x2⟩ := g4 w q
      exact ⟨x, x0, by rw [e1]; exact x1, by rw [e2]; exact x2⟩
    · rw [List.mem_singleton.mp q]
      exact ⟨g, hg.1, by rw [e1]; exact hg.2, by rw [e2]; exact hk⟩
/-- a binding that begins a group -/
theorem GR_new {cl : Int → Int} {u : mU} {l : List mA} {h h' : dm_H} {v : mA} {g : Int} (G : GR cl u l h) (hg : g = gi h 140 2) (g32 : g < 32) (hk : ∀ x, 0 ≤ x → x < g → gi h 141 x ≠ gkv cl u v) (e1 : gi h' 140 2 = gi h 140 2 + 1) (e2 : ∀ x, gi h' 141 x = if x = g then gkv cl u v else gi h 141 x) (e3 : ∀ x, gi h' 142 x = if x = g then m99 (0 + gam cl u v) else gi h 142 x) (ha : 0 ≤ gam cl u v) : GR cl u (l ++ [v]) h' := by
  obtain ⟨g1, g2, g3, g4⟩ := G
  have hno : ∀ w, w ∈ l → gkv cl u w ≠ gkv cl u v := by
    intro w hw z
    obtain ⟨x, x0, x1, x2⟩ := g4 w hw
    exact hk x x0 (by omega) (by rw [x2]; exact z)
  refine ⟨by rw [e1]; omega, fun x y x0 xy y1 => ?_, fun x x0 x1 => ?_, fun w hw => ?_⟩
  · rw [e1] at y1
    rw [e2, e2, if_neg (show ¬ x = g by omega)]
    by_cases q : y = g
    · rw [if_pos q]; exact hk x x0 (by omega)
    · rw [if_neg q]; exact g2 x y x0 xy (by omega)
  · rw [e1] at x1
    rw [e2, e3, gsm_one]
    by_cases q : x = g
    · rw [if_pos q, if_pos q, if_pos rfl, gsm_none hno]
      exact ⟨⟨v, List.mem_append_right _ (List.mem_singleton.mpr rfl), rfl⟩, rfl⟩
    · rw [if_neg q, if_neg q]
      obtain ⟨⟨w, w1, w2⟩, w3⟩ := g3 x x0 (by omega)
      refine ⟨⟨w, List.mem_append_left _ w1, w2⟩, ?_⟩
      rw [if_neg (fun z => hk x x0 (by omega) z.symm), w3]
      congr 1
      omega
  · rcases List.mem_append.mp hw with q | q
    · obtain ⟨x, x0, x1, x2⟩ := g4 w q
      exact ⟨x, x0, by omega, by rw [e2, if_neg (by omega)]; exact x2⟩
    · rw [List.mem_singleton.mp q]
      exact ⟨g, by omega, by omega, by rw [e2, if_pos rfl]⟩
/-- bindings of a group that is full bring nothing -/
theorem GR_full {cl : Int → Int} {u : mU} {l l' : List mA} {h : dm_H} {g : Int} (G : GR cl u l h) (hg : 0 ≤ g ∧ g < gi h 140 2) (hf : 99 ≤ gi h 142 g) (hk : ∀ w, w ∈ l' → gkv cl u w = gi h 141 g ∧ 0 ≤ gam cl u w) : GR cl u (l ++ l') h := by
  obtain ⟨g1, g2, g3, g4⟩ := G
  refine ⟨g1, g2, fun x x0 x1 => ?_, fun w hw => ?_⟩
  · obtain ⟨⟨w, w1, w2⟩, w3⟩ := g3 x x0 x1
    refine ⟨⟨w, List.mem_append_left _ w1, w2⟩, ?_⟩
    rw [gsm_app]
    by_cases q : x = g
    · have := gsm_nn (g := gkv cl u) (a := gam cl u) (key := gi h 141 x) (l := l') (fun w hw => (hk w hw).2)
      rw [q] at w3 this ⊢
      rw [w3] at hf ⊢
      unfold m99 at hf ⊢
      repeat' split
      all_goals (try (split at hf))
      all_goals omega
    · rw [gsm_none (l := l') (fun w hw z => ?_), w3]
      · congr 1; omega
      · rw [(hk w hw).1] at z
        rcases (show x < g ∨ g < x by omega) with y | y
        · exact g2 x g x0 y hg.2 z.symm
        · exact g2 g x hg.1 y x1 z
  · rcases List.mem_append.mp hw with q | q
    · exact g4 w q
    · exact ⟨g, hg.1, hg.2, (hk w q).1.symm⟩
