/-! THE REFERENCE'S GROUPS -/
def m9 (x : Int) : Int := if 9999 < x then 9999 else x
theorem m9_add {a b : Int} (hb : 0 ≤ b) : m9 (m9 a + b) = m9 (a + b) := by
  unfold m9
  repeat' split
  all_goals omega
theorem m9_r {x : Int} (h : 0 ≤ x) : 0 ≤ m9 x ∧ m9 x ≤ 9999 := by unfold m9; split <;> omega
theorem m99_m9 (x : Int) : m99 (m9 x) = m99 x := by
  unfold m9 m99
  repeat' split
  all_goals omega
/-- what a rule's run touches -/
def frM (h h' : dm_H) : Prop := (∀ a i, a ≠ 179 → a ≠ 180 → ¬ (185 ≤ a ∧ a ≤ 190) → ¬ (a = 165 ∧ 27 ≤ i ∧ i ≤ 34) → gi h' a i = gi h a i) ∧ (∀ a i, gr h' a i = gr h a i) ∧ h'.2.2 = h.2.2
theorem frM_refl (h : dm_H) : frM h h := ⟨fun _ _ _ _ _ _ => rfl, fun _ _ => rfl, rfl⟩
theorem frM_trans {h h1 h2 : dm_H} (a : frM h h1) (b : frM h1 h2) : frM h h2 := ⟨fun c i p q r s => by rw [b.1 c i p q r s, a.1 c i p q r s], fun c i => by rw [b.2.1, a.2.1], by rw [b.2.2, a.2.2]⟩
theorem frM_r {h h' : dm_H} (a : eqr h h') : frM h h' := ⟨fun c i p q r s => a.1 c i (by omega) (by omega) (by omega) (by omega), a.2.1, a.2.2⟩
theorem frM_N {h h' : dm_H} (a : frN h h') : frM h h' := ⟨fun c i p q r s => a.1 c i p q (by omega), a.2.1, a.2.2⟩
theorem frM_f {h h' : dm_H} (a : frM h h') : eqf h h' := ⟨fun i => a.1 _ _ (by decide) (by decide) (by omega) (by omega), fun i => a.1 _ _ (by decide) (by decide) (by omega) (by omega), fun i => a.1 _ _ (by decide) (by decide) (by omega) (by omega), fun i => a.1 _ _ (by decide) (by decide) (by omega) (by omega)⟩
/-- the rule in place p is u -/
def UR (cl kd : Int → Int) (u : mU) (p : Int) (h : dm_H) : Prop := (0 ≤ p ∧ p ≤ 10) ∧ gi h 172 (38 * p) = u.1 ∧ gi h 172 (38 * p + 1) = u.2.1 ∧ (∀ i, 0 ≤ i → i < 3 → gi h 172 (38 * p + (2 + i)) = u.2.2.1 i) ∧ gi h 172 (38 * p + 5) = u.2.2.2.2 ∧ simR u.2.2.2.1 (rRl h p) u.2.2.2.2 ∧ RF h p u.2.2.2.2 ∧ gi h 166 u.2.1 = cl u.2.1 ∧ gi h 167 u.2.1 = kd u.2.1
theorem UR_fr {cl kd : Int → Int} {u : mU} {p : Int} {h h' : dm_H} (f : frM h h') (U : UR cl kd u p h) : UR cl kd u p h' := by
  obtain ⟨u1, u2, u3, u4, u5, u6, u7, u8, u9⟩ := U
  have e := frM_f f
  refine ⟨u1, by rw [e.1]; exact u2, by rw [e.1]; exact u3, fun i i0 i1 => by rw [e.1]; exact u4 i i0 i1, by rw [e.1]; exact u5, by rw [eqf_R e]; exact u6, ⟨u7.1, fun k k0 k1 => ?_⟩, by rw [e.2.1]; exact u8, by rw [f.1 _ _ (by decide) (by decide) (by omega) (by omega)]; exact u9⟩
  rw [eqf_lq e]; exact u7.2 k k0 k1
/-- the groups of the reference hold what the bindings of a list bring -/
def GRr (cl : Int → Int) (u : mU) (l : List mA) (h : dm_H) : Prop := (0 ≤ gi h 165 34 ∧ gi h 165 34 ≤ 33) ∧ (∀ x y, 0 ≤ x → x < y → y < gi h 165 34 → gi h 188 x ≠ gi h 188 y) ∧ (∀ x, 0 ≤ x → x < gi h 165 34 → (∃ v, v ∈ l ∧ gkv cl u v = gi h 188 x) ∧ gi h 189 x = m9 (gsm (gkv cl u) (gam cl u) (gi h 188 x) l)) ∧ ∀ v, v ∈ l → ∃ x, 0 ≤ x ∧ x < gi h 165 34 ∧ gi h 188 x = gkv cl u v
theorem GRr_cg {cl : Int → Int} {u : mU} {l : List mA} {h h' : dm_H} (e : ∀ a i, (a = 165 ∧ i = 34) ∨ a = 188 ∨ a = 189 → gi h' a i = gi h a i) (k : GRr cl u l h) : GRr cl u l h' := by
  have e1 := e 165 34 (Or.inl ⟨rfl, rfl⟩)
  have e2 : ∀ x, gi h' 188 x = gi h 188 x := fun x => e _ _ (by omega)
  have e3 : ∀ x, gi h' 189 x = gi h 189 x := fun x => e _ _ (by omega)
  unfold GRr
  simp only [e1, e2, e3]
  exact k
section RG
variable {cl kd ly : Int → Int} {oc : Int → Int → Prop} {u : mU} {p : Int}
theorem UR_head {h : dm_H} (U : UR cl kd u p h) (R : RU cl kd ly oc u) {v : mA} (hJ : Jg u.2.2.2.1 u.2.2.2.2 v) : ∀ i, 0 ≤ i → i < cl u.2.1 → u.2.2.1 i ≤ 107 ∧ 0 ≤ tv v (u.2.2.1 i) ∧ tv v (u.2.2.1 i) ≤ 99 := by
  intro i i0 i1
  have h1 := (R.2.2.2.2.2.1 i i0 i1).1
  exact ⟨h1.2, hd_r R hJ i0 i1⟩
/-- the key and the last term of the binding of now -/
theorem s207k {d : Nat} (hd : 3 ≤ d) {h : dm_H} (D : DC cl kd) (U : UR cl kd u p h) (R : RU cl kd ly oc u) {v : mA} (hva : va h 185 = v) (hJ : Jg u.2.2.2.1 u.2.2.2.2 v) {last : Int} (hl : 0 ≤ last ∧ last ≤ 99) : dF d 207 [dR 1 11 165, dI p, dI last] h = rI (gkv cl u v + last * dm_unit (cl u.2.1 - 1)) h := by
  obtain ⟨u1, u2, u3, u4, u5, u6, u7, u8, u9⟩ := U
  have hh := UR_head ⟨u1, u2, u3, u4, u5, u6, u7, u8, u9⟩ R hJ
  have D1 := (D u.2.1 R.2.1.1 R.2.1.2).1
  have hk := R.1
  subst hva
  exact s207 hd u1 (by rw [u2]; omega) (by rw [u3]; exact R.2.1) (by rw [u3]; exact u8) D1 u4 (fun i i0 i1 => hh i i0 (by omega)) hl
theorem s205k {d : Nat} (hd : 3 ≤ d) {h : dm_H} (D : DC cl kd) (U : UR cl kd u p h) (R : RU cl kd ly oc u) {v : mA} (hva : va h 185 = v) (hJ : Jg u.2.2.2.1 u.2.2.2.2 v) : dF d 205 [dR 1 11 165, dI p] h = rI (tv v (u.2.2.1 (cl u.2.1 - 1))) h := by
  obtain ⟨u1, u2, u3, u4, u5, u6, u7, u8, u9⟩ := U
  have hh := UR_head ⟨u1, u2, u3, u4, u5, u6, u7, u8, u9⟩ R hJ
  have D1 := (D u.2.1 R.2.1.1 R.2.1.2).1
  have hk := R.1
  have e := u4 (cl u.2.1 - 1) (by omega) (by omega)
  have := s205 (d := d) hd (h := h) u1 (by rw [u2]; omega) (by rw [u3]; exact R.2.1) (by rw [u3]; exact u8) D1 (by rw [e]; exact (hh _ (by omega) (by omega)).1)
  rw [this, e, hva]
theorem s209 {d : Nat} (hd : 4 ≤ d) {h : dm_H} (D : DC cl kd) (U : UR cl kd u p h) (R : RU cl kd ly oc u) {v : mA} (hva : va h 185 = v) (hJ : Jg u.2.2.2.1 u.2.2.2.2 v) (hn : 0 ≤ gi h 165 34 ∧ gi h 165 34 ≤ 33) :
    (∃ g, dF d 209 [dR 1 11 165, dI p] h = rI g h ∧ (0 ≤ g ∧ g < gi h 165 34) ∧ gi h 188 g = gkv cl u v ∧ ∀ x, 0 ≤ x → x < g → gi h 188 x ≠ gkv cl u v) ∨
    ((∀ x, 0 ≤ x → x < gi h 165 34 → gi h 188 x ≠ gkv cl u v) ∧ (gi h 165 34 = 33 → dF d 209 [dR 1 11 165, dI p] h = rI (-1) h) ∧ (gi h 165 34 < 33 → dF d 209 [dR 1 11 165, dI p] h = rI (gi h 165 34) (si (si (si (si h 188 (gi h 165 34) (gkv cl u v)) 189 (gi h 165 34) 0) 190 (gi h 165 34) 0) 165 34 (gi h 165 34 + 1)))) := by
  rw [f209 (by omega), b209_0, s207k (by omega) D U R hva hJ (show (0 : Int) ≤ 0 ∧ (0 : Int) ≤ 99 by omega), bk_v, b209_6, Int.zero_mul, Int.add_zero]
  have loop : ∀ (m : Nat) (k : Int), 0 ≤ k → k + m = gi h 165 34 → (∀ x, 0 ≤ x → x < k → gi h 188 x ≠ gkv cl u v) →
      (∃ g, dL (d - 1) 209 9 [lR 1 11 165, lI p, lI (gkv cl u v), lI k] [] h = rI g h ∧ (0 ≤ g ∧ g < gi h 165 34) ∧ gi h 188 g = gkv cl u v ∧ ∀ x, 0 ≤ x → x < g → gi h 188 x ≠ gkv cl u v) ∨
      ((∀ x, 0 ≤ x → x < gi h 165 34 → gi h 188 x ≠ gkv cl u v) ∧ (gi h 165 34 = 33 → dL (d - 1) 209 9 [lR 1 11 165, lI p, lI (gkv cl u v), lI k] [] h = rI (-1) h) ∧ (gi h 165 34 < 33 → dL (d - 1) 209 9 [lR 1 11 165, lI p, lI (gkv cl u v), lI k] [] h = rI (gi h 165 34) (si (si (si (si h 188 (gi h 165 34) (gkv cl u v)) 189 (gi h 165 34) 0) 190 (gi h 165 34) 0) 165 34 (gi h 165 34 + 1)))) := by
    intro m
    induction m with
    | zero =>
      intro k k0 km hk
      right
      have ek : k = gi h 165 34 := by omega
      refine ⟨fun x x0 x1 => hk x x0 (by omega), fun q => ?_, fun q => ?_⟩
      · rw [b209_9, if_neg (by omega), if_pos q]
      · rw [b209_9, if_neg (by omega), if_neg (by omega), ix_p (by omega) (by omega)]
        have a1 : ∀ x, gi (si h 188 (gi h 165 34) x) 165 34 = gi h 165 34 := fun x => gi_sin (by decide)
        have a2 : ∀ x y, gi (si (si h 188 (gi h 165 34) x) 189 (gi h 165 34) y) 165 34 = gi h 165 34 := fun x y => by rw [gi_sin (by decide), a1]
        have a3 : ∀ x y z, gi (si (si (si h 188 (gi h 165 34) x) 189 (gi h 165 34) y) 190 (gi h 165 34) z) 165 34 = gi h 165 34 := fun x y z => by rw [gi_sin (by decide), a2]
        simp only [a1, a2, a3]
        rw [ix_p (by omega) (by omega), ix_p (by omega) (by omega), ck_p (by omega) (by omega)]
        rw [gi_sis, ck_p (by omega) (by omega), show gi h 165 34 + 1 - 1 = gi h 165 34 by omega]
    | succ m ih =>
      intro k k0 km hk
      by_cases q : gi h 188 k = gkv cl u v
      · left
        refine ⟨k, ?_, ⟨k0, by omega⟩, q, hk⟩
        rw [b209_9, if_pos (by omega), ix_p k0 (by omega), if_pos q]
      · rw [b209_9, if_pos (by omega), ix_p k0 (by omega), if_neg q, ck_p (by omega) (by omega)]
        refine ih (k + 1) (by omega) (by omega) (fun x x0 x1 => ?_)
        by_cases z : x = k
        · rw [z]; exact q
        · exact hk x x0 (by omega)
  exact loop (gi h 165 34).toNat 0 (by omega) (by omega) (fun x x0 x1 => by omega)
/-- one binding more in the groups -/
theorem GRr_old {l : List mA} {h h' : dm_H} {v : mA} {g : Int} (G : GRr cl u l h) (hg : 0 ≤ g ∧ g < gi h 165 34) (hk : gi h 188 g = gkv cl u v) (e1 : gi h' 165 34 = gi h 165 34) (e2 : ∀ x, gi h' 188 x = gi h 188 x) (e3 : ∀ x, gi h' 189 x = if x = g then m9 (gi h 189 g + gam cl u v) else gi h 189 x) (ha : 0 ≤ gam cl u v) : GRr cl u (l ++ [v]) h' := by
  obtain ⟨g1, g2, g3, g4⟩ := G
  refine ⟨by rw [e1]; exact g1, fun x y x0 xy y1 => ?_, fun x x0 x1 => ?_, fun w hw => ?_⟩
  · rw [e1] at y1
    rw [e2, e2]; exact g2 x y x0 xy y1
  · rw [e1] at x1
    obtain ⟨⟨w, w1, w2⟩, w3⟩ := g3 x x0 x1
    rw [e2, e3, gsm_one]
    refine ⟨⟨w, List.mem_append_left _ w1, w2⟩, ?_⟩
    by_cases q : x = g
    · rw [if_pos q, ← q, w3, m9_add ha, if_pos (by rw [q]; exact hk.symm)]
    · have : gkv cl u v ≠ gi h 188 x := by
        rw [← hk]
        rcases (show x < g ∨ g < x by omega) with z | z
        · exact fun w => g2 x g x0 z hg.2 w.symm
        · exact g2 g x hg.1 z x1
      rw [if_neg q, w3, if_neg this, Int.add_zero]
  · rcases List.mem_append.mp hw with hw | hw
    · obtain ⟨x, x0, x1, x2⟩ := g4 w hw
      exact ⟨x, x0, by rw [e1]; exact x1, by rw [e2]; exact x2⟩
    · rw [List.mem_singleton] at hw
      subst hw
      exact ⟨g, hg.1, by rw [e1]; exact hg.2, by rw [e2]; exact hk⟩
theorem GRr_new {l : List mA} {h h' : dm_H} {v : mA} {g : Int} (G : GRr cl u l h) (hg : g = gi h 165 34) (g33 : g < 33) (hk : ∀ x, 0 ≤ x → x < g → gi h 188 x ≠ gkv cl u v) (e1 : gi h' 165 34 = gi h 165 34 + 1) (e2 : ∀ x, gi h' 188 x = if x = g then gkv cl u v else gi h 188 x) (e3 : ∀ x, gi h' 189 x = if x = g then m9 (0 + gam cl u v) else gi h 189 x) : GRr cl u (l ++ [v]) h' := by
  obtain ⟨g1, g2, g3, g4⟩ := G
  refine ⟨by omega, fun x y x0 xy y1 => ?_, fun x x0 x1 => ?_, fun w hw => ?_⟩
  · rw [e1] at y1
    rw [e2, e2, if_neg (show ¬ x = g by omega)]
    by_cases q : y = g
    · rw [if_pos q]; exact hk x x0 (by omega)
    · rw [if_neg q]; exact g2 x y x0 xy (by omega)
  · rw [e1] at x1
    rw [e2, e3, gsm_one]
    by_cases q : x = g
    · rw [if_pos q, if_pos q, if_pos rfl, gsm_none (fun w hw z => by
        obtain ⟨y, y0, y1, y2⟩ := g4 w hw
        exact hk y y0 (by omega) (by rw [y2, z]))]
      exact ⟨⟨v, List.mem_append_right _ (List.mem_singleton.mpr rfl), rfl⟩, rfl⟩
    · rw [if_neg q, if_neg q]
      obtain ⟨⟨w, w1, w2⟩, w3⟩ := g3 x x0 (by omega)
      refine ⟨⟨w, List.mem_append_left _ w1, w2⟩, ?_⟩
      rw [if_neg (fun z => hk x x0 (by omega) z.symm), Int.add_zero, w3]
  · rcases List.mem_append.mp hw with hw | hw
    · obtain ⟨x, x0, x1, x2⟩ := g4 w hw
      exact ⟨x, x0, by omega, by rw [e2, if_neg (by omega)]; exact x2⟩
    · rw [List.mem_singleton] at hw
      subst hw
      exact ⟨g, by omega, by omega, by rw [e2, if_pos rfl]⟩
theorem UR_GW {h : dm_H} (D : DC cl kd) (U : UR cl kd u p h) (R : RU cl kd ly oc u) {ω : mW} (V : VW cl kd ω) : GW (rRl h p) ω u.2.2.2.2 ∧ bnd (rRl h p) ω u.2.2.2.2.toNat 0 v0 = bnds u ω := by
  have G := RU_GW D R V
  exact ⟨GW_sim U.2.2.2.2.2.1 G, bnd_sim U.2.2.2.2.2.1 (GW_wd G) _ 0 v0 (by omega) (by have := G.1; omega)⟩
/-- begins: the search stands before all bindings -/
theorem s189u {d : Nat} (hd : 1 ≤ d) {h : dm_H} (D : DC cl kd) (U : UR cl kd u p h) (R : RU cl kd ly oc u) (V : VW cl kd (rW h)) : ∃ h', dF d 189 [dR 1 11 165, dI u.2.2.2.2] h = rV h' ∧ frM h h' ∧ gi h' 165 34 = gi h 165 34 ∧ (∀ a i, a = 179 ∨ a = 180 ∨ (a = 165 ∧ i = 27) → gi h' a i = gi h a i) ∧ Itr (rRl h' p) (rW h') u.2.2.2.2 h' (bnds u (rW h)) := by
  have G := (UR_GW D U R V)
  have hva : va (sv (sv (si (si (si (si h 165 32 u.2.2.2.2) 165 33 1) 165 31 0) 187 0 0) 185 (fun _ => -1)) 186 (fun _ => -1)) 185 = v0 := by
    funext s
    unfold va v0
    split
    · rename_i q
      rw [gi_svn (by decide), gi_svi q]
    · rfl
  have er : eqf h (sv (sv (si (si (si (si h 165 32 u.2.2.2.2) 165 33 1) 165 31 0) 187 0 0) 185 (fun _ => -1)) 186 (fun _ => -1)) := ⟨fun i => by rw [gi_svn (by decide), gi_svn (by decide), gi_sin (by decide), gi_sin (by decide), gi_sin (by decide), gi_sin (by decide)], fun i => by rw [gi_svn (by decide), gi_svn (by decide), gi_sin (by decide), gi_sin (by decide), gi_sin (by decide), gi_sin (by decide)], fun i => by rw [gi_svn (by decide), gi_svn (by decide), gi_sin (by decide), gi_sin (by decide), gi_sin (by decide), gi_sin (by decide)], fun i => by rw [gi_svn (by decide), gi_svn (by decide), gi_sin (by decide), gi_sin (by decide), gi_sin (by decide), gi_sin (by decide)]⟩
  refine ⟨_, s189 hd _ h, ?_, ?_, ?_, ?_, Or.inl ⟨?_, ?_, fun s s0 s1 => gi_svi ⟨s0, s1⟩, by rw [hva]; exact v0_J _, ?_⟩⟩
  · refine ⟨fun a i n1 n2 n3 n4 => ?_, fun _ _ => rfl, rfl⟩
    rw [gi_svn (by omega), gi_svn (by omega), gi_sin (by omega), gi_si, if_neg (by omega), gi_si, if_neg (by omega), gi_si, if_neg (by omega)]
  · rw [gi_svn (by decide), gi_svn (by decide), gi_sin (by decide), gi_sij (by decide), gi_sij (by decide), gi_sij (by decide)]
  · intro a i q
    rw [gi_svn (by omega), gi_svn (by omega), gi_sin (by omega), gi_si, if_neg (by omega), gi_si, if_neg (by omega), gi_si, if_neg (by omega)]
  · rw [gi_svn (by decide), gi_svn (by decide), gi_sin (by decide), gi_sij (by decide), gi_sij (by decide), gi_sis]
  · rw [gi_svn (by decide), gi_svn (by decide), gi_sin (by decide), gi_sij (by decide), gi_sis]
  · rw [gi_svn (by decide), gi_svn (by decide), gi_sis]
  · rw [hva, eqf_R er, eqf_W er]
    exact G.2.symm
end RG
