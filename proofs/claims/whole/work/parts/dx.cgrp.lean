/-! COSTS: the bindings of a rule with groups -/
section CVG
variable {A P : Nat} {N : Int} {h0 h : dm_H}
theorem gcv_none {pr : Int} {ρ : mR} {ω : mW} {f : Int → Int → Int} {n : Nat} {g : mA → Int} {key : Int} {l : List mA} (h : ∀ w, w ∈ l → g w ≠ key) : gcv pr ρ ω f n g key l = 0 := by
  unfold gcv
  have : ∀ (l : List mA) (a : Int), (∀ w, w ∈ l → g w ≠ key) → l.foldl (fun a v => if g v = key then cmg pr a (bcv pr ρ ω f v n) else a) a = a := by
    intro l
    induction l with
    | nil => exact fun a _ => rfl
    | cons v l ih =>
      intro a h
      rw [List.foldl_cons, if_neg (h v List.mem_cons_self)]
      exact ih a (fun w hw => h w (List.mem_cons_of_mem _ hw))
  exact this l 0 h
theorem cod1_m {a b x y G0 G1 B0 B1 : Int} (c : cod1 a b G0 G1) (e : cod1 x y B0 B1) : (a = -1 → cod1 a b (cmg 0 G0 B0) (cmg 1 G1 B1)) ∧ (a ≠ -1 → (x = -1 → cod1 (-1) (m9 (b + y)) (cmg 0 G0 B0) (cmg 1 G1 B1)) ∧ (x ≠ -1 → cod1 (if a < x then x else a) (m9 (b + y)) (cmg 0 G0 B0) (cmg 1 G1 B1))) := by
  have vy : 0 ≤ y ∧ y ≤ 9999 := by unfold cod1 at e; omega
  have vb : 0 ≤ b ∧ b ≤ 9999 := by unfold cod1 at c; omega
  have hm : 0 ≤ m9 (b + y) ∧ m9 (b + y) ≤ 9999 := by unfold m9; split <;> omega
  refine ⟨fun q => ?_, fun q => ⟨fun p => ?_, fun p => ?_⟩⟩
  · have : G0 = 1000000 ∧ G1 = 1000000 := by unfold cod1 at c; omega
    refine Or.inl ⟨q, ?_, ?_, vb⟩
    · unfold cmg; rw [if_pos (Or.inr this.1)]
    · unfold cmg; rw [if_pos (Or.inr this.2)]
  · have : B0 = 1000000 ∧ B1 = 1000000 := by unfold cod1 at e; omega
    refine Or.inl ⟨rfl, ?_, ?_, hm⟩
    · unfold cmg; rw [if_pos (Or.inl this.1)]
    · unfold cmg; rw [if_pos (Or.inl this.2)]
  · obtain ⟨⟨c1, c2, c3⟩, c4, c5, c6⟩ := c.resolve_left (fun z => q z.1)
    obtain ⟨⟨e1, e2, e3⟩, e4, e5, e6⟩ := e.resolve_left (fun z => p z.1)
    have q0 : cmg 0 G0 B0 = if a < x then x else a := by
      unfold cmg
      rw [if_neg (show ¬ (B0 = 1000000 ∨ G0 = 1000000) by omega), if_pos rfl, ← c1, ← e1]
    have q1 : cmg 1 G1 B1 = m9 (b + y) := by
      unfold cmg
      rw [if_neg (show ¬ (B1 = 1000000 ∨ G1 = 1000000) by omega), if_neg (show ¬ (1 : Int) = 0 by decide), ← c4, ← e4]
    rw [q0, q1]
    exact Or.inr ⟨⟨rfl, by split <;> omega, by split <;> omega⟩, rfl, hm⟩
/-- what costs of groups touch -/
def frGc (h h' : dm_H) : Prop := (∀ a i, a ≠ 138 → a ≠ 139 → ¬ (a = 137 ∧ (i = 2 ∨ i = 3 ∨ i = 5)) → ¬ (a = 140 ∧ (i = 2 ∨ i = 3)) → a ≠ 141 → a ≠ 142 → ¬ (a = 144 ∧ (i = 11 ∨ i = 12)) → a ≠ 159 → a ≠ 160 → gi h' a i = gi h a i) ∧ (∀ a i, gr h' a i = gr h a i) ∧ h'.2.2 = h.2.2
theorem frGc_refl (h : dm_H) : frGc h h := ⟨fun _ _ _ _ _ _ _ _ _ _ _ => rfl, fun _ _ => rfl, rfl⟩
theorem frGc_t {h h1 h2 : dm_H} (a : frGc h h1) (b : frGc h1 h2) : frGc h h2 := ⟨fun c i p1 p2 p3 p4 p5 p6 p7 p8 p9 => by rw [b.1 c i p1 p2 p3 p4 p5 p6 p7 p8 p9, a.1 c i p1 p2 p3 p4 p5 p6 p7 p8 p9], fun c i => by rw [b.2.1, a.2.1], by rw [b.2.2, a.2.2]⟩
theorem frGc_q {P : Nat} {h h' : dm_H} (a : Jq P h h') : frGc h h' := ⟨fun c i p1 p2 p3 _ _ _ _ _ _ => a.1.1 c i p1 p2 p3, a.1.2, a.2⟩
theorem frGc_C {h h' : dm_H} (a : frGc h h') : frC h h' := ⟨fun c i p1 p2 p3 p4 => a.1 c i p2 p3 p4 (by omega) (by omega) (by omega) (by omega) (by omega) (by omega), a.2.1, a.2.2⟩
theorem smc_Gc {h h' : dm_H} (a : frGc h h') : smc h h' := ⟨fun c i z => a.1 c i (by omega) (by omega) (by omega) (by omega) (by omega) (by omega) (by omega) (by omega) (by omega), a.1 _ _ (by omega) (by omega) (by omega) (by omega) (by omega) (by omega) (by omega) (by omega) (by omega), a.1 _ _ (by omega) (by omega) (by omega) (by omega) (by omega) (by omega) (by omega) (by omega) (by omega)⟩
/-- what the groups cost after a list of bindings -/
def GS (ρ : mR) (ω : mW) (N : Int) (gk : mA → Int) (f0 f1 : Int → Int → Int) (l : List mA) (h : dm_H) : Prop := ∀ x, 0 ≤ x → x < 32 → (x < gi h 140 2 → cod1 (gi h 159 x) (gi h 160 x) (gcv 0 ρ ω f0 N.toNat gk (gi h 141 x) l) (gcv 1 ρ ω f1 N.toNat gk (gi h 141 x) l)) ∧ (gi h 140 2 ≤ x → gi h 159 x = 0 ∧ gi h 160 x = 0)
theorem GS_s {cl : Int → Int} {u : mU} {ρ : mR} {ω : mW} {f0 f1 : Int → Int → Int} {l : List mA} {v : mA} {H h' h2 : dm_H} {g : Int} (G0 : GR cl u l H) (S : GS ρ ω N (gkv cl u) f0 f1 l H) (G1 : GR cl u (l ++ [v]) h') (hg : 0 ≤ g ∧ g < gi h' 140 2) (hk : gi h' 141 g = gkv cl u v) (keep : ∀ x, x < gi H 140 2 → gi h' 141 x = gi H 141 x) (le : gi H 140 2 ≤ gi h' 140 2) (e159 : ∀ x, gi h' 159 x = gi H 159 x ∧ gi h' 160 x = gi H 160 x)
    (o1 : gi h2 140 2 = gi h' 140 2) (o2 : ∀ x, gi h2 141 x = gi h' 141 x) (o3 : ∀ x, x ≠ g → gi h2 159 x = gi h' 159 x ∧ gi h2 160 x = gi h' 160 x) (o4 : ∀ X Y, cod1 (gi h' 159 g) (gi h' 160 g) X Y → cod1 (gi h2 159 g) (gi h2 160 g) (cmg 0 X (bcv 0 ρ ω f0 v N.toNat)) (cmg 1 Y (bcv 1 ρ ω f1 v N.toNat))) : GS ρ ω N (gkv cl u) f0 f1 (l ++ [v]) h2 := by
  obtain ⟨a1, a2, a3, a4⟩ := G0
  obtain ⟨b1, b2, b3, b4⟩ := G1
  have dis : ∀ x y, 0 ≤ x → 0 ≤ y → x < gi h' 140 2 → y < gi h' 140 2 → gi h' 141 x = gi h' 141 y → x = y := fun x y x0 y0 x1 y1 e => by
    rcases Int.lt_trichotomy x y with z | z | z
    · exact absurd e (b2 x y x0 z y1)
    · exact z
    · exact absurd e.symm (b2 y x y0 z x1)
  have noold : ∀ x, 0 ≤ x → x < gi h' 140 2 → gi H 140 2 ≤ x → ∀ w, w ∈ l → gkv cl u w ≠ gi h' 141 x := fun x x0 x1 x2 w hw e => by
    obtain ⟨y, y0, y1, y2⟩ := a4 w hw
    have := dis y x y0 x0 (by omega) x1 (by rw [keep y y1, y2]; exact e)
    omega
  have isg : ∀ x, 0 ≤ x → x < gi h' 140 2 → gi H 140 2 ≤ x → x = g := fun x x0 x1 x2 => by
    obtain ⟨⟨w, w1, w2⟩, -⟩ := b3 x x0 x1
    rcases List.mem_append.mp w1 with z | z
    · exact absurd w2 (noold x x0 x1 x2 w z)
    · rw [List.mem_singleton.mp z, ← hk] at w2
      exact (dis g x hg.1 x0 hg.2 x1 w2).symm
  intro x x0 x1
  rw [o1, o2]
  refine ⟨fun q => ?_, fun q => ?_⟩
  · by_cases e : x = g
    · subst e
      rw [gcv_s, gcv_s, if_pos hk.symm, if_pos hk.symm]
      refine o4 _ _ ?_
      rw [(e159 x).1, (e159 x).2]
      by_cases z : x < gi H 140 2
      · rw [keep x z]; exact (S x x0 x1).1 z
      · have n0 := gcv_none (pr := 0) (ρ := ρ) (ω := ω) (f := f0) (n := N.toNat) (noold x x0 q (by omega))
        have n1 := gcv_none (pr := 1) (ρ := ρ) (ω := ω) (f := f1) (n := N.toNat) (noold x x0 q (by omega))
        have := (S x x0 x1).2 (by omega)
        rw [n0, n1, this.1, this.2]
        exact Or.inr ⟨⟨rfl, by omega, by omega⟩, rfl, by omega, by omega⟩
    · have z : x < gi H 140 2 := by
        rcases Int.lt_or_le x (gi H 140 2) with z | z
        · exact z
        · exact absurd (isg x x0 q z) e
      have hne : ¬ gkv cl u v = gi h' 141 x := fun w => e (dis x g x0 hg.1 q hg.2 (by rw [hk]; exact w.symm))
      rw [gcv_s, gcv_s, if_neg hne, if_neg hne, (o3 x e).1, (o3 x e).2, (e159 x).1, (e159 x).2, keep x z]
      exact (S x x0 x1).1 z
  · have e : x ≠ g := by omega
    rw [(o3 x e).1, (o3 x e).2, (e159 x).1, (e159 x).2]
    exact (S x x0 x1).2 (by omega)
/-- the state after a list of bindings -/
def CGt (A P : Nat) (N : Int) (h0 : dm_H) (l : List mA) (h : dm_H) : Prop := frGc h0 h ∧ GR (cK h0) (uR h0 A) l h ∧ GS (cR h0 A) (cW h0 P) N (gkv (cK h0) (uR h0 A)) (hF h0) (pF h0) l h
/-- a binding goes to its group -/
theorem cvg_N {v : mA} {B l : List mA} {d : Nat} (hd : 3 ≤ d) (W : WG A P N h0) (U : GU (cK h0) (uR h0 A) A h0) (ht : ∀ i, 0 ≤ i → i < cK h0 (gi h0 A 2) → 0 ≤ tv v (gi h0 (A + 1) i) ∧ tv v (gi h0 (A + 1) i) ≤ 99) (hnt : ¬ tmg (cK h0) (uR h0 A) B) (hl : ∀ w, w ∈ l → w ∈ B) (ham : ∀ w, w ∈ B → 0 ≤ gam (cK h0) (uR h0 A) w) (V : CV h0) (s : CGt A P N h0 l h) (hva : va h 138 = v) (hB : v ∈ B) (PL : PLc h0 A P N v h) :
    ∃ h2, dF d 23 [dR 1 0 144, dI N] h = rI 0 h2 ∧ (∀ a i, a < 140 → gi h2 a i = gi h a i) ∧ CGt A P N h0 (l ++ [v]) h2 := by
  obtain ⟨s1, s2, s3⟩ := s
  have W0 := W
  obtain ⟨⟨a1, a2⟩, ⟨r1, r2⟩, ⟨c1, c2, c3⟩, w4, w5, w6, w7⟩ := W0
  have hP : P = 95 ∨ P = 112 := r2
  have hA := ru_ne r1
  have lo : ∀ a i, a < 137 → gi h a i = gi h0 a i := fun a i ha => s1.1 a i (by omega) (by omega) (by omega) (by omega) (by omega) (by omega) (by omega) (by omega) (by omega)
  have WH := WG_cg lo (fun i => s1.2.1 144 i) W
  have sm := smc_Gc s1
  have eF : hF h = hF h0 ∨ True := Or.inr trivial
  obtain ⟨H, x1, x2, x3⟩ := s24 (d := d - 1) (h := h) (by omega) WH (fun r x r0 r6 x0 x1 rg => by rw [sm.1 _ _ (Or.inl (by omega)), sm.1 _ _ (Or.inr (by omega))]; exact V r x r0 r6 x0 x1 (by rw [← sm.2.2]; exact rg)) (PLc_h (Int.le_refl _) W lo PL)
  have acF : ∀ {f g : Int → Int → Int}, (∀ r x, 0 ≤ r → r < 6 → f r x = g r x) → ∀ pr, bcv pr (cR h A) (cW h P) f v N.toNat = bcv pr (cR h0 A) (cW h0 P) g v N.toNat := fun {f g} efg pr => by
    have : ∀ n : Nat, (n : Int) ≤ N → bcv pr (cR h A) (cW h P) f v n = bcv pr (cR h0 A) (cW h0 P) g v n := by
      intro n
      induction n with
      | zero => exact fun _ => rfl
      | succ n ih =>
        intro hn
        show cmg pr (bcv pr (cR h A) (cW h P) f v n) (if gi h (A + 2) n = 0 then acv (cR h A) (cW h P) f n v else 0) = cmg pr (bcv pr (cR h0 A) (cW h0 P) g v n) (if gi h0 (A + 2) n = 0 then acv (cR h0 A) (cW h0 P) g n v else 0)
        rw [ih (by omega), lo _ _ (by omega)]
        by_cases q : gi h0 (A + 2) n = 0
        · have hr := (w4 n (by omega) (by omega) q).1
          rw [if_pos q, if_pos q, acv_e W lo (by omega) q]
          have : (fun x => f ((cR h0 A).2.1 n) x) = fun x => g ((cR h0 A).2.1 n) x := funext (fun x => efg _ x hr.1 hr.2)
          unfold acv
          rw [this]
        · rw [if_neg q, if_neg q]
    exact this _ (by omega)
  rw [acF (fun r x _ r1 => (smc_F sm r1).1), acF (fun r x _ r1 => (smc_F sm r1).2)] at x3
  have eH : ∀ a i, a < 137 → gi H a i = gi h0 a i := fun a i ha => by rw [x2.1 _ _ (by omega)]; exact lo a i ha
  have fH : frGc h H := ⟨fun a i _ _ _ _ _ _ p7 _ _ => x2.1 a i p7, x2.2.1, x2.2.2⟩
  have hvH : va H 138 = v := by
    rw [← hva]; funext s; unfold va; rw [x2.1 _ _ (by omega)]
  have c0 : dF d 23 [dR 1 0 144, dI N] h = dL (d - 1) 23 17 [lR 1 0 144, lI N, none, none] [] H := by
    rw [f23 (by omega), b23_0, s1.2.1, a1, lo _ _ hA.1, c1, if_neg (by omega), x1, bk_n]
  obtain ⟨u1, u2, u3, u4, u5, u6⟩ := U
  have hk : ¬ gi H (gr H 144 6) 1 = 0 := by
    rw [x2.2.1, s1.2.1, a1, eH _ _ hA.1, u4]
    omega
  have UH : GU (cK h0) (uR h0 A) A H := ⟨by rw [x2.2.1, s1.2.1]; exact u1, by rw [eH _ _ hA.1]; exact u2, fun i => by rw [eH _ _ (by omega)]; exact u3 i, by rw [eH _ _ hA.1]; exact u4, u5, u6⟩
  have GH : GR (cK h0) (uR h0 A) l H := GR_cg (fun a i q => x2.1 a i (by omega)) s2
  have SH : GS (cR h0 A) (cW h0 P) N (gkv (cK h0) (uR h0 A)) (hF h0) (pF h0) l H := fun x p q => by
    rw [x2.1 140 2 (by omega), x2.1 159 x (by omega), x2.1 160 x (by omega), x2.1 141 x (by omega)]
    exact s3 x p q
  rw [c0, b23_17, if_neg hk]
  rcases s29 (d := d - 1) (by omega) UH hvH ht GH (fun w hw => ham w (hl w hw)) r1 with ⟨g, h', y1, y2, y3, y4, y5, y6, y7⟩ | ⟨y1, y2, y3⟩
  case inr =>
    refine absurd ⟨fun x => if x = 32 then gkv (cK h0) (uR h0 A) v else gi H 141 x, fun x p q => ?_, fun x y p xy q => ?_⟩ hnt
    · show ∃ w, w ∈ B ∧ gkv (cK h0) (uR h0 A) w = (if x = 32 then gkv (cK h0) (uR h0 A) v else gi H 141 x)
      by_cases z : x = 32
      · rw [if_pos z]; exact ⟨v, hB, rfl⟩
      · rw [if_neg z]
        obtain ⟨⟨w, w1, w2⟩, _⟩ := GH.2.2.1 x p (by omega)
        exact ⟨w, hl w w1, w2⟩
    · show (if x = 32 then gkv (cK h0) (uR h0 A) v else gi H 141 x) ≠ (if y = 32 then gkv (cK h0) (uR h0 A) v else gi H 141 y)
      rw [if_neg (by omega)]
      by_cases z : y = 32
      · rw [if_pos z]; exact y3 x p (by omega)
      · rw [if_neg z]; exact GH.2.1 x y p xy (by omega)
  have g32 : g < 32 := by have := y2.1; omega
  have e9 : ∀ a i, a ≠ 140 → a ≠ 141 → a ≠ 142 → gi h' a i = gi H a i := fun a i q1 q2 q3 => y3.1 a i (by omega) q2 q3
  have fG : frGc H h' := ⟨fun a i _ _ _ p4 p5 p6 _ _ _ => y3.1 a i (fun z => p4 ⟨z.1, Or.inl z.2⟩) p5 p6, y3.2.1, y3.2.2⟩
  have f0 : frGc h0 h' := frGc_t s1 (frGc_t fH fG)
  have e11 : gi h' 144 11 = gi H 144 11 ∧ gi h' 144 12 = gi H 144 12 := ⟨e9 _ _ (by omega) (by omega) (by omega), e9 _ _ (by omega) (by omega) (by omega)⟩
  have lowH : ∀ a i, a < 140 → gi h' a i = gi h a i := fun a i ha => by rw [e9 a i (by omega) (by omega) (by omega), x2.1 a i (by omega)]
  have ycod : ∃ X Y, cod1 (gi h' 159 g) (gi h' 160 g) X Y := by
    rw [e9 159 g (by omega) (by omega) (by omega), e9 160 g (by omega) (by omega) (by omega)]
    by_cases z : g < gi H 140 2
    · exact ⟨_, _, (SH g y4.1 g32).1 z⟩
    · have := (SH g y4.1 g32).2 (by omega)
      rw [this.1, this.2]
      exact ⟨0, 0, Or.inr ⟨⟨rfl, by omega, by omega⟩, rfl, by omega, by omega⟩⟩
  have y160 : 0 ≤ gi h' 160 g ∧ gi h' 160 g ≤ 9999 := by
    obtain ⟨X, Y, z⟩ := ycod
    unfold cod1 at z; omega
  have y12 : 0 ≤ gi h' 144 12 ∧ gi h' 144 12 ≤ 9999 := by rw [e11.2]; unfold cod1 at x3; omega
  rw [y1, bk_v, b23_90, if_neg (by omega), ix_p y4.1 g32]
  by_cases q : gi h' 159 g = -1
  · rw [if_pos q, b23_106]
    refine ⟨h', rfl, lowH, f0, y2, GS_s GH SH y2 y4 y5 y6 y7 (fun x => ⟨e9 _ _ (by omega) (by omega) (by omega), e9 _ _ (by omega) (by omega) (by omega)⟩) rfl (fun _ => rfl) (fun _ _ => ⟨rfl, rfl⟩) (fun X Y z => (cod1_m z x3).1 q)⟩
  · rw [if_neg q]
    have fin_ : ∀ (b : Int) (w3 : Option dm_V), (∀ X Y, cod1 (gi h' 159 g) (gi h' 160 g) X Y → cod1 b (m9 (gi h' 160 g + gi h' 144 12)) (cmg 0 X (bcv 0 (cR h0 A) (cW h0 P) (hF h0) v N.toNat)) (cmg 1 Y (bcv 1 (cR h0 A) (cW h0 P) (pF h0) v N.toNat))) → ∃ h2, dL (d - 1) 23 148 [lR 1 0 144, lI N, lI g, w3] [dI b, dI g, dR 2 32 159] h' = rI 0 h2 ∧ (∀ a i, a < 140 → gi h2 a i = gi h a i) ∧ CGt A P N h0 (l ++ [v]) h2 := by
      intro b w3 hb
      refine ⟨si (si h' 159 g b) 160 g (m9 (gi h' 160 g + gi h' 144 12)), ?_, fun a i ha => by rw [gi_sin (by omega), gi_sin (by omega)]; exact lowH a i ha, frGc_t f0 ⟨fun a i _ _ _ _ _ _ _ p8 p9 => by rw [gi_sin p9, gi_sin p8], fun _ _ => rfl, rfl⟩, GR_cg (fun a i z => by rw [gi_sin (by omega), gi_sin (by omega)]) y2, GS_s GH SH y2 y4 y5 y6 y7 (fun x => ⟨e9 _ _ (by omega) (by omega) (by omega), e9 _ _ (by omega) (by omega) (by omega)⟩) (by rw [gi_sin (by decide), gi_sin (by decide)]) (fun x => by rw [gi_sin (by decide), gi_sin (by decide)]) (fun x z => ⟨by rw [gi_sin (by decide), gi_sij z], by rw [gi_sij z, gi_sin (by decide)]⟩) (fun X Y z => by rw [gi_sin (by decide), gi_sis, gi_sis]; exact hb X Y z)⟩
      have n1 : gi (si h' 159 g b) 160 g = gi h' 160 g := gi_sin (by decide)
      have n2 : gi (si h' 159 g b) 144 12 = gi h' 144 12 := gi_sin (by decide)
      rw [b23_148, ix_p y4.1 g32, ix_p y4.1 g32, n1, n2, ck_p (by omega) (by omega), ix_p y4.1 g32, m9_if]
    by_cases z : gi h' 144 11 = -1
    · rw [if_pos z, b23_121, if_pos rfl]
      refine fin_ (-1) _ (fun X Y c => ?_)
      rw [e11.2]
      exact ((cod1_m c x3).2 q).1 (by rw [← e11.1]; exact z)
    · rw [if_neg z, b23_121, if_neg (by decide), ix_p y4.1 g32]
      refine fin_ _ _ (fun X Y c => ?_)
      rw [e11.1, e11.2]
      exact ((cod1_m c x3).2 q).2 (by rw [← e11.1]; exact z)
end CVG
