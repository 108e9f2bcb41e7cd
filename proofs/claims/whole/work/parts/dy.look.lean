/-! COSTS: a rule is gone through -/
section CLK
variable {A P : Nat} {N : Int} {h H : dm_H} {π : Int → Int}
/-- what finding costs touches -/
def frO (h h' : dm_H) : Prop := (∀ a i, a < 137 ∨ 161 ≤ a → gi h' a i = gi h a i) ∧ (∀ a i, a < 137 ∨ 145 ≤ a → gr h' a i = gr h a i) ∧ h'.2.2 = h.2.2
theorem frO_refl (h : dm_H) : frO h h := ⟨fun _ _ _ => rfl, fun _ _ _ => rfl, rfl⟩
theorem frO_t {h h1 h2 : dm_H} (a : frO h h1) (b : frO h1 h2) : frO h h2 := ⟨fun c i p => by rw [b.1 c i p, a.1 c i p], fun c i p => by rw [b.2.1 c i p, a.2.1 c i p], by rw [b.2.2, a.2.2]⟩
theorem frO_V {h h' : dm_H} (a : frVc h h') : frO h h' := ⟨fun c i p => a.1 c i (by omega) (by omega) (by omega) (by omega) (by omega) (by omega), fun c i _ => a.2.1 c i, a.2.2⟩
theorem frO_G {h h' : dm_H} (a : frGc h h') : frO h h' := ⟨fun c i p => a.1 c i (by omega) (by omega) (by omega) (by omega) (by omega) (by omega) (by omega) (by omega) (by omega), fun c i _ => a.2.1 c i, a.2.2⟩
theorem frO_27 {h h' : dm_H} (a : fr27 h h') : frO h h' := ⟨fun c i p => a.1 c i (by omega) (by omega) (by omega), fun c i _ => a.2.1 c i, a.2.2⟩
theorem bcv_e {h' : dm_H} (W : WG A P N h) (e : ∀ a i, a < 137 → gi h' a i = gi h a i) {f g : Int → Int → Int} (efg : ∀ r x, 0 ≤ r → r < 6 → f r x = g r x) (pr : Int) (v : mA) : bcv pr (cR h' A) (cW h' P) f v N.toNat = bcv pr (cR h A) (cW h P) g v N.toNat := by
  have W0 := W
  obtain ⟨-, ⟨r1, r2⟩, ⟨-, c2, -⟩, w4, -⟩ := W0
  have hA := ru_ne r1
  have : ∀ n : Nat, (n : Int) ≤ N → bcv pr (cR h' A) (cW h' P) f v n = bcv pr (cR h A) (cW h P) g v n := by
    intro n
    induction n with
    | zero => exact fun _ => rfl
    | succ n ih =>
      intro hn
      show cmg pr (bcv pr (cR h' A) (cW h' P) f v n) (if gi h' (A + 2) n = 0 then acv (cR h' A) (cW h' P) f n v else 0) = cmg pr (bcv pr (cR h A) (cW h P) g v n) (if gi h (A + 2) n = 0 then acv (cR h A) (cW h P) g n v else 0)
      rw [ih (by omega), e _ _ (by omega)]
      by_cases q : gi h (A + 2) n = 0
      · have hr := (w4 n (by omega) (by omega) q).1
        rw [if_pos q, if_pos q, acv_e W e (by omega) q]
        have : (fun x => f ((cR h A).2.1 n) x) = fun x => g ((cR h A).2.1 n) x := funext (fun x => efg _ x hr.1 hr.2)
        unfold acv
        rw [this]
      · rw [if_neg q, if_neg q]
  exact this _ (by omega)
theorem gcv_e {h' : dm_H} (W : WG A P N h) (e : ∀ a i, a < 137 → gi h' a i = gi h a i) {f g : Int → Int → Int} (efg : ∀ r x, 0 ≤ r → r < 6 → f r x = g r x) (pr : Int) {gk : mA → Int} {key : Int} (l : List mA) : gcv pr (cR h' A) (cW h' P) f N.toNat gk key l = gcv pr (cR h A) (cW h P) g N.toNat gk key l := by
  unfold gcv
  have : (fun (a : Int) v => if gk v = key then cmg pr a (bcv pr (cR h' A) (cW h' P) f v N.toNat) else a) = fun a v => if gk v = key then cmg pr a (bcv pr (cR h A) (cW h P) g v N.toNat) else a := by
    funext a v
    rw [bcv_e W e efg]
  rw [this]
/-- the heap where a rule begins -/
def kbg (h : dm_H) (A P : Nat) : dm_H := fill (fill (grb (bgn h A P 144) A) 159 32 0) 160 32 0
theorem kbg_gi {a : Nat} {i : Int} (h1 : ¬ (137 ≤ a ∧ a ≤ 138)) (h2 : a ≠ 140) (h3 : a ≠ 159) (h4 : a ≠ 160) : gi (kbg h A P) a i = gi h a i := by
  unfold kbg
  rw [gi_fill, if_neg (fun z => h4 z.1), gi_fill, if_neg (fun z => h3 z.1), grb_gi (fun z => h2 z.1), bgn_gi (by omega) (by omega)]
theorem kbg_j {a : Nat} {i : Int} (h1 : a = 137 ∨ a = 138) : gi (kbg h A P) a i = gi (bgn h A P 144) a i := by
  unfold kbg
  rw [gi_fill, if_neg (fun z => by omega), gi_fill, if_neg (fun z => by omega), grb_gi (fun z => by omega)]
theorem kbg_gr {a : Nat} {i : Int} : gr (kbg h A P) a i = if a = 140 ∧ i = 1 then A else gr (bgn h A P 144) a i := rfl
theorem kbg_140 : gi (kbg h A P) 140 2 = 0 ∧ ∀ x, 0 ≤ x → x < 32 → gi (kbg h A P) 159 x = 0 ∧ gi (kbg h A P) 160 x = 0 := by
  unfold kbg
  refine ⟨?_, fun x x0 x1 => ⟨?_, ?_⟩⟩
  · rw [gi_fill, if_neg (fun z => by omega), gi_fill, if_neg (fun z => by omega)]
    unfold grb
    rw [gi_sij (by decide), gi_sis]
  · rw [gi_fill, if_neg (fun z => by omega), gi_fill, if_pos ⟨rfl, x0, x1⟩]
  · rw [gi_fill, if_pos ⟨rfl, x0, x1⟩]
theorem s154b {d : Nat} (hd : 3 ≤ d) (g6 : gr h 144 6 = A) (g5 : gr h 144 5 = P) : dF d 154 [dR 1 0 144] h = dm_back (dL (d - 1) 154) dm_t154 48 [lR 1 0 144, none] [] (dF (d - 1) 22 [dR 1 5 137, dI 0] (kbg h A P)) := by
  have e6 : gr (bgn h A P 144) 144 6 = A := by rw [bgn_gn (by decide)]; exact g6
  rw [f154 (by omega), b154_0, g6, g5, s20 (by omega), bk_n, b154_16, e6, s62 (by omega), bk_n, b154_27, s21 (by omega) 32 159 0 _ (by omega), bk_n, b154_35, s21 (by omega) 32 160 0 _ (by omega), bk_n, b154_43]
  rfl
theorem frO_b : frO h (kbg h A P) := ⟨fun a i p => kbg_gi (by omega) (by omega) (by omega) (by omega), fun a i p => by rw [kbg_gr, if_neg (by omega), bgn_gn (by omega)], rfl⟩
theorem smc_b : smc h (kbg h A P) := ⟨fun a i p => kbg_gi (by omega) (by omega) (by omega) (by omega), kbg_gi (by omega) (by omega) (by omega) (by omega), kbg_gi (by omega) (by omega) (by omega) (by omega)⟩
/-- a heap with other costs is one of the same facts and rows -/
theorem frO_IN (I : IN0 π h) (f : frO h H) : IN0 π H ∧ RLc H = RLc h := low_all2 I (fun a i q _ => f.1 a i (by omega)) (fun a i q => f.2.1 a i (Or.inl q))
/-- what a rule of the book is, in a heap with other costs -/
theorem frO_at (I : IN0 π h) (f : frO h H) {j : Int} (j0 : 0 ≤ j) (j1 : j < gi h 13 1) (g6 : gr H 144 6 = gr h 14 j) (g5 : gr H 144 5 = gr h 1 8) : RIc (gr h 14 j) H ∧ RK H ∧ VW (cK H) (gi H 4) (cW H (gr h 1 8)) ∧ GW (cR H (gr h 14 j)) (cW H (gr h 1 8)) (gi H (gr h 14 j) 4) ∧ (gi H (gr h 14 j) 1 ≠ 3 → RU (cK H) (gi H 4) (gi H 7) (ocL (RLc H)) (uR H (gr h 14 j))) ∧ (still h (gr h 1 8) → still H (gr h 1 8)) ∧ WG (gr h 14 j) (gr h 1 8) (gi H (gr h 14 j) 4) H := by
  have hW := I.2.2.2.2.2.2.2.2.2.1
  have hP : gr h 1 8 = 95 ∨ gr h 1 8 = 112 := hW.1
  obtain ⟨IH, -⟩ := frO_IN I f
  have lr : ∀ a i, a < 137 → gr H a i = gr h a i := fun a i q => f.2.1 a i (Or.inl q)
  have e14 : gr H 14 j = gr h 14 j := lr _ _ (by omega)
  have e8 : gr H 1 8 = gr h 1 8 := lr _ _ (by omega)
  have e13 : gi H 13 1 = gi h 13 1 := f.1 _ _ (by omega)
  have R := RIN_c (IH.2.2.1.2.2.1 j j0 (by rw [e13]; exact j1))
  have V := IH.2.2.2.2.2.2.2.2.2.2.2.2.2.2.2.1
  rw [e14] at R
  rw [e8] at V
  have K := IH.1.1
  have GG := GWc K R V
  have aw := AWc (P := gr h 1 8) K R V
  refine ⟨R, K, V, GG, fun k3 => (lay12 IH).2.2 _ ⟨j, j0, by rw [e13]; exact j1, by rw [e14]; exact k3, by rw [e14]⟩, fun S => still_to (fun a i p q => f.1 a i (Or.inl (by omega))) (fun r _ _ => f.1 _ _ (by omega)) S, ⟨g6, g5⟩, ⟨R.1, hP⟩, ⟨rfl, GG.1⟩, fun k k0 k1 q => ?_, fun r r0 r1 => (V r r0 r1).1, fun r x r0 r1 x0 x1 => ((V r r0 r1).2.1 x x0 x1).1, aw⟩
  rcases GG.2 k k0 k1 with z | z | z
  · have hg : gi H (gr h 14 j + 3) k < gi H 2 0 := by
      rcases R.2.1.2.2.2.2.2.2.1 k k0 k1 with w | w | w
      · exact w.2.1.2
      · have w : gi H (gr h 14 j + 2) k = 2 := w.1
        omega
      · have w : gi H (gr h 14 j + 2) k = 3 := w.1
        omega
    exact ⟨z.2.1, z.2.2.1, hg⟩
  · have z : gi H (gr h 14 j + 2) k = 1 := z.1
    omega
  · rcases z.1 with w | w
    · have w : gi H (gr h 14 j + 2) k = 2 := w
      omega
    · have w : gi H (gr h 14 j + 2) k = 3 := w.1
      omega
/-- rows there are of relations alone -/
theorem IN0_hn (I : IN0 π h) : ∀ r x, 0 ≤ r → r < 6 → 0 ≤ x → x < rsz h (gr h 1 8) r → r < gi h 2 0 := fun r x r0 r1 x0 x1 => by
  have := I.2.2.2.2.2.2.2.2.2.2.2.2.1 r
  rcases Int.lt_or_le r (gi h 2 0) with z | z
  · exact z
  · have := this z r1; omega
end CLK
