/-! COSTS: a binding is weighed; what is offered -/
section WGJ
variable {A P : Nat} {N : Int} {h : dm_H} {v : mA}
theorem PLc_cg {h0 h h' : dm_H} {k : Int} (e : ∀ j, gi h' 139 j = gi h 139 j) (a : PLc h0 A P k v h) : PLc h0 A P k v h' := fun j j0 j1 j2 => by
  rw [e j]; exact a j j0 j1 j2
theorem PLc_h {h0 h0' h : dm_H} {k : Int} (hN : k ≤ N) (W : WG A P N h0) (e : ∀ a i, a < 137 → gi h0' a i = gi h0 a i) (a : PLc h0 A P k v h) : PLc h0' A P k v h := fun j j0 j1 j2 => by
  obtain ⟨-, ⟨r1, r2⟩, -, w4, -⟩ := W
  have hA := ru_ne r1
  have hP : P = 95 ∨ P = 112 := r2
  have lo : ∀ x, x ≤ 6 → ∀ i, gi h0' (A + x) i = gi h0 (A + x) i := fun x hx i => e _ _ (by omega)
  rw [lo 2 (by omega)] at j2
  have hr := (w4 j j0 (by omega) j2).1
  obtain ⟨a1, a2⟩ := a j j0 j1 j2
  have et : tm h0' A j = tm h0 A j := funext (fun i => lo 5 (by omega) _)
  rw [lo 3 (by omega), lo 4 (by omega), et, show rsz h0' P (gi h0 (A + 3) j) = rsz h0 P (gi h0 (A + 3) j) from e _ _ (by omega), show rws h0' P (gi h0 (A + 3) j) (gi h 139 j) = rws h0 P (gi h0 (A + 3) j) (gi h 139 j) from e _ _ (by omega)]
  exact ⟨a1, a2⟩
theorem acv_e {h' : dm_H} (W : WG A P N h) (e : ∀ a i, a < 137 → gi h' a i = gi h a i) {f : Int → Int → Int} {k : Int} (hk : 0 ≤ k ∧ k < N) (hs : gi h (A + 2) k = 0) : acv (cR h' A) (cW h' P) f k v = acv (cR h A) (cW h P) f k v := by
  obtain ⟨-, ⟨r1, r2⟩, -, w4, -⟩ := W
  have hA := ru_ne r1
  have hP : P = 95 ∨ P = 112 := r2
  have lo : ∀ x, x ≤ 6 → ∀ i, gi h' (A + x) i = gi h (A + x) i := fun x hx i => e _ _ (by omega)
  have hr := (w4 k hk.1 hk.2 hs).1
  have et : tm h' A k = tm h A k := funext (fun i => lo 5 (by omega) _)
  have ew : rws h' P (gi h (A + 3) k) = rws h P (gi h (A + 3) k) := funext (fun i => e _ _ (by omega))
  show mnI (fun x => ftk (tm h' A k) (gi h' (A + 4) k) v (rws h' P (gi h' (A + 3) k) x)) (f (gi h' (A + 3) k)) (rsz h' P (gi h' (A + 3) k)).toNat = mnI (fun x => ftk (tm h A k) (gi h (A + 4) k) v (rws h P (gi h (A + 3) k) x)) (f (gi h (A + 3) k)) (rsz h P (gi h (A + 3) k)).toNat
  rw [lo 3 (by omega), lo 4 (by omega), et, ew, show rsz h' P (gi h (A + 3) k) = rsz h P (gi h (A + 3) k) from e _ _ (by omega)]
theorem cmg_0 {pr B : Int} (hB : vcc B) : cmg pr B 0 = B := by
  unfold vcc at hB
  unfold cmg m9
  by_cases z : B = 1000000
  · rw [if_pos (Or.inr z)]; exact z.symm
  · rw [if_neg (by omega)]
    split
    · split <;> omega
    · split <;> omega
theorem cod1_v {x y X Y : Int} (c : cod1 x y X Y) : vcc X ∧ vcc Y ∧ (0 ≤ y ∧ y ≤ 9999) := by
  unfold cod1 at c
  unfold vcc
  omega
/-- a binding is weighed -/
theorem s24 {d : Nat} (hd : 2 ≤ d) (W : WG A P N h) (V : CV h) (PL : PLc h A P N v h) :
    ∃ h', dF d 24 [dR 1 0 144] h = rV h' ∧ fr11 h h' ∧ cod1 (gi h' 144 11) (gi h' 144 12) (bcv 0 (cR h A) (cW h P) (hF h) v N.toNat) (bcv 1 (cR h A) (cW h P) (pF h) v N.toNat) := by
  have W0 := W
  obtain ⟨⟨a1, a2⟩, ⟨r1, r2⟩, ⟨c1, c2, c3⟩, w4', w5', w6', w7'⟩ := W0
  have hP : P = 95 ∨ P = 112 := r2
  have hA := ru_ne r1
  have key : ∀ (m : Nat) (k : Nat) (H : dm_H) (w2 w3 w4 w5 w6 w7 w8 w9 w10 w11 : Option dm_V), (k : Int) + m = N → fr11 h H → cod1 (gi H 144 11) (gi H 144 12) (bcv 0 (cR h A) (cW h P) (hF h) v k) (bcv 1 (cR h A) (cW h P) (pF h) v k) → ∃ h', dL (d - 1) 24 12 [lR 1 0 144, lI k, w2, w3, w4, w5, w6, w7, w8, w9, w10, w11] [] H = rV h' ∧ fr11 h h' ∧ cod1 (gi h' 144 11) (gi h' 144 12) (bcv 0 (cR h A) (cW h P) (hF h) v N.toNat) (bcv 1 (cR h A) (cW h P) (pF h) v N.toNat) := by
    intro m
    induction m with
    | zero =>
      intro k H w2 w3 w4 w5 w6 w7 w8 w9 w10 w11 hk f c
      have e4 : gi H A 4 = N := by rw [f.1 _ _ (by omega)]; exact c1
      refine ⟨H, ?_, f, ?_⟩
      · rw [b24_12, f.2.1, a1, e4, if_neg (by omega), b24_294]
      · rw [show N.toNat = k by omega]; exact c
    | succ m ih =>
      intro k H w2 w3 w4 w5 w6 w7 w8 w9 w10 w11 hk f c
      have lo : ∀ a i, a < 137 → gi H a i = gi h a i := fun a i ha => f.1 a i (by omega)
      have e4 : gi H A 4 = N := by rw [f.1 _ _ (by omega)]; exact c1
      have WH := WG_cg lo (fun i => f.2.1 144 i) W
      obtain ⟨v1, v2, v3⟩ := cod1_v c
      by_cases q : gi H 144 11 = -1
      · refine ⟨H, ?_, f, ?_⟩
        · rw [b24_12, f.2.1, a1, e4, if_pos (by omega), if_pos q, b24_294]
        · have cc : bcv 0 (cR h A) (cW h P) (hF h) v k = 1000000 ∧ bcv 1 (cR h A) (cW h P) (pF h) v k = 1000000 := by unfold cod1 at c; omega
          refine Or.inl ⟨q, ?_, ?_, v3⟩
          · rw [show N.toNat = k + (m + 1) by omega]; exact bcv_far cc.1
          · rw [show N.toNat = k + (m + 1) by omega]; exact bcv_far cc.2
      · have cc : (gi H 144 11 = bcv 0 (cR h A) (cW h P) (hF h) v k ∧ 0 ≤ bcv 0 (cR h A) (cW h P) (hF h) v k ∧ bcv 0 (cR h A) (cW h P) (hF h) v k ≤ 9000) ∧ (gi H 144 12 = bcv 1 (cR h A) (cW h P) (pF h) v k ∧ 0 ≤ bcv 1 (cR h A) (cW h P) (pF h) v k ∧ bcv 1 (cR h A) (cW h P) (pF h) v k ≤ 9999) := by unfold cod1 at c; omega
        have hk1 : (0 : Int) ≤ k ∧ (k : Int) < N := by omega
        by_cases s : gi h (A + 2) k = 0
        · have eH : hF H = hF h := by
            funext r x
            show kc _ = kc _
            rw [f.1 _ _ (by omega)]
          have eP : pF H = pF h := by
            funext r x
            show kc _ = kc _
            rw [f.1 _ _ (by omega)]
          refine s24a (h := H) (by omega) WH (fun r x r0 r6 x0 x1 rg => by rw [f.1 _ _ (by omega), f.1 _ _ (by omega)]; exact V r x r0 r6 x0 x1 (by rw [f.1 _ _ (by omega)] at rg; exact rg)) (PLc_cg (fun j => f.1 139 j (by omega)) (PLc_h (Int.le_refl _) W lo PL)) hk1 (by rw [lo _ _ (by omega)]; exact s) (by omega) (by omega) (fun x y w2 w3 w4 w5 w6 w7 w8 w9 w10 w11 hc => ?_) w2 w3 w4 w5 w6 w7 w8 w9 w10 w11
          rw [acv_e W lo hk1 s, acv_e W lo hk1 s, eH, eP, cc.1.1, cc.2.1] at hc
          rw [b24_288, ck_p (by omega) (by omega)]
          have f2 : fr11 h (si (si H 144 11 x) 144 12 y) := fr11_t f fr11_s
          have := ih (k + 1) (si (si H 144 11 x) 144 12 y) w2 w3 w4 w5 w6 w7 w8 w9 w10 w11 (by omega) f2 (by
            rw [gi_sij (by decide), gi_sis, gi_sis]
            show cod1 x y (cmg 0 (bcv 0 (cR h A) (cW h P) (hF h) v k) (if gi h (A + 2) k = 0 then _ else _)) (cmg 1 (bcv 1 (cR h A) (cW h P) (pF h) v k) (if gi h (A + 2) k = 0 then _ else _))
            rw [if_pos s, if_pos s]
            exact hc)
          rw [show ((k + 1 : Nat) : Int) = (k : Int) + 1 by omega] at this
          exact this
        · rw [b24_12, f.2.1, a1, e4, if_pos (by omega), if_neg q, ix_p hk1.1 (by omega), lo (A + 2) k (by omega), if_neg s, b24_288, ck_p (by omega) (by omega)]
          have := ih (k + 1) H w2 w3 w4 w5 w6 w7 w8 w9 w10 w11 (by omega) f (by
            show cod1 _ _ (cmg 0 (bcv 0 (cR h A) (cW h P) (hF h) v k) (if gi h (A + 2) k = 0 then _ else 0)) (cmg 1 (bcv 1 (cR h A) (cW h P) (pF h) v k) (if gi h (A + 2) k = 0 then _ else 0))
            rw [if_neg s, if_neg s, cmg_0 v1, cmg_0 v2]
            exact c)
          rw [show ((k + 1 : Nat) : Int) = (k : Int) + 1 by omega] at this
          exact this
  rw [f24 (by omega), b24_0]
  exact key N.toNat 0 _ none none none none none none none none none none (by omega) fr11_s (by
    rw [gi_sij (by decide), gi_sis, gi_sis]
    exact Or.inr ⟨⟨rfl, Int.le_refl _, by show (0 : Int) ≤ 9000; omega⟩, rfl, Int.le_refl _, by show (0 : Int) ≤ 9999; omega⟩)
end WGJ
