/-! COSTS: a binding is weighed, literal by literal -/
section WGI
variable {A P : Nat} {N : Int} {h : dm_H} {v : mA}
theorem ftk_alike {t : Int → Int} {w c c' : Int} (a : ftk t w v c) : ftk t w v c' ↔ alike t w c' c := by
  constructor
  · intro b i i0 i1
    rcases a i i0 i1 with z | z
    · exact Or.inl z
    · rcases b i i0 i1 with y | y
      · exact Or.inl y
      · exact Or.inr (y.symm.trans z)
  · intro b i i0 i1
    rcases a i i0 i1 with z | z
    · exact Or.inl z
    · rcases b i i0 i1 with y | y
      · exact Or.inl y
      · exact Or.inr (z.trans y.symm)
theorem cod1_s {B0 B1 a0 a1 bh bp : Int} (b0 : 0 ≤ B0 ∧ B0 ≤ 9000) (b1 : 0 ≤ B1 ∧ B1 ≤ 9999) (C : cod2 bh bp a0 a1) : (bh = -1 → cod1 (-1) (if B1 + (if 0 < bp then bp else 0) < 9999 then B1 + (if 0 < bp then bp else 0) else 9999) (cmg 0 B0 a0) (cmg 1 B1 a1)) ∧ (bh ≠ -1 → cod1 (if B0 < bh then bh else B0) (if B1 + (if 0 < bp then bp else 0) < 9999 then B1 + (if 0 < bp then bp else 0) else 9999) (cmg 0 B0 a0) (cmg 1 B1 a1)) ∧ (-1 ≤ bp ∧ bp ≤ 9999) := by
  unfold cod2 at C
  refine ⟨fun q => Or.inl ⟨rfl, ?_, ?_, by split <;> split <;> omega, by split <;> split <;> omega⟩, fun q => Or.inr ?_, by omega⟩
  · unfold cmg; rw [if_pos (by omega)]
  · unfold cmg; rw [if_pos (by omega)]
  · obtain ⟨⟨c1, c2, c3⟩, c4, c5, c6⟩ := C.resolve_left (fun z => q z.1)
    have e : (if 0 < bp then bp else 0) = a1 := by split <;> omega
    unfold cmg
    rw [e, if_neg (show ¬ (a0 = 1000000 ∨ B0 = 1000000) by omega), if_pos rfl, if_neg (show ¬ (a1 = 1000000 ∨ B1 = 1000000) by omega), if_neg (show ¬ (1 : Int) = 0 by decide), c1]
    unfold m9
    refine ⟨⟨rfl, ?_, ?_⟩, ?_, ?_, ?_⟩
    · split <;> omega
    · split <;> omega
    · split <;> split <;> omega
    · split <;> omega
    · split <;> omega
theorem s24a {d : Nat} (hd : 1 ≤ d) (W : WG A P N h) (V : CV h) (PL : PLc h A P N v h) {k : Int} (hk : 0 ≤ k ∧ k < N) (hs : gi h (A + 2) k = 0) (b0 : 0 ≤ gi h 144 11 ∧ gi h 144 11 ≤ 9000) (b1 : 0 ≤ gi h 144 12 ∧ gi h 144 12 ≤ 9999) {R : dm_H → Prop}
    (go : ∀ x y w2 w3 w4 w5 w6 w7 w8 w9 w10 w11, cod1 x y (cmg 0 (gi h 144 11) (acv (cR h A) (cW h P) (hF h) k v)) (cmg 1 (gi h 144 12) (acv (cR h A) (cW h P) (pF h) k v)) → ∃ h', dL d 24 288 [lR 1 0 144, lI k, w2, w3, w4, w5, w6, w7, w8, w9, w10, w11] [] (si (si h 144 11 x) 144 12 y) = rV h' ∧ R h') (w2 w3 w4 w5 w6 w7 w8 w9 w10 w11 : Option dm_V) :
    ∃ h', dL d 24 12 [lR 1 0 144, lI k, w2, w3, w4, w5, w6, w7, w8, w9, w10, w11] [] h = rV h' ∧ R h' := by
  have W0 := W
  obtain ⟨⟨a1, a2⟩, ⟨r1, r2⟩, ⟨c1, c2, c3⟩, w4', w5', w6', w7'⟩ := W0
  obtain ⟨hr, hw, hg⟩ := w4' k hk.1 hk.2 hs
  have hz := w5' _ hr.1 hr.2
  obtain ⟨⟨p0, p1⟩, pf⟩ := PL k hk.1 hk.2 hs
  obtain ⟨q1, q2⟩ := w7' k hk.1 hk.2 hs
  have hrow := fun x x0 x1 => w6' _ x hr.1 hr.2 x0 x1
  -- behind the loop
  have hend : ∀ (bh bp w9 : Int) (w3 w4 w5 w6 y10 y11 : Option dm_V), cod2 bh bp (acv (cR h A) (cW h P) (hF h) k v) (acv (cR h A) (cW h P) (pF h) k v) → ∃ h', (if bh = -1 then dL d 24 264 [lR 1 0 144, lI k, lI (gi h (A + 3) k), w3, w4, w5, w6, lI bh, lI bp, lI w9, y10, y11] [dI (-1), dR 1 0 144] h else dL d 24 264 [lR 1 0 144, lI k, lI (gi h (A + 3) k), w3, w4, w5, w6, lI bh, lI bp, lI w9, y10, y11] [dI (if gi h 144 11 < bh then bh else gi h 144 11), dR 1 0 144] h) = rV h' ∧ R h' := by
    intro bh bp w9 w3 w4 w5 w6 y10 y11 hc
    obtain ⟨s1, s2, s3⟩ := cod1_s b0 b1 hc
    have hb : 0 ≤ (if 0 < bp then bp else 0) ∧ (if 0 < bp then bp else 0) ≤ 9999 := by split <;> omega
    have h12 : ∀ x, gi (si h 144 11 x) 144 12 = gi h 144 12 := fun x => gi_sij (by decide)
    by_cases q : bh = -1
    · rw [if_pos q, b24_264, h12, ck_p (by omega) (by omega)]
      exact go _ _ _ _ _ _ _ _ _ _ _ _ (s1 q)
    · rw [if_neg q, b24_264, h12, ck_p (by omega) (by omega)]
      exact go _ _ _ _ _ _ _ _ _ _ _ _ (s2 q)
  have e2 : ∀ f, acv (cR h A) (cW h P) f k v = mnI (fun x => ftk (tm h A k) (gi h (A + 4) k) v (rws h P (gi h (A + 3) k) x)) (f (gi h (A + 3) k)) (rsz h P (gi h (A + 3) k)).toNat := fun f => rfl
  rw [b24_12, a2, a1, if_pos (show k < gi h A 4 by omega), if_neg (show ¬ gi h 144 11 = -1 by omega), ix_p hk.1 (by omega), if_pos hs, ix_p hk.1 (by omega), ix_p hk.1 (by omega), ix_p hk.1 (by omega)]
  by_cases y : gi h (A + 6) k = 0
  · have sq : ∀ x, dF d 25 [dR 1 8 A, dI k, dI x] h = rI x h := fun x => by rw [f25 hd, b25_0, ix_p hk.1 (by omega), if_pos y]
    have hQ : ∀ x, 0 ≤ x → x < rsz h P (gi h (A + 3) k) → (ftk (tm h A k) (gi h (A + 4) k) v (rws h P (gi h (A + 3) k) x) ↔ x = gi h 139 k) := by
      intro x x0 x1
      constructor
      · intro z
        have al := (ftk_alike pf).mp z
        have al2 : ∀ i, 0 ≤ i → i < gi h (A + 4) k → cv i (rws h P (gi h (A + 3) k) x) = cv i (rws h P (gi h (A + 3) k) (gi h 139 k)) := fun i i0 i1 => (al i i0 i1).resolve_left (q1 y i i0 i1)
        rcases (show x < gi h 139 k ∨ x = gi h 139 k ∨ gi h 139 k < x by omega) with c | c | c
        · obtain ⟨i, i0, i1, i2⟩ := q2 x _ x0 c p1
          exact absurd (al2 i i0 i1) i2
        · exact c
        · obtain ⟨i, i0, i1, i2⟩ := q2 _ x p0 c x1
          exact absurd (al2 i i0 i1).symm i2
      · intro z; rw [z]; exact pf
    rw [if_pos y, ck_p (by omega) (by omega), b24_97, ix_p hr.1 hr.2, ix_p p0 (by omega), a1, a2, rw_e, show gi h (P + 3 + (gi h (A + 3) k).toNat) (gi h 139 k) = rws h P (gi h (A + 3) k) (gi h 139 k) from rfl, sq, bk_v, b24_118, if_pos y, b24_136]
    obtain ⟨pn, ep⟩ : ∃ pn : Nat, gi h 139 k = (pn : Int) := ⟨(gi h 139 k).toNat, by omega⟩
    have key := s24r W V hk hs (key := rws h P (gi h (A + 3) k) (gi h 139 k)) (E := gi h 139 k + 1) (d := d) (by omega) (Q := fun x => ftk (tm h A k) (gi h (A + 4) k) v (rws h P (gi h (A + 3) k) x)) (fun x x0 x1 => ⟨_, sq _, (by
      constructor
      · intro z
        show ftk _ _ _ _
        rw [z]; exact pf
      · intro z
        rw [(hQ x x0 x1).mp z])⟩) (lI (gi h 139 k)) (lI (gi h (A + 6) k)) 1 pn (-1) (-1) w10 w11 (by omega) (by
        refine Or.inl ⟨rfl, rfl, ?_, ?_⟩
        · have := mnI_same (P := fun x => ftk (tm h A k) (gi h (A + 4) k) v (rws h P (gi h (A + 3) k) x)) (g := hF h (gi h (A + 3) k)) (a := 0) (m := pn) (fun x x0 x1 z => by have := (hQ x (by omega) (by omega)).mp z; omega)
          rw [Nat.zero_add] at this
          rw [this]; rfl
        · have := mnI_same (P := fun x => ftk (tm h A k) (gi h (A + 4) k) v (rws h P (gi h (A + 3) k) x)) (g := pF h (gi h (A + 3) k)) (a := 0) (m := pn) (fun x x0 x1 z => by have := (hQ x (by omega) (by omega)).mp z; omega)
          rw [Nat.zero_add] at this
          rw [this]; rfl)
    obtain ⟨bh, bp, w9, y10, y11, k1, k2⟩ := key
    have hsz : ∃ m, (rsz h P (gi h (A + 3) k)).toNat = (pn + 1) + m := ⟨(rsz h P (gi h (A + 3) k)).toNat - (pn + 1), by omega⟩
    obtain ⟨m, em⟩ := hsz
    have es : ∀ g, mnI (fun x => ftk (tm h A k) (gi h (A + 4) k) v (rws h P (gi h (A + 3) k) x)) g (rsz h P (gi h (A + 3) k)).toNat = mnI (fun x => ftk (tm h A k) (gi h (A + 4) k) v (rws h P (gi h (A + 3) k) x)) g (pn + 1) := fun g => by
      rw [em]
      exact mnI_same (fun x x0 x1 z => by have := (hQ x (by omega) (by omega)).mp z; omega)
    rw [← ep] at k2
    rw [k2]
    refine hend _ _ _ _ _ _ _ _ _ ?_
    rw [e2, e2, es, es]; exact k1
  · have hp := hrow _ p0 p1
    have sq : ∀ x, 0 ≤ x → x < rsz h P (gi h (A + 3) k) → dF d 25 [dR 1 8 A, dI k, dI (rws h P (gi h (A + 3) k) x)] h = rI (snr (tm h A k) (rws h P (gi h (A + 3) k) x) (gi h (A + 4) k).toNat 0 0) h := fun x x0 x1 => s25 hd A k _ h ⟨hk.1, by omega⟩ hw (hrow x x0 x1) y
    rw [if_neg y, ix_p hr.1 hr.2, b24_97, ix_p hr.1 hr.2, ix_p p0 (by omega), a1, a2, rw_e, show gi h (P + 3 + (gi h (A + 3) k).toNat) (gi h 139 k) = rws h P (gi h (A + 3) k) (gi h 139 k) from rfl, sq _ p0 p1, bk_v, b24_118, if_neg y, b24_136]
    have key := s24r W V hk hs (key := snr (tm h A k) (rws h P (gi h (A + 3) k) (gi h 139 k)) (gi h (A + 4) k).toNat 0 0) (E := gi h (P + 1) (gi h (A + 3) k)) (d := d) (Int.le_refl _) (Q := fun x => ftk (tm h A k) (gi h (A + 4) k) v (rws h P (gi h (A + 3) k) x)) (fun x x0 x1 => ⟨_, sq x x0 x1, by
      rw [snr_eq hw (hrow x x0 x1) hp]
      exact (ftk_alike pf).symm⟩) (lI (gi h 139 k)) (lI (gi h (A + 6) k)) (rsz h P (gi h (A + 3) k)).toNat 0 (-1) (-1) w10 w11 (by show _ = rsz h P (gi h (A + 3) k); omega) (Or.inl ⟨rfl, rfl, rfl, rfl⟩)
    obtain ⟨bh, bp, w9, y10, y11, k1, k2⟩ := key
    rw [Nat.zero_add] at k1
    refine Eq.subst (motive := fun z => ∃ h', z = rV h' ∧ R h') k2.symm ?_
    refine hend _ _ _ _ _ _ _ _ _ ?_
    rw [e2, e2]; exact k1
end WGI
