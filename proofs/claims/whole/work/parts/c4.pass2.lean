/-! THE CALL pass: the reference's loops -/
section PSL
variable {h : dm_H}
theorem p215a {d : Nat} {x t n : Int} (e5 : gi h 165 5 = n) (hn : 0 ≤ n ∧ n ≤ 24) (et : gi h 165 4 + x = t) (ht : 0 ≤ t ∧ t ≤ 2100000000) (w4 w5 w6 w7 w8 w9 : Option dm_V) : ∀ (m k : Nat), (k : Int) + m = n → dL d 215 32 [lR 1 11 165, lI x, lI (cE (fL 168 h) t k), lI k, w4, w5, w6, w7, w8, w9] [] h = dm_back (dL d 215) dm_t215 80 [lR 1 11 165, lI x, lI (cE (fL 168 h) t n.toNat), lI n, w4, w5, w6, w7, w8, w9] [] (dF d 174 [dR 1 11 165] h) := by
  intro m
  induction m with
  | zero =>
    intro k hk
    have e : (k : Int) = n := by omega
    rw [b215_32, if_neg (by omega), ← e, show ((k : Int).toNat) = k by omega]
  | succ m ih =>
    intro k hk
    have r := cE_r (fL 168 h) t k
    have st : cE (fL 168 h) t (k + 1) = cE (fL 168 h) t k + (if (fL 168 h k).2.2.2 ≠ -1 ∧ (fL 168 h k).2.2.2 ≤ t then 1 else 0) := rfl
    have f4 : (fL 168 h k).2.2.2 = gi h 171 k := rfl
    rw [f4] at st
    rw [b215_32, if_pos (by omega), ix_p (by omega) (by omega)]
    by_cases a : gi h 171 k = -1
    · rw [if_neg (fun w => w.1 a)] at st
      rw [if_pos a, b215_70, b215_71, ck_p (by omega) (by omega), ck_p (by omega) (by omega), ← st]
      exact ih (k + 1) (by omega)
    · rw [if_neg a, ix_p (by omega) (by omega), ck_p (by omega) (by omega), et]
      by_cases b : t < gi h 171 k
      · rw [if_neg (fun w => by omega)] at st
        rw [if_pos b, b215_70, b215_71, ck_p (by omega) (by omega), ck_p (by omega) (by omega), ← st]
        exact ih (k + 1) (by omega)
      · rw [if_pos ⟨a, by omega⟩] at st
        rw [if_neg b, b215_71, ck_p (by omega) (by omega), ck_p (by omega) (by omega), ← st]
        exact ih (k + 1) (by omega)
theorem p215g {d : Nat} (hd : 2 ≤ d) {x t n c : Int} {f0 : Int → mT} (hn : 0 ≤ n ∧ n ≤ 24) (et : gi h 165 4 + x = t) (ht : 0 ≤ t ∧ t ≤ 2100000000) (hc : 0 ≤ c ∧ c ≤ n) (w5 w6 w7 w8 w9 : Option dm_V) : ∀ (m : Nat) (j : Int) (H : dm_H), 0 ≤ j → j + m = c → gi H 165 5 = n - j → frF4 168 165 5 h H → FO (fL 168 H) (n - j) → PK f0 n (fL 168 H) → (∀ y, n - j ≤ y → y < n → edd t (fL 168 H y)) → cE (fL 168 H) t (n - j).toNat = c - j →
    ∃ H', dL d 215 91 [lR 1 11 165, lI x, lI c, lI n, lI j, w5, w6, w7, w8, w9] [] H = dm_back (dL d 215) dm_t215 121 [lR 1 11 165, lI x, lI c, lI n, lI c, w5, w6, w7, w8, w9] [] (dF d 177 [dR 1 11 165] H') ∧ gi H' 165 5 = n - c ∧ frF4 168 165 5 h H' ∧ FO (fL 168 H') (n - c) ∧ PK f0 n (fL 168 H') ∧ (∀ y, n - c ≤ y → y < n → edd t (fL 168 H' y)) ∧ cE (fL 168 H') t (n - c).toNat = 0 := by
  intro m
  induction m with
  | zero =>
    intro j H j0 jc e5 f S P T C
    have e : j = c := by omega
    rw [e] at e5 S T C
    have l : fL 168 (si H 165 5 (n - c)) = fL 168 H := fL_o (fun q i q0 q1 => gi_sin (by omega))
    refine ⟨si H 165 5 (n - c), ?_, by rw [gi_si, if_pos ⟨rfl, rfl⟩], ⟨fun a i p q => by rw [gi_siq (by omega)]; exact f.1 a i p q, f.2.1, f.2.2⟩, by rw [l]; exact S, by rw [l]; exact P, by rw [l]; exact T, by rw [l]; omega⟩
    rw [b215_91, if_neg (by omega), ck_p (by omega) (by omega), e]
  | succ m ih =>
    intro j H j0 jc e5 f S P T C
    obtain ⟨y, y0, y1, y2⟩ := cE_ex (n - j).toNat (by omega : 0 < cE (fL 168 H) t (n - j).toNat)
    obtain ⟨p, hp, p1, p2, p3⟩ := s216 (h := H) (d := d) hd (t := t) e5 (by omega) ⟨y, y0, by omega, y2⟩
    obtain ⟨H1, eH1⟩ : ∃ H1, H1 = st4 (dn4 (si H 165 5 (n - j - 1)) 168 p (n - j - 1)) 168 (n - j - 1) (gi H 168 p) (gi H 169 p) (gi H 170 p) (gi H 171 p) := ⟨_, rfl⟩
    rw [← eH1] at p3
    have l0 : fL 168 (si H 165 5 (n - j - 1)) = fL 168 H := fL_o (fun q i q0 q1 => gi_sin (by omega))
    have l1 : ∀ y, fL 168 H1 y = if y = n - j - 1 then fL 168 H p else if p ≤ y ∧ y < n - j - 1 then fL 168 H (y + 1) else fL 168 H y := fun y => by rw [eH1, fL_st4, fL_dn4, l0]; rfl
    have D := FO_del (g := fL 168 H1) S hp (fun y y0 yp => by rw [l1, if_neg (by omega), if_neg (by omega)]) (fun y py y1 => by rw [l1, if_neg (by omega), if_pos (by omega)])
    have C' := cE_del (f := fL 168 H) (g := fL 168 H1) (t := t) (p := p.toNat) (fun y y0 yp => by rw [l1, if_neg (by omega), if_neg (by omega)]) (by rw [show ((p.toNat : Nat) : Int) = p by omega]; exact p1) (n - j - 1).toNat (by omega) (fun y py y1 => by rw [l1, if_neg (by omega), if_pos (by omega)])
    rw [show (n - j - 1).toNat + 1 = (n - j).toNat by omega, C] at C'
    have P' := PK_last (f' := fL 168 H1) (m := n - j) (p := p) P (by omega) hp (fun y y0 yp => by rw [l1, if_neg (by omega), if_neg (by omega)]) (fun y py y1 => by rw [l1, if_neg (by omega), if_pos (by omega)]) (by rw [l1, if_pos rfl]) (fun y y0 => by rw [l1, if_neg (by omega), if_neg (by omega)])
    have e51 : gi H1 165 5 = n - j - 1 := by rw [eH1, gi_st4, if_neg (by omega), gi_dn4, if_neg (by omega), gi_si, if_pos ⟨rfl, rfl⟩]
    have f1 : frF4 168 165 5 h H1 := ⟨fun a i q r => by rw [eH1, gi_st4, if_neg (by omega), gi_dn4, if_neg (by omega), gi_siq (by omega)]; exact f.1 a i q r, fun a i => by rw [eH1]; exact f.2.1 a i, by rw [eH1]; exact f.2.2⟩
    have e4 : gi H 165 4 = gi h 165 4 := f.1 _ _ (by omega) (by omega)
    obtain ⟨H', z1, z2⟩ := ih (j + 1) H1 (by omega) (by omega) (by omega) f1 (by rw [show n - (j + 1) = n - j - 1 by omega]; exact D.1) P' (fun y y0 y1 => by
      rw [l1]
      by_cases q : y = n - j - 1
      · rw [if_pos q]; exact p1
      · rw [if_neg q, if_neg (by omega)]; exact T y (by omega) y1) (by rw [show n - (j + 1) = n - j - 1 by omega]; omega)
    refine ⟨H', ?_, z2⟩
    rw [b215_91, if_pos (by omega), ck_p (by omega) (by omega), e4, et, p3, bk_n, b215_107, ck_p (by omega) (by omega)]
    exact z1
theorem p215l {d : Nat} (hd : 2 ≤ d) {n : Int} {f0 : Int → mT} (hn : 0 ≤ n ∧ n ≤ 24) (ok0 : ∀ s, inF f0 n s → 0 ≤ s.2.1 ∧ s.2.1 < 1000000) (w1 w2 w4 : Option dm_V) : ∀ (m : Nat) (k : Int) (H : dm_H) (w6 w7 w8 w9 : Option dm_V), 0 ≤ k → k + m = n → gi H 165 5 = k → frF4 168 165 5 h H → FO (fL 168 H) k → PK f0 n (fL 168 H) →
    ∃ H' w6' w7' w8' w9', dL d 215 137 [lR 1 11 165, w1, w2, lI n, w4, lI k, w6, w7, w8, w9] [] H = dm_back (dL d 215) dm_t215 198 [lR 1 11 165, w1, w2, lI n, w4, lI n, w6', w7', w8', w9'] [] (dF d 212 [dR 1 11 165] H') ∧ gi H' 165 5 = n ∧ frF4 168 165 5 h H' ∧ FO (fL 168 H') n ∧ PK f0 n (fL 168 H') := by
  intro m
  induction m with
  | zero =>
    intro k H w6 w7 w8 w9 k0 kn e5 f S P
    have e : k = n := by omega
    rw [e] at e5 S
    refine ⟨H, w6, w7, w8, w9, ?_, e5, f, S, P⟩
    rw [b215_137, if_neg (by omega), e]
  | succ m ih =>
    intro k H w6 w7 w8 w9 k0 kn e5 f S P
    have okH : ∀ x, 0 ≤ x → x < n → 0 ≤ gi H 169 x ∧ gi H 169 x < 1000000 := fun x x0 x1 => ok0 _ ((P.1 _).mp ⟨x, x0, x1, rfl⟩)
    obtain ⟨p, hp, x1, l1', l2'⟩ := s176 (h := H) (d := d) hd (gi H 168 k) (gi H 169 k) (gi H 170 k) (gi H 171 k) e5 (by omega) (fun x x0 x1 => okH x x0 (by omega)) (okH k k0 (by omega)) (fun x x0 x1 q => P.2 x k x0 x1 (by omega) (by show gi H 168 x * 1000000 + gi H 169 x = gi H 168 k * 1000000 + gi H 169 k; rw [q.1, q.2])) S
    obtain ⟨H1, eH1⟩ : ∃ H1, H1 = si (st4 (mov4 H 168 p k) 168 p (gi H 168 k) (gi H 169 k) (gi H 170 k) (gi H 171 k)) 165 5 (k + 1) := ⟨_, rfl⟩
    rw [← eH1] at x1
    have l0 : fL 168 H1 = fL 168 (st4 (mov4 H 168 p k) 168 p (gi H 168 k) (gi H 169 k) (gi H 170 k) (gi H 171 k)) := by rw [eH1]; exact fL_o (fun q i q0 q1 => gi_sin (by omega))
    have l1 : ∀ y, fL 168 H1 y = if y = p then fL 168 H k else if p < y ∧ y ≤ k then fL 168 H (y - 1) else fL 168 H y := fun y => by rw [l0, fL_st4, fL_mov4]; rfl
    have D := FO_ins (g := fL 168 H1) (t := fL 168 H k) S hp (fun y y0 yp => by rw [l1, if_neg (by omega), if_neg (by omega)]) (by rw [l1, if_pos rfl]) (fun y py y1 => by rw [l1, if_neg (by omega), if_pos ⟨py, y1⟩]) l1' l2'
    have P' := PK_in (f' := fL 168 H1) (m := k) (p := p) P (by omega) hp (fun y y0 yp => by rw [l1, if_neg (by omega), if_neg (by omega)]) (fun y py y1 => by rw [l1, if_neg (by omega), if_pos ⟨py, y1⟩]) (by rw [l1, if_pos rfl]) (fun y y0 => by rw [l1, if_neg (by omega), if_neg (by omega)])
    have f1 : frF4 168 165 5 h H1 := ⟨fun a i q r => by rw [eH1, gi_siq r, gi_st4, if_neg (by omega), gi_mov4, if_neg (by omega)]; exact f.1 a i q r, fun a i => by rw [eH1]; exact f.2.1 a i, by rw [eH1]; exact f.2.2⟩
    obtain ⟨H', v6, v7, v8, v9, z1, z2⟩ := ih (k + 1) H1 (lI (gi H 168 k)) (lI (gi H 169 k)) (lI (gi H 170 k)) (lI (gi H 171 k)) (by omega) (by omega) (by rw [eH1, gi_si, if_pos ⟨rfl, rfl⟩]) f1 D.1 P'
    refine ⟨H', v6, v7, v8, v9, ?_, z2⟩
    rw [b215_137, if_pos (by omega), ix_p (by omega) (by omega), ix_p (by omega) (by omega), ix_p (by omega) (by omega), ix_p (by omega) (by omega), x1, bk_n, b215_191, ck_p (by omega) (by omega)]
    exact z1
/-- what is left in front, as a set -/
theorem PK_front {f0 f : Int → mT} {n c t : Int} (hc : 0 ≤ c ∧ c ≤ n) (P : PK f0 n f) (T : ∀ y, n - c ≤ y → y < n → edd t (f y)) (C : cE f t (n - c).toNat = 0) (s : mT) : inF f (n - c) s ↔ inF f0 n s ∧ ¬ edd t s := by
  have nE := cE_no _ C
  constructor
  · rintro ⟨x, x0, x1, x2⟩
    refine ⟨(P.1 s).mp ⟨x, x0, by omega, x2⟩, ?_⟩
    rw [← x2]; exact nE x x0 (by omega)
  · rintro ⟨q, r⟩
    obtain ⟨x, x0, x1, x2⟩ := (P.1 s).mpr q
    by_cases z : x < n - c
    · exact ⟨x, x0, z, x2⟩
    · exact absurd (by rw [← x2]; exact T x (by omega) x1) r
theorem ftS_cg2 {S S' : mT → Prop} {t : Int} (e : ∀ s, ¬ edd t s → (S s ↔ S' s)) : ftS S t = ftS S' t := by
  funext r c
  exact propext ⟨fun ⟨s, s1, s2, s3⟩ => ⟨s, (e s s2).mp s1, s2, s3⟩, fun ⟨s, s1, s2, s3⟩ => ⟨s, (e s s2).mpr s1, s2, s3⟩⟩
end PSL
