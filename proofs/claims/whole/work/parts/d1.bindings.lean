/-! THE CALL bindings -/
section BDG
variable {h : dm_H} {π : Int → Int}
theorem rm_3 {h h' : dm_H} (s : h'.2.2.2 = h.2.2.2) (c : gi h' 1 12 ≤ gi h 1 12 + 100 ∧ gi h' 13 3 ≤ gi h 13 3 + 1) : rm h h' := ⟨by show h'.2.2.2.1 = h.2.2.2.1; rw [s], by show h'.2.2.2.2.1 ≤ h.2.2.2.2.1 + 1; rw [s]; exact Nat.le_succ _, by show h'.2.2.2.2.2 ≤ h.2.2.2.2.2 + 6; rw [s]; exact Nat.le_add_right _ _, c⟩
/-- what reading over joiner and search may touch -/
def fkj (h h' : dm_H) : Prop := (∀ a i, ¬ (137 ≤ a ∧ a ≤ 143) → ¬ (a = 165 ∧ (i = 0 ∨ (27 ≤ i ∧ i ≤ 34))) → ¬ (179 ≤ a ∧ a ≤ 180) → ¬ (183 ≤ a ∧ a ≤ 190) → gi h' a i = gi h a i) ∧ (∀ a i, ¬ (137 ≤ a ∧ a ≤ 143) → gr h' a i = gr h a i)
theorem fkj_refl (h : dm_H) : fkj h h := ⟨fun _ _ _ _ _ _ => rfl, fun _ _ _ => rfl⟩
theorem fkj_trans {h h1 h2 : dm_H} (a : fkj h h1) (b : fkj h1 h2) : fkj h h2 := ⟨fun c i p q r s => by rw [b.1 c i p q r s, a.1 c i p q r s], fun c i p => by rw [b.2 c i p, a.2 c i p]⟩
theorem fkj_J {h h' : dm_H} (f : frJ h h') : fkj h h' := ⟨fun a i p _ _ _ => f.1 a i (by omega), fun a i p => f.2.1 a i (by omega)⟩
theorem fkj_M {h h' : dm_H} (f : frM h h') : fkj h h' := ⟨fun a i p q r s => f.1 a i (by omega) (by omega) (by omega) (by omega), fun a i _ => f.2.1 a i⟩
theorem fkj_t {h : dm_H} {x : Int} : fkj h (si h 165 0 x) := ⟨fun a i _ q _ _ => by rw [gi_si, if_neg (by omega)], fun _ _ _ => rfl⟩
theorem fkj_l {h : dm_H} {v : Int} : fkj h (sl h 0 v) := ⟨fun _ _ _ _ _ _ => rfl, fun _ _ _ => rfl⟩
theorem fkj_all {h' : dm_H} (I : IN0 π h) (f : fkj h h') : IN0 π h' ∧ frZ h h' := spare_all I (fun a i _ _ r s t => f.1 a i r s (by omega) (by omega)) f.2
/-- a rule of both books, for the reference's search -/
theorem bothr (I : IN0 π h) {j : Int} (j0 : 0 ≤ j) (j1 : j < gi h 13 1) : GW (rRl h (π j)) (rW h) (gi h (gr h 14 j) 4) ∧ RF h (π j) (gi h (gr h 14 j) 4) ∧ (∀ (n : Nat) (k : Int) (v : mA), 0 ≤ k → k + n ≤ gi h (gr h 14 j) 4 → bnd (rRl h (π j)) (rW h) n k v = bnd (cR h (gr h 14 j)) (cW h (gr h 1 8)) n k v) := by
  obtain ⟨IR, ID, B, J0, NM, G, HH, L, F, W⟩ := I
  have R := B.2.2.1 j j0 j1
  have S := R.2.2.2.2.2.1
  have V : VW (cK h) (gi h 4) (cW h (gr h 1 8)) := W.2.2.2.2.2.2.1
  have E := W.2.2.1
  have G1 := GWc IR.1 (RIN_c R) V
  have G2 := GWc IR.1 (RIN_c R) (eqW_VW E V)
  refine ⟨GW_sim S.2.2.2.2.2.1 G2, SR_RF S, fun n k v k0 kn => ?_⟩
  rw [bnd_sim S.2.2.2.2.2.1 (GW_wd G1) n k v k0 kn]
  exact bnd_eqW E (fun k k0 k1 q => by
    rcases G1.2 k k0 k1 with z | z | z
    · exact z.2.1
    · exact z.2.1
    · rcases z.1 with w | w <;> omega) n k v k0 kn
theorem s190e {d : Nat} (hd : 7 ≤ d) {h0 h : dm_H} {p N : Int} {l : List mA} (G : GW (rRl h0 p) (rW h0) N) (F : RF h0 p N) (e : eqf h0 h) (I : Itr (rRl h0 p) (rW h0) N h l) : (l = [] → ∃ h', dF d 190 [dR 1 11 165, dI p] h = rI 0 h' ∧ eqr h h') ∧ (∀ a l', l = a :: l' → ∃ h', dF d 190 [dR 1 11 165, dI p] h = rI 1 h' ∧ eqr h h' ∧ va h' 185 = a ∧ Itr (rRl h0 p) (rW h0) N h' l') := by
  have eR := eqf_R e p
  have eW := eqf_W e
  have x := s190 (d := d) hd (h := h) (l := l) (p := p) (N := N) (by rw [eR, eW]; exact G) ⟨F.1, fun k k0 k1 => by rw [eqf_lq e]; exact F.2 k k0 k1⟩ (by rw [eR, eW]; exact I)
  rw [eR, eW] at x
  exact x
/-- begins -/
theorem s189v {d : Nat} (hd : 1 ≤ d) (n : Int) (h : dm_H) : ∃ h', dF d 189 [dR 1 11 165, dI n] h = rV h' ∧ frM h h' ∧ (gi h' 165 32 = n ∧ gi h' 165 33 = 1 ∧ gi h' 187 0 = 0 ∧ (∀ s, 0 ≤ s → s < 8 → gi h' 186 s = -1) ∧ va h' 185 = v0) ∧ ∀ a i, a = 188 ∨ a = 189 ∨ a = 190 ∨ a = 179 ∨ a = 180 ∨ (a = 165 ∧ (i < 31 ∨ 33 < i)) → gi h' a i = gi h a i := by
  refine ⟨_, s189 hd n h, ⟨fun a i n1 n2 n3 n4 => ?_, fun _ _ => rfl, rfl⟩, ⟨?_, ?_, ?_, fun s s0 s1 => gi_svi ⟨s0, s1⟩, ?_⟩, fun a i q => ?_⟩
  · rw [gi_svn (by omega), gi_svn (by omega), gi_sin (by omega), gi_si, if_neg (by omega), gi_si, if_neg (by omega), gi_si, if_neg (by omega)]
  · rw [gi_svn (by decide), gi_svn (by decide), gi_sin (by decide), gi_sij (by decide), gi_sij (by decide), gi_sis]
  · rw [gi_svn (by decide), gi_svn (by decide), gi_sin (by decide), gi_sij (by decide), gi_sis]
  · rw [gi_svn (by decide), gi_svn (by decide), gi_sis]
  · funext s
    unfold va v0
    split
    · rename_i q
      rw [gi_svn (by decide), gi_svi q]
    · rfl
  · rw [gi_svn (by omega), gi_svn (by omega), gi_sin (by omega), gi_si, if_neg (by omega), gi_si, if_neg (by omega), gi_si, if_neg (by omega)]
theorem cnt_lt {M L b' st : Int} (c : cnt M 0 L b' st) (q : L < M) : b' = L := by
  have := (c.1 (by omega)).1
  omega
theorem s161 {d : Nat} (hd : 1 ≤ d) (x : Int) (y : dm_O) (e : dF (d - 1) 162 [dR 1 10 1, dI x] h = y) : (∀ v h', y = rI v h' → dF d 161 [dR 1 10 1, dI x, dR 4 1 196] h = rI 0 (sl h' 0 v)) ∧ (∀ h', y = rX 0 h' → dF d 161 [dR 1 10 1, dI x, dR 4 1 196] h = rI 1 h') := by
  rw [f161 (by omega), b161_0, e]
  refine ⟨fun v h' ex => ?_, fun h' ex => ?_⟩
  · rw [ex, bk_v, b161_7, ix_p (by omega) (by omega)]
  · rw [ex, bk_c (g := 12) (j := 3) (n := 1) (L' := [lR 1 10 1, lI x, lR 4 1 196, none]) rfl (fun f => rfl)]
    exact b161_13 _ _ _ _ _ _
theorem s270l {d : Nat} (hd : 8 ≤ d) {h0 : dm_H} {p N : Int} (G : GW (rRl h0 p) (rW h0) N) (F : RF h0 p N) (w1 : Option dm_V) : ∀ (l : List mA) (h : dm_H) (c : Int), eqf h0 h → Itr (rRl h0 p) (rW h0) N h l → 0 ≤ c → c + l.length ≤ 1000000 → ∃ h', dL (d - 1) 270 39 [lR 1 11 165, w1, lI p, lI c] [] h = rI (c + l.length) h' ∧ eqr h h' := by
  intro l
  induction l with
  | nil =>
    intro h c e It c0 cl
    obtain ⟨h', x1, x2⟩ := (s190e (d := d - 1) (by omega) G F e It).1 rfl
    refine ⟨h', ?_, x2⟩
    rw [b270_39, x1, bk_v, b270_44, if_pos rfl, b270_53]
    simp
  | cons a l ih =>
    intro h c e It c0 cl
    rw [List.length_cons] at cl
    push_cast at cl
    obtain ⟨h', x1, x2, x3, x4⟩ := (s190e (d := d - 1) (by omega) G F e It).2 a l rfl
    obtain ⟨h2, y1, y2⟩ := ih h' (c + 1) (eqf_r e x2) x4 (by omega) (by omega)
    refine ⟨h2, ?_, eqr_trans x2 y2⟩
    rw [b270_39, x1, bk_v, b270_44, if_neg (by decide), ck_p (by omega) (by omega), y1, List.length_cons]
    push_cast
    rw [show c + 1 + (l.length : Int) = c + ((l.length : Int) + 1) by omega]
theorem op_bindings {d : Nat} (hd : 10 ≤ d) (I : IN0 π h) (S : still h (gr h 1 8)) (x : Int) : ∃ k h1 v h2, dF d 161 [dR 1 10 1, dI x, dR 4 1 196] h = rI k h1 ∧ dF d 270 [dR 1 11 165, dI x] h1 = rI v h2 ∧ gi h2 165 0 = k ∧ (k = 0 → gl h2 0 = v) ∧ IN0 π h2 ∧ frZ h h2 ∧ rm h h2 := by
  have I' := I
  obtain ⟨a1, a2, a3⟩ := thr_all I 1
  obtain ⟨IR, ID, B, J0, NM, G, HH, L, F, W⟩ := I
  have hn := B.1
  have K := IR.1
  have c0 := s125 (h := h) (d := d - 1 - 1) (by omega) x hn
  have w := s161 (h := h) (d := d) (by omega) x _ rfl
  rcases plc_same I' x with ⟨p1, p2⟩ | ⟨g, hg, gx, p1, p2, pg⟩
  · rw [p1, if_pos rfl] at c0
    have c : dF (d - 1) 162 [dR 1 10 1, dI x] h = rX 0 (sg h 6) := by rw [f162 (by omega), b162_0, c0, bk_x rfl]
    have r0 := s239 (h := sg h 6) (d := d - 1) (by omega) x
    have e : fz (fun p => gi (sg h 6) 174 p ≠ 0 ∧ gi (sg h 6) 173 p = x) 10 0 = -1 := p2
    rw [e] at r0
    refine ⟨1, _, 0, _, w.2 _ c, ?_, thr0, fun q => by omega, a1, a2, a3⟩
    rw [f270 (by omega), b270_0, r0, bk_v, b270_5, if_pos rfl, b270_17, thr0, if_neg (by decide), b270_53]
  · rw [p1, if_neg (by omega)] at c0
    have R := B.2.2.1 g hg.1 hg.2
    have V : VW (cK h) (gi h 4) (cW h (gr h 1 8)) := W.2.2.2.2.2.2.1
    obtain ⟨G1, F1, E1⟩ := bothr I' hg.1 hg.2
    have hN : 0 ≤ gi h (gr h 14 g) 4 ∧ gi h (gr h 14 g) 4 ≤ 4 := R.2.1.2.1
    have hR : SR h (gr h 14 g) (π g) := R.2.2.2.2.2.1
    obtain ⟨A, eA⟩ : ∃ A, gr h 14 g = A := ⟨_, rfl⟩
    obtain ⟨P, eP⟩ : ∃ P, gr h 1 8 = P := ⟨_, rfl⟩
    rw [eA] at R hN hR G1 F1 E1
    rw [eP] at V S E1
    have hp : rw_ P := by rw [← eP]; exact W.1.1
    obtain ⟨j2, j3, j4, j5, j9, j10⟩ := bgn_j h A P 0
    obtain ⟨h', y1, y2, y3, y4⟩ := jn_step (d := d - 1 - 1) (h := h) (by omega) K (RIN_c R) hp V S frJ_b (bgn_gr h A P 0) j2 j3 j4 (by omega) j5 j9 j10 (bgn_va h A P 0) ⟨(v0_J (cR h A)).1, (v0_J (cR h A)).2.1⟩
    have bl := bnd_len (ρ := cR h A) (ω := cW h P) (N := gi h A 4) (fun k k0 k1 z => by
      have q := GWc K (RIN_c R) V
      rcases q.2 k k0 k1 with z1 | z1 | z1
      · exact (V _ z1.2.1.1 z1.2.1.2).1
      · exact (V _ z1.2.1.1 z1.2.1.2).1
      · rcases z1.1 with w | w <;> omega) (gi h A 4).toNat 0 v0 (by omega) (by omega)
    have ba := abfc (RIN_c R)
    have e2 := cnt_lt y3 (by omega)
    generalize eB : bnd (cR h A) (cW h P) (gi h A 4).toNat 0 v0 = bs at e2 bl
    have c : dF (d - 1) 162 [dR 1 10 1, dI x] h = rI (bs.length : Int) h' := by
      rw [f162 (by omega), b162_0, c0, bk_v, b162_5, ix_p hg.1 (by omega), eA, eP, s20 (by omega), bk_n, b162_27, y1, bk_n, b162_35, e2]
    have fJ : fkj h (si (sl h' 0 (bs.length : Int)) 165 0 0) := fkj_trans (fkj_J y2) (fkj_trans fkj_l fkj_t)
    obtain ⟨H1, z1, z2, ⟨z3, z4, z5, z6, z7⟩, -⟩ := s189v (d := d - 1) (by omega) (gi h A 4) (si (sl h' 0 (bs.length : Int)) 165 0 0)
    have fK : fkj h H1 := fkj_trans fJ (fkj_M z2)
    have e0 : eqf h H1 := ⟨fun i => fK.1 _ _ (by omega) (by omega) (by omega) (by omega), fun i => fK.1 _ _ (by omega) (by omega) (by omega) (by omega), fun i => fK.1 _ _ (by omega) (by omega) (by omega) (by omega), fun i => fK.1 _ _ (by omega) (by omega) (by omega) (by omega)⟩
    have It : Itr (rRl h (π g)) (rW h) (gi h A 4) H1 bs := ⟨z3, Or.inl ⟨z4, z5, z6, by rw [z7]; exact v0_J _, by rw [z7, E1 _ 0 v0 (by omega) (by omega), eB]⟩⟩
    obtain ⟨H2, u1, u2⟩ := s270l (d := d) (by omega) G1 F1 (lI x) bs H1 0 e0 It (by omega) (by omega)
    have s := fkj_all I' (fkj_trans fK (fkj_M (frM_r u2)))
    have t0 : gi H2 165 0 = 0 := by rw [u2.1 _ _ (by omega) (by omega) (by omega) (by omega), z2.1 _ _ (by omega) (by omega) (by omega) (by omega), thr0]
    have t1 : H2.2.2 = (sl h' 0 (bs.length : Int)).2.2 := by rw [u2.2.2, z2.2.2]; rfl
    have r0 := s239 (h := sl h' 0 (bs.length : Int)) (d := d - 1) (by omega) x
    have e : fz (fun p => gi (sl h' 0 (bs.length : Int)) 174 p ≠ 0 ∧ gi (sl h' 0 (bs.length : Int)) 173 p = x) 10 0 = π g := (fz_congr 10 0 (fun j _ _ => by
      show (gi h' 174 j ≠ 0 ∧ gi h' 173 j = x) ↔ _
      rw [y2.1 _ _ (by omega), y2.1 _ _ (by omega)])).trans p2
    rw [e] at r0
    have hπ := hR.1
    refine ⟨0, _, 0 + (bs.length : Int), H2, w.1 _ _ c, ?_, t0, fun _ => ?_, s.1, s.2, rm_3 ?_ (ct_e ((fkj_trans fK (fkj_M (frM_r u2))).1 _ _ (by omega) (by omega) (by omega) (by omega) ) ((fkj_trans fK (fkj_M (frM_r u2))).1 _ _ (by omega) (by omega) (by omega) (by omega) ))⟩
    · rw [f270 (by omega), b270_0, r0, bk_v, b270_5, if_neg (by omega), b270_17, thr0, if_pos rfl, s179 (by omega) (π g) 5 _ hπ (by omega), bk_v, b270_36, show gi (si (sl h' 0 (bs.length : Int)) 165 0 0) 172 (38 * π g + 5) = gi h A 4 from (fJ.1 _ _ (by omega) (by omega) (by omega) (by omega)).trans hR.2.2.2.2.1, z1, bk_n, u1]
    · rw [Int.zero_add]
      show H2.2.2.1 0 = _
      rw [t1]
      show gl (sl h' 0 (bs.length : Int)) 0 = _
      rw [gl_sl, if_pos rfl]
    · rw [t1]
      show h'.2.2.2 = h.2.2.2
      rw [y2.2.2]
end BDG
