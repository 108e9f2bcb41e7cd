/-! TURNS END -/
section TURNS
variable {P : Nat} {hB : dm_H} {oc : Int → Int → Prop} {RL : mU → Prop} {L : Int}
theorem RI_s {s s' : Int} (h1 : s ≤ s') {ft : Int → Int → Prop} {h : dm_H} (k : RI P hB ft RL s L h) : RI P hB ft RL s' L h := by
  obtain ⟨k1, k2, k3, k4, k5, k6⟩ := k
  exact ⟨k1, k2, fun r r0 r1 => ⟨⟨(k3 r r0 r1).1.1, by have := (k3 r r0 r1).1.2; omega⟩, (k3 r r0 r1).2⟩, k4, k5, k6⟩
/-- where nothing has come, no stamp is new -/
theorem stp_old {s : Int} {h h' : dm_H} (g : gro (cK hB) (gi hB 4) P s h h') (e : smW (cW h P) (cW h' P)) {n : Int} (k : stp_ P n h) : ∀ r, 0 ≤ r → r < 6 → ∀ x, 0 ≤ x → x < rsz h' P r → 0 ≤ rst h' P r x ∧ rst h' P r x ≤ n := by
  intro r r0 r1 x x0 x1
  have e1 : rsz h' P r = rsz h P r := (e r r0 r1).1
  rw [e1] at x1
  rw [gro_old g ⟨r0, r1⟩ (e r r0 r1).2 x x0 x1]
  obtain ⟨a1, a2⟩ := k r r0 r1
  have := a2 x x0 x1
  omega
/-- rows go on over many rounds: where they stay, stamps do; and what is covered stays covered -/
def othl (P : Nat) (hB hL h : dm_H) : Prop := (∀ r, 0 ≤ r → r < 6 → rsz hL P r ≤ rsz h P r ∧ (∀ x, 0 ≤ x → x < rsz hL P r → rws h P r x = rws hL P r x ∨ btr (gi hB 4 r) (rws h P r x) (rws hL P r x)) ∧ ((rsz h P r = rsz hL P r ∧ ∀ x, 0 ≤ x → x < rsz hL P r → rws h P r x = rws hL P r x) → gi h (P + 16) r = gi hL (P + 16) r ∧ ∀ x, 0 ≤ x → x < rsz hL P r → rst h P r x = rst hL P r x)) ∧ ∀ r c, 0 ≤ r → r < 6 → cov (cK hB) (gi hB 4) (cW hL P) r c → cov (cK hB) (gi hB 4) (cW h P) r c
theorem othl_refl (h : dm_H) : othl P hB h h := ⟨fun r _ _ => ⟨Int.le_refl _, fun _ _ _ => Or.inl rfl, fun _ => ⟨rfl, fun _ _ _ => rfl⟩⟩, fun _ _ _ _ k => k⟩
theorem othl_gro {s : Int} {hL h h' : dm_H} (g : gro (cK hB) (gi hB 4) P s h h') (o : othl P hB hL h) : othl P hB hL h' := by
  refine ⟨fun r r0 r1 => ?_, fun r c r0 r1 k => gro_cov g ⟨r0, r1⟩ (o.2 r c r0 r1 k)⟩
  obtain ⟨o1, o2, o3⟩ := o.1 r r0 r1
  obtain ⟨g1, g2, g3, g5, g4⟩ := g r r0 r1
  refine ⟨by omega, fun x x0 x1 => ?_, fun w => ?_⟩
  · rcases g2 x x0 (by omega) with ⟨z, _⟩ | ⟨_, _, z⟩
    · rw [z]; exact o2 x x0 x1
    · rcases o2 x x0 x1 with y | y
      · rw [← y]; exact Or.inr z
      · right
        unfold btr at z y ⊢
        omega
  · have key : ∀ x, 0 ≤ x → x < rsz hL P r → rws h P r x = rws hL P r x := by
      intro x x0 x1
      rcases o2 x x0 x1 with y | y
      · exact y
      · have wx := w.2 x x0 x1
        rcases g2 x x0 (by omega) with ⟨z, _⟩ | ⟨_, _, z⟩
        · rw [← z, wx]
        · rw [wx] at z
          unfold btr at z y
          omega
    have w1 := w.1
    obtain ⟨p1, p2⟩ := o3 ⟨by omega, key⟩
    have e : ∀ x, 0 ≤ x → x < rsz h P r → rws h' P r x = rws h P r x := fun x x0 x1 => by rw [w.2 x x0 (by omega), key x x0 (by omega)]
    refine ⟨?_, fun x x0 x1 => ?_⟩
    · rcases g4 with g4 | g4
      · rw [g4, p1]
      · exact absurd ⟨by omega, e⟩ g4
    · rw [← p2 x x0 x1]
      rcases g2 x x0 (by omega) with ⟨_, z⟩ | ⟨_, _, z⟩
      · exact z
      · rw [e x x0 (by omega)] at z
        unfold btr at z
        omega
/-- the rules of the layer are closed -/
def cls (P : Nat) (hB : dm_H) (L : Int) (h : dm_H) : Prop := ∀ j, 0 ≤ j → j < gi hB 13 1 → gi hB (gr hB 14 j) 1 ≠ 3 → gi hB 7 (gi hB (gr hB 14 j) 2) = L → ∀ c, mkd (cK hB) (uR hB (gr hB 14 j)) (cW h P) c → cov (cK hB) (gi hB 4) (cW h P) (gi hB (gr hB 14 j) 2) c
theorem turns {d : Nat} (hd : 9 ≤ d) (hp : rw_ P) (K : RK hB) (B : BK hB oc RL) {ft : Int → Int → Prop} {hL : dm_H} (IL : RI P hB ft RL 0 L hL) (w1 w2 w3 w4 : Option dm_V) :
    ∀ (m : Nat) (r : Int) (h : dm_H) (ft1 : Int → Int → Prop) (w7 : Option dm_V), 0 ≤ r → r + m = 30000 → (∀ r c, ft r c → ft1 r c) → RI P hB ft1 RL r L h → oldl P hB L h → frR P hL h → gr h 143 5 = P → othl P hB hL h → (gi h P 5 ≠ 0 → tmp P hB ft RL L) →
      (gi h P 5 = 0 → ft1 = ft ∧ (∀ r0, 0 ≤ r0 → r0 < r → ∀ j, 0 ≤ j → j < gi hB 13 1 → gi hB (gr hB 14 j) 1 ≠ 3 → gi hB 7 (gi hB (gr hB 14 j) 2) = L → dn P hB (gr hB 14 j) r0 hL h) ∧ ((gi h 143 8 = 1 ∧ r ≤ 1 + wgh (cK hB) (gi hB 4) (cW h P)) ∨ (gi h 143 8 = 0 ∧ 1 ≤ r ∧ ∀ q, 0 ≤ q → q < 6 → ∀ x, 0 ≤ x → x < rsz h P q → 0 ≤ rst h P q x ∧ rst h P q x ≤ r - 1))) →
      ∃ h' ft' r' w7', dL d 58 121 [lR 1 1 143, w1, w2, w3, w4, lI L, lI r, w7] [] h = dL d 58 232 [lR 1 1 143, w1, w2, w3, w4, lI L, lI r', w7'] [] h' ∧ (∀ r c, ft r c → ft' r c) ∧ RI P hB ft' RL r' L h' ∧ oldl P hB L h' ∧ frR P hL h' ∧ gr h' 143 5 = P ∧ othl P hB hL h' ∧ (gi h' P 5 ≠ 0 → tmp P hB ft RL L) ∧ (gi h' P 5 = 0 → ft' = ft ∧ cls P hB L h') := by
  have hP : P = 95 ∨ P = 112 := hp
  have hclose : ∀ (r : Int) (h : dm_H) (ft1 : Int → Int → Prop), 1 ≤ r → RI P hB ft1 RL r L h → (∀ r0, 0 ≤ r0 → r0 < r → ∀ j, 0 ≤ j → j < gi hB 13 1 → gi hB (gr hB 14 j) 1 ≠ 3 → gi hB 7 (gi hB (gr hB 14 j) 2) = L → dn P hB (gr hB 14 j) r0 hL h) → (∀ q, 0 ≤ q → q < 6 → ∀ x, 0 ≤ x → x < rsz h P q → 0 ≤ rst h P q x ∧ rst h P q x ≤ r - 1) → cls P hB L h := by
    intro r h ft1 r1 I D S j j0 j1 k3 kL
    obtain ⟨-, b | ⟨_, R, _⟩⟩ := B.2 j j0 j1
    · exact absurd b k3
    by_cases k0 : gi hB (gr hB 14 j) 1 = 0
    · exact clo_F hp K R k0 I (n := r - 1) (by omega) S (((D 0 (by omega) (by omega) j j0 j1 k3 kL).1 k0).1 rfl) (fun q q0 q1 => ((D q (by omega) (by omega) j j0 j1 k3 kL).1 k0).2 q0)
    · exact (dn_base K R kL I (RI_s (by omega) IL) (D 0 (by omega) (by omega) j j0 j1 k3 kL)).2 k0 rfl
  intro m
  induction m with
  | zero =>
    intro r h ft1 w7 r0 rm a1 a2 a3 a4 a5 a9 a8 a6
    rw [b58_121, a5]
    by_cases q : gi h 143 8 = 0
    · rw [if_pos q]
      refine ⟨h, ft1, r, w7, rfl, a1, a2, a3, a4, a5, a9, a8, fun z => ?_⟩
      obtain ⟨y1, y2, y3 | y3⟩ := a6 z
      · omega
      · exact ⟨y1, hclose r h ft1 y3.2.1 a2 y2 y3.2.2⟩
    · rw [if_neg q]
      by_cases z : gi h P 5 = 0
      · exfalso
        obtain ⟨_, _, y | y⟩ := a6 z
        · have := (wgh_ub (RK_D K) a2.2.1).2
          omega
        · exact q y.1
      · rw [if_neg z]
        exact ⟨h, ft1, r, w7, rfl, a1, a2, a3, a4, a5, a9, a8, fun y => absurd y z⟩
  | succ m ih =>
    intro r h ft1 w7 r0 rm a1 a2 a3 a4 a5 a9 a8 a6
    rw [b58_121, a5]
    by_cases q : gi h 143 8 = 0
    · rw [if_pos q]
      refine ⟨h, ft1, r, w7, rfl, a1, a2, a3, a4, a5, a9, a8, fun z => ?_⟩
      obtain ⟨y1, y2, y3 | y3⟩ := a6 z
      · omega
      · exact ⟨y1, hclose r h ft1 y3.2.1 a2 y2 y3.2.2⟩
    · rw [if_neg q]
      by_cases z : gi h P 5 = 0
      case neg =>
        rw [if_neg z]
        exact ⟨h, ft1, r, w7, rfl, a1, a2, a3, a4, a5, a9, a8, fun y => absurd y z⟩
      rw [if_pos z, if_pos (by omega)]
      obtain ⟨y1, y2, y3⟩ := a6 z
      have m1 : smP P h (si (si h 143 7 r) 143 8 0) := fun a i p1 p2 => by rw [gi_sin (by omega), gi_sin (by omega)]
      have f1 : frR P h (si (si h 143 7 r) 143 8 0) := ⟨fun a i _ _ p3 => by rw [gi_sin (by omega), gi_sin (by omega)], fun _ _ _ _ _ => rfl, rfl⟩
      have b10 := B.1
      have k7 : gi (si (si h 143 7 r) 143 8 0) 143 7 = r := by rw [gi_sij (by decide), gi_sis]
      have k8 : gi (si (si h 143 7 r) 143 8 0) 143 8 = 0 := by rw [gi_sis]
      have hru15 : ru 15 := Or.inl (by omega)
      have I1 := RI_P hru15 hp (RI_s (s' := r + 1) (by omega) a2) f1 m1
      have st1 := (RI_P hru15 hp a2 f1 m1).2.2.1
      have ow : ∀ q, 0 ≤ q → q < 6 → rsz (si (si h 143 7 r) 143 8 0) P q = rsz h P q ∧ ∀ x, rws (si (si h 143 7 r) 143 8 0) P q x = rws h P q x := fun q _ _ => ⟨m1 _ _ (by omega) (by omega), fun x => m1 _ _ (by omega) (by omega)⟩
      have o1 : oldl P hB L (si (si h 143 7 r) 143 8 0) := oldl_gro a3 (RI_s (s' := r + 1) (by omega) a2) I1 (gro_P m1)
      have k5 : gr (si (si h 143 7 r) 143 8 0) 143 5 = P := a5
      have hwg : wgh (cK hB) (gi hB 4) (cW (si (si h 143 7 r) 143 8 0) P) = wgh (cK hB) (gi hB 4) (cW h P) := smW_wgh (fun q q0 q1 => ow q q0 q1)
      have g1 := gro_P (cl := cK hB) (kd := gi hB 4) (s := r + 1) m1
      have o9 := othl_gro g1 a9
      generalize si (si h 143 7 r) 143 8 0 = h1 at *
      obtain ⟨h', ft', t1, t2, t3, t4, t5, t6, t7, t8⟩ := turn_r hd hp K B (r := r) (s := r + 1) (by omega) I1 o1 k5 k7 w1 w2 w3 w4
      have e13 : gi h' 13 1 = gi hB 13 1 := (frR_e hru15 hp t3.1).1 13 (by omega) 1
      rw [t1, b58_159, e13, if_neg (by omega), ck_p (by omega) (by omega)]
      refine ih (r + 1) h' ft' _ (by omega) (by omega) (fun x y w => t2 x y (a1 x y w)) t3 t4 (frR_trans a4 (frR_trans f1 t5)) t7.1 (othl_gro t6 o9) (fun zz => by rw [← y1]; exact t8.1 zz) (fun zz => ?_)
      obtain ⟨u1, u2, u3, u4⟩ := t8.2 zz
      subst u1
      refine ⟨y1, fun r0' q0 q1 j j0 j1 k3 kL => ?_, ?_⟩
      · obtain ⟨-, b | ⟨_, R, _⟩⟩ := B.2 j j0 j1
        · exact absurd b k3
        by_cases e : r0' = r
        · rw [e]
          exact dn_base K R kL (RI_s (by omega) IL) I1 (u4 j j0 j1 k3 kL)
        · exact dn_gro hp K R kL (s := r + 1) (by omega) (RI_s (by omega) a2) t3 (gro_trans g1 t6) (y2 r0' q0 (by omega) j j0 j1 k3 kL)
      · rcases u3 with ⟨v1, v2⟩ | ⟨v1, v2⟩
        · refine Or.inr ⟨by rw [v1]; exact k8, by omega, fun q q0 q1 x x0 x1 => ?_⟩
          have := stp_old t6 v2 st1 q q0 q1 x x0 x1
          omega
        · refine Or.inl ⟨v1, ?_⟩
          have := (wgh_ub (RK_D K) t3.2.1).1
          rcases y3 with y3 | y3
          · rcases v2 with v2 | v2 <;> omega
          · exact absurd y3.1 q
end TURNS
