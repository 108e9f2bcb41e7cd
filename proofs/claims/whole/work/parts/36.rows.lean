/-! ROWS: the class's store, and the reference's -/
/-- what is better of two rows with one key -/
def btr (kd c o : Int) : Prop := (kd = 1 ∧ c < o) ∨ (kd = 2 ∧ o < c)
/-- where the rival of a row stands -/
def riv (h : dm_H) (P : Nat) (r c : Int) : Int := fz (fun x => rws h P r x / gi h 5 r = c / gi h 5 r) (rsz h P r).toNat 0
/-- a store's rows of r, as the small methods want them -/
def rok (h : dm_H) (P : Nat) (r : Int) : Prop := (0 ≤ r ∧ r < 6) ∧ 1 ≤ gi h 5 r ∧ (0 ≤ rsz h P r ∧ rsz h P r ≤ 32) ∧ ∀ x, 0 ≤ x → x < rsz h P r → 0 ≤ rws h P r x
theorem s34 {d : Nat} (hd : 1 ≤ d) {h : dm_H} {P : Nat} {r : Int} (K : rok h P r) (c : Int) (hc : 0 ≤ c) : dF d 34 [dR 1 7 P, dI r, dI c] h = rI (riv h P r c) h := by
  obtain ⟨hr, hk, hz, hx⟩ := K
  rw [f34 hd, b34_0, ix_p hr.1 hr.2, if_neg (by omega), dv_p hc (by omega), ix_p hr.1 hr.2, rw_e]
  refine fz_loop (P := fun x => rws h P r x / gi h 5 r = c / gi h 5 r) (Hd := fun i => dL (d - 1) 34 33 [lR 1 7 P, lI r, lI c, lI (gi h 5 r), lI (c / gi h 5 r), lR 2 32 (P + 3 + r.toNat), lI i] [] h) (r := fun i => rI i h) (N := rsz h P r) (fun i i0 iN hP => ?_) (fun i i0 iN hP => ?_) (fun i i0 iN => ?_) (rsz h P r).toNat 0 (by omega) (by omega)
  · show dL (d - 1) 34 33 [lR 1 7 P, lI r, lI c, lI (gi h 5 r), lI (c / gi h 5 r), lR 2 32 (P + 3 + r.toNat), lI i] [] h = _
    rw [b34_33, ix_p hr.1 hr.2, if_pos (show i < gi h (P + 1) r from iN), ix_p i0 (by omega), dv_p (show 0 ≤ gi h (P + 3 + r.toNat) i from hx i i0 iN) (show 0 < gi h 5 r by omega), if_pos (show gi h (P + 3 + r.toNat) i / gi h 5 r = c / gi h 5 r from hP)]
  · show dL (d - 1) 34 33 [lR 1 7 P, lI r, lI c, lI (gi h 5 r), lI (c / gi h 5 r), lR 2 32 (P + 3 + r.toNat), lI i] [] h = _
    rw [b34_33, ix_p hr.1 hr.2, if_pos (show i < gi h (P + 1) r from iN), ix_p i0 (by omega), dv_p (show 0 ≤ gi h (P + 3 + r.toNat) i from hx i i0 iN) (show 0 < gi h 5 r by omega), if_neg (show ¬ gi h (P + 3 + r.toNat) i / gi h 5 r = c / gi h 5 r from hP), ck_p (by omega) (by omega)]
  · show dL (d - 1) 34 33 [lR 1 7 P, lI r, lI c, lI (gi h 5 r), lI (c / gi h 5 r), lR 2 32 (P + 3 + r.toNat), lI i] [] h = _
    rw [b34_33, ix_p hr.1 hr.2, if_neg (show ¬ i < gi h (P + 1) r by unfold rsz at iN; omega)]
theorem s35 {d : Nat} (hd : 1 ≤ d) {h : dm_H} {P : Nat} {r : Int} (hr : 0 ≤ r ∧ r < 6) (c o : Int) : dF d 35 [dR 1 7 P, dI r, dI c, dI o] h = rI (@bi (btr (gi h 4 r) c o) (Classical.propDecidable _)) h := by
  rw [f35 hd, b35_0, ix_p hr.1 hr.2]
  by_cases h1 : gi h 4 r = 1
  · rw [if_pos h1]
    by_cases h2 : c < o
    · rw [if_pos h2, b35_46, z1_p (Or.inr rfl), @bi_1 _ (Classical.propDecidable _) (show btr (gi h 4 r) c o from Or.inl ⟨h1, h2⟩)]
    · rw [if_neg h2, b35_46, z1_p (Or.inl rfl), @bi_0 _ (Classical.propDecidable _) (show ¬ btr (gi h 4 r) c o by unfold btr; omega)]
  rw [if_neg h1]
  by_cases h3 : gi h 4 r = 2
  · rw [if_pos h3]
    by_cases h2 : o < c
    · rw [if_pos h2, b35_46, z1_p (Or.inr rfl), @bi_1 _ (Classical.propDecidable _) (show btr (gi h 4 r) c o from Or.inr ⟨h3, h2⟩)]
    · rw [if_neg h2, b35_45, b35_46, z1_p (Or.inl rfl), @bi_0 _ (Classical.propDecidable _) (show ¬ btr (gi h 4 r) c o by unfold btr; omega)]
  · rw [if_neg h3, b35_45, b35_46, z1_p (Or.inl rfl), @bi_0 _ (Classical.propDecidable _) (show ¬ btr (gi h 4 r) c o by unfold btr; omega)]
theorem riv_r (h : dm_H) (P : Nat) (r c : Int) (hz : 0 ≤ rsz h P r) : (riv h P r c = -1 ∧ ∀ x, 0 ≤ x → x < rsz h P r → rws h P r x / gi h 5 r ≠ c / gi h 5 r) ∨ ((0 ≤ riv h P r c ∧ riv h P r c < rsz h P r) ∧ rws h P r (riv h P r c) / gi h 5 r = c / gi h 5 r) := by
  rcases fz_spec (fun x => rws h P r x / gi h 5 r = c / gi h 5 r) (rsz h P r).toNat 0 with ⟨a1, a2⟩ | ⟨a1, a2, a3, -⟩
  · exact Or.inl ⟨a1, fun x x0 x1 => a2 x x0 (by omega)⟩
  · exact Or.inr ⟨⟨a1, by unfold riv; omega⟩, a3⟩
/-- whether a row would change something -/
def wnt (h : dm_H) (P : Nat) (r c : Int) : Prop := riv h P r c = -1 ∨ btr (gi h 4 r) c (rws h P r (riv h P r c))
theorem s33 {d : Nat} (hd : 2 ≤ d) {h : dm_H} {P : Nat} {r : Int} (K : rok h P r) (c : Int) (hc : 0 ≤ c) : dF d 33 [dR 1 7 P, dI r, dI c] h = rI (@bi (wnt h P r c) (Classical.propDecidable _)) h := by
  have K0 := K
  obtain ⟨hr, hk, hz, hx⟩ := K0
  rw [f33 (by omega), b33_0, s34 (by omega) K c hc, bk_v, b33_6]
  by_cases h1 : riv h P r c = -1
  · rw [if_pos h1, b33_29, b33_34, z1_p (Or.inr rfl), @bi_1 _ (Classical.propDecidable _) (show wnt h P r c from Or.inl h1)]
  have hin := (riv_r h P r c hz.1).resolve_left (fun q => h1 q.1)
  rw [if_neg h1, ix_p hr.1 hr.2, ix_p hin.1.1 (by omega), rw_e, s35 (by omega) hr, bk_v, b33_26, show gi h (P + 3 + r.toNat) (riv h P r c) = rws h P r (riv h P r c) from rfl]
  by_cases h2 : btr (gi h 4 r) c (rws h P r (riv h P r c))
  · rw [@bi_1 _ (Classical.propDecidable _) h2, if_neg (by omega), b33_29, b33_34, z1_p (Or.inr rfl), @bi_1 _ (Classical.propDecidable _) (show wnt h P r c from Or.inr h2)]
  · rw [@bi_0 _ (Classical.propDecidable _) h2, if_pos rfl, b33_34, z1_p (Or.inl rfl), @bi_0 _ (Classical.propDecidable _) (show ¬ wnt h P r c from fun q => q.elim h1 h2)]
/-- row c stands at place x of r, as come in round s -/
def pth (h : dm_H) (P : Nat) (r x c s : Int) : dm_H := si (si (si h (P + 3 + r.toNat) x c) (P + 10 + r.toNat) x s) (P + 16) r s
theorem s36 {d : Nat} (hd : 2 ≤ d) {h : dm_H} {P : Nat} {r : Int} (K : rok h P r) (c s : Int) (hc : 0 ≤ c) :
    (riv h P r c = -1 → rsz h P r < 32 → dF d 36 [dR 1 7 P, dI r, dI c, dI s] h = rI 1 (pth (si h (P + 1) r (rsz h P r + 1)) P r (rsz h P r) c s)) ∧
    (riv h P r c = -1 → rsz h P r = 32 → dF d 36 [dR 1 7 P, dI r, dI c, dI s] h = rI 0 (si h P 5 1)) ∧
    (riv h P r c ≠ -1 → btr (gi h 4 r) c (rws h P r (riv h P r c)) → dF d 36 [dR 1 7 P, dI r, dI c, dI s] h = rI 1 (pth h P r (riv h P r c) c s)) ∧
    (riv h P r c ≠ -1 → ¬ btr (gi h 4 r) c (rws h P r (riv h P r c)) → dF d 36 [dR 1 7 P, dI r, dI c, dI s] h = rI 0 h) := by
  have K0 := K
  obtain ⟨hr, hk, hz, hx⟩ := K0
  rw [f36 (by omega), b36_0, s34 (by omega) K c hc, bk_v, b36_6]
  have hput : ∀ (H : dm_H) (x : Int), 0 ≤ x → x < 32 → dL (d - 1) 36 69 [lR 1 7 P, lI r, lI c, lI s, lI x] [] H = rI 1 (pth H P r x c s) := by
    intro H x x0 x1
    rw [b36_69, ix_p hr.1 hr.2, ix_p x0 (by omega), ix_p hr.1 hr.2, ix_p x0 (by omega), ix_p hr.1 hr.2, rw_e, rw_e9]
    rfl
  refine ⟨fun h1 h2 => ?_, fun h1 h2 => ?_, fun h1 h2 => ?_, fun h1 h2 => ?_⟩
  · rw [if_pos h1, ix_p hr.1 hr.2, if_pos (show gi h (P + 1) r < 32 from h2), ix_p hr.1 hr.2, ck_p (by unfold rsz at hz; omega) (by unfold rsz at hz; omega), ix_p hr.1 hr.2]
    exact hput _ _ hz.1 h2
  · rw [if_pos h1, ix_p hr.1 hr.2, if_neg (show ¬ gi h (P + 1) r < 32 by unfold rsz at h2; omega)]
  · have hin := (riv_r h P r c hz.1).resolve_left (fun q => h1 q.1)
    rw [if_neg h1, ix_p hr.1 hr.2, ix_p hin.1.1 (by omega), rw_e, s35 (by omega) hr, bk_v, b36_64, show gi h (P + 3 + r.toNat) (riv h P r c) = rws h P r (riv h P r c) from rfl, @bi_1 _ (Classical.propDecidable _) h2, if_neg (by omega)]
    exact hput _ _ hin.1.1 (by omega)
  · have hin := (riv_r h P r c hz.1).resolve_left (fun q => h1 q.1)
    rw [if_neg h1, ix_p hr.1 hr.2, ix_p hin.1.1 (by omega), rw_e, s35 (by omega) hr, bk_v, b36_64, show gi h (P + 3 + r.toNat) (riv h P r c) = rws h P r (riv h P r c) from rfl, @bi_0 _ (Classical.propDecidable _) h2, if_pos rfl]
/-- where a row stands -/
def plc (h : dm_H) (P : Nat) (r c : Int) : Int := fz (fun x => rws h P r x = c) (rsz h P r).toNat 0
theorem s28 {d : Nat} (hd : 1 ≤ d) {h : dm_H} {P : Nat} {r : Int} (hr : 0 ≤ r ∧ r < 6) (hz : 0 ≤ rsz h P r ∧ rsz h P r ≤ 32) (c : Int) : dF d 28 [dR 1 7 P, dI r, dI c] h = rI (plc h P r c) h := by
  rw [f28 hd, b28_0]
  refine fz_loop (P := fun x => rws h P r x = c) (Hd := fun i => dL (d - 1) 28 2 [lR 1 7 P, lI r, lI c, lI i] [] h) (r := fun i => rI i h) (N := rsz h P r) (fun i i0 iN hP => ?_) (fun i i0 iN hP => ?_) (fun i i0 iN => ?_) (rsz h P r).toNat 0 (by omega) (by omega)
  · show dL (d - 1) 28 2 [lR 1 7 P, lI r, lI c, lI i] [] h = _
    rw [b28_2, ix_p hr.1 hr.2, if_pos (show i < gi h (P + 1) r from iN), ix_p hr.1 hr.2, ix_p i0 (by omega), rw_e, if_pos (show gi h (P + 3 + r.toNat) i = c from hP)]
  · show dL (d - 1) 28 2 [lR 1 7 P, lI r, lI c, lI i] [] h = _
    rw [b28_2, ix_p hr.1 hr.2, if_pos (show i < gi h (P + 1) r from iN), ix_p hr.1 hr.2, ix_p i0 (by omega), rw_e, if_neg (show ¬ gi h (P + 3 + r.toNat) i = c from hP), ck_p (by omega) (by omega)]
  · show dL (d - 1) 28 2 [lR 1 7 P, lI r, lI c, lI i] [] h = _
    rw [b28_2, ix_p hr.1 hr.2, if_neg (show ¬ i < gi h (P + 1) r by unfold rsz at iN; omega)]
def clr (h : dm_H) (P : Nat) : dm_H := si (fill (fill h (P + 1) 6 0) (P + 16) 6 0) P 5 0
theorem s59 {d : Nat} (hd : 2 ≤ d) (h : dm_H) (P : Nat) : dF d 59 [dR 1 7 P] h = rV (clr h P) := by
  rw [f59 (by omega), b59_0, s21 (by omega) 6 (P + 1) 0 h (by omega), bk_n, b59_8, s21 (by omega) 6 (P + 16) 0 _ (by omega), bk_n, b59_16]
  rfl
/-- a layer's relations below n are done: their rows are old -/
def clsd (h : dm_H) (P : Nat) (L n : Int) (h' : dm_H) : Prop := (∀ a i, ¬ (P + 10 ≤ a ∧ a ≤ P + 16) → gi h' a i = gi h a i) ∧ (∀ a i, gr h' a i = gr h a i) ∧ h'.2.2 = h.2.2 ∧ ∀ r, 0 ≤ r → r < 6 → (r < n ∧ gi h 7 r = L → (∀ x, 0 ≤ x → x < 32 → rst h' P r x = 0) ∧ gi h' (P + 16) r = 0) ∧ (¬ (r < n ∧ gi h 7 r = L) → (∀ x, rst h' P r x = rst h P r x) ∧ gi h' (P + 16) r = gi h (P + 16) r)
theorem s66 {d : Nat} (hd : 2 ≤ d) (h : dm_H) (P : Nat) (L : Int) (hp : rw_ P) (hn : 0 ≤ gi h 2 0 ∧ gi h 2 0 ≤ 6) : ∃ h', dF d 66 [dR 1 7 P, dI L] h = rV h' ∧ clsd h P L (gi h 2 0) h' := by
  have hP : P = 95 ∨ P = 112 := hp
  rw [f66 (by omega), b66_0]
  have key : ∀ (m : Nat) (i : Int) (H : dm_H), 0 ≤ i → i + m = gi h 2 0 → clsd h P L i H → ∃ h', dL (d - 1) 66 2 [lR 1 7 P, lI L, lI i] [] H = rV h' ∧ clsd h P L (gi h 2 0) h' := by
    intro m
    induction m with
    | zero =>
      intro i H i0 im hH
      have e : i = gi h 2 0 := by omega
      refine ⟨H, ?_, by rw [← e]; exact hH⟩
      rw [b66_2, hH.1 2 0 (by omega), if_neg (by omega)]
    | succ m ih =>
      intro i H i0 im hH
      obtain ⟨a1, a2, a3, a4⟩ := hH
      rw [b66_2, a1 2 0 (by omega), if_pos (by omega), ix_p i0 (by omega), a1 7 i (by omega)]
      by_cases q : gi h 7 i = L
      · rw [if_pos q, ix_p i0 (by omega), rw_e9, s21 (by omega) 32 (P + 10 + i.toNat) 0 H (by omega), bk_n, b66_36, ix_p i0 (by omega), b66_43, ck_p (by omega) (by omega)]
        refine ih (i + 1) _ (by omega) (by omega) ⟨fun a j hj => ?_, fun a j => ?_, ?_, fun r r0 r1 => ?_⟩
        · rw [gi_sin (by omega), gi_fill, if_neg (by omega)]
          exact a1 a j hj
        · exact a2 a j
        · exact a3
        · obtain ⟨c1, c2⟩ := a4 r r0 r1
          by_cases e : r = i
          · subst e
            refine ⟨fun _ => ⟨fun x x0 x1 => ?_, by rw [gi_sis]⟩, fun z => absurd ⟨by omega, q⟩ z⟩
            unfold rst
            rw [gi_sin (by omega), gi_fill, if_pos ⟨rfl, x0, by omega⟩]
          · have e1 : ∀ x, rst (si (fill H (P + 10 + i.toNat) ((32 : Nat) : Int) 0) (P + 16) i 0) P r x = rst H P r x := by
              intro x
              unfold rst
              rw [gi_sin (by omega), gi_fill, if_neg (by omega)]
            have e2 : gi (si (fill H (P + 10 + i.toNat) ((32 : Nat) : Int) 0) (P + 16) i 0) (P + 16) r = gi H (P + 16) r := by
              rw [gi_sij (by omega), gi_fill, if_neg (by omega)]
            refine ⟨fun z => ?_, fun z => ?_⟩
            · obtain ⟨y1, y2⟩ := c1 ⟨by omega, z.2⟩
              exact ⟨fun x x0 x1 => by rw [e1]; exact y1 x x0 x1, by rw [e2]; exact y2⟩
            · obtain ⟨y1, y2⟩ := c2 (fun y => z ⟨by omega, y.2⟩)
              exact ⟨fun x => by rw [e1]; exact y1 x, by rw [e2]; exact y2⟩
      · rw [if_neg q, b66_43, ck_p (by omega) (by omega)]
        refine ih (i + 1) _ (by omega) (by omega) ⟨a1, a2, a3, fun r r0 r1 => ?_⟩
        obtain ⟨c1, c2⟩ := a4 r r0 r1
        refine ⟨fun z => c1 ⟨?_, z.2⟩, fun z => c2 (fun y => z ⟨by omega, y.2⟩)⟩
        rcases Int.lt_or_le r i with y | y
        · exact y
        · have : r = i := by omega
          rw [this] at z
          exact absurd z.2 q
  exact key (gi h 2 0).toNat 0 h (by omega) (by omega) ⟨fun _ _ _ => rfl, fun _ _ => rfl, rfl, fun r r0 r1 => ⟨fun z => by omega, fun _ => ⟨fun _ => rfl, rfl⟩⟩⟩
