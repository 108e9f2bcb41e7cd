/-! RULES THAT ARE GOOD; what is left of them when there are fewer -/
/-- what hangs on what, by rules alone -/
def LTc (RL : mU → Prop) (r q : Int) : Prop := ∀ R : Int → Int → Prop, (∀ r q, eg RL r q → R r q) → (∀ r q s, R r q → R q s → R r s) → R r q
def ocL (RL : mU → Prop) (r q : Int) : Prop := r = q ∨ (LTc RL r q ∧ LTc RL q r)
theorem LTc_of {RL : mU → Prop} {H : Int → Int → Prop} (T : LT (eg RL) H) (r q : Int) : H r q ↔ LTc RL r q := ⟨fun z R a b => T.2.2 R a b r q z, fun z => z H T.1 T.2.1⟩
theorem ocH_L {RL : mU → Prop} {h : dm_H} {a : Nat} (T : LT (eg RL) (bh h a)) : ocH h a = ocL RL := by
  funext r q
  unfold ocH ocL
  rw [LTc_of T, LTc_of T]
theorem eg_mono {RL RL' : mU → Prop} (s : ∀ u, RL' u → RL u) {r q : Int} (z : eg RL' r q) : eg RL r q := by
  obtain ⟨u, a, b⟩ := z
  exact ⟨u, s u a, b⟩
theorem LTc_mono {RL RL' : mU → Prop} (s : ∀ u, RL' u → RL u) {r q : Int} (z : LTc RL' r q) : LTc RL r q := fun R a b => z R (fun r q c => a r q (eg_mono s c)) b
theorem ocL_mono {RL RL' : mU → Prop} (s : ∀ u, RL' u → RL u) {r q : Int} (z : ocL RL' r q) : ocL RL r q := z.imp id (fun y => ⟨LTc_mono s y.1, LTc_mono s y.2⟩)
theorem ocL_refl (RL : mU → Prop) (r : Int) : ocL RL r r := Or.inl rfl
theorem ocL_symm {RL : mU → Prop} {r q : Int} (z : ocL RL r q) : ocL RL q r := z.imp Eq.symm And.symm
theorem ocL_cg {RL RL' : mU → Prop} (s : ∀ u, RL' u ↔ RL u) : ocL RL' = ocL RL := by
  funext r q
  exact propext ⟨ocL_mono (fun u => (s u).mp), ocL_mono (fun u => (s u).mpr)⟩
section GD
variable {kd : Int → Int} {oc oc' : Int → Int → Prop} {ρ : mR} {hdr : Int}
/-- each course stays or is none, where less grows -/
theorem crs_less (hoc : ∀ r q, oc' r q → oc r q) {N : Int} (hw : ∀ j : Int, 0 ≤ j → j < N → ρ.1 j = 0 → 1 ≤ ρ.2.2.1 j) (hg : ∀ j : Int, 0 ≤ j → j < N → gud kd oc ρ hdr j) (hn : ∀ j : Int, 0 ≤ j → j < N → ρ.1 j = 3 → ¬ avr ρ j (slot (ρ.2.2.2 j 2))) : ∀ (k : Nat), (k : Int) ≤ N → ∀ s, crs kd oc' ρ hdr k s = 0 ∨ crs kd oc' ρ hdr k s = crs kd oc ρ hdr k s
  | 0, _, _ => Or.inl rfl
  | k + 1, hk, s => by
    have ih := crs_less hoc hw hg hn k (by omega)
    have G := hg (k : Int) (by omega) (by omega)
    have z0 := fun s' => crs_avr (kd := kd) (oc := oc') (ρ := ρ) (hdr := hdr) k s' (fun j j0 j1 => hw j j0 (by omega))
    have e := fun (o : Int → Int → Prop) => crs_atom (kd := kd) (oc := o) (ρ := ρ) (hdr := hdr) (k := (k : Int)) (by omega)
    have eg := fun (o : Int → Int → Prop) => crs_grw (kd := kd) (oc := o) (ρ := ρ) (hdr := hdr) (k := (k : Int)) (by omega)
    have er := fun (o : Int → Int → Prop) => crs_rck (kd := kd) (oc := o) (ρ := ρ) (hdr := hdr) (k := (k : Int)) (by omega)
    rw [show ((k : Int) + 1).toNat = k + 1 by omega, show ((k : Int)).toNat = k by omega] at e eg er
    by_cases g' : grw kd oc' ρ hdr k
    · have g : grw kd oc ρ hdr k := ⟨g'.1, g'.2.1, hoc _ _ g'.2.2⟩
      rw [eg oc' g', eg oc g]
      by_cases y : slot (ρ.2.2.2 k (ρ.2.2.1 k - 1)) = -1
      · rw [if_pos y, if_pos y]; exact ih s
      · rw [if_neg y, if_neg y]
        unfold upd1
        by_cases w : s = slot (ρ.2.2.2 k (ρ.2.2.1 k - 1))
        · rw [if_pos w, if_pos w]; exact Or.inr rfl
        · rw [if_neg w, if_neg w]; exact ih s
    by_cases s3 : ρ.1 k = 3
    · rw [er oc' s3, er oc s3]
      have a := coT_less ih (ρ.2.2.2 k 0)
      have b := coT_less ih (ρ.2.2.2 k 1)
      have q := G.2.2.2 s3
      rw [show ((k : Int)).toNat = k by omega] at q
      have r1 := coT_r (c := crs kd oc ρ hdr k) (crs_r k) (ρ.2.2.2 k 0)
      have r2 := coT_r (c := crs kd oc ρ hdr k) (crs_r k) (ρ.2.2.2 k 1)
      have hna := hn k (by omega) (by omega) s3
      have zz := z0 (slot (ρ.2.2.2 k 2))
      by_cases w : s = slot (ρ.2.2.2 k 2)
      · have c' : crs kd oc' ρ hdr k s = 0 := by
          by_cases v : crs kd oc' ρ hdr k s = 0
          · exact v
          · rw [w] at v; exact absurd (zz v) hna
        have key : ∀ (o : Int → Int → Prop), crs kd o ρ hdr k s = 0 → (if coT (crs kd o ρ hdr k) (ρ.2.2.2 k 0) = 0 ∧ coT (crs kd o ρ hdr k) (ρ.2.2.2 k 1) = 0 then crs kd o ρ hdr k else upd1 (crs kd o ρ hdr k) (slot (ρ.2.2.2 k 2)) (cmb (ρ.2.1 k) (coT (crs kd o ρ hdr k) (ρ.2.2.2 k 0)) (coT (crs kd o ρ hdr k) (ρ.2.2.2 k 1)))) s = cmb (ρ.2.1 k) (coT (crs kd o ρ hdr k) (ρ.2.2.2 k 0)) (coT (crs kd o ρ hdr k) (ρ.2.2.2 k 1)) := by
          intro o ho
          by_cases y : coT (crs kd o ρ hdr k) (ρ.2.2.2 k 0) = 0 ∧ coT (crs kd o ρ hdr k) (ρ.2.2.2 k 1) = 0
          · rw [if_pos y, ho, y.1, y.2]; unfold cmb; simp
          · rw [if_neg y]; unfold upd1; rw [if_pos w]
        have c : crs kd oc ρ hdr k s = 0 := by
          have zo := crs_avr (kd := kd) (oc := oc) (ρ := ρ) (hdr := hdr) k (slot (ρ.2.2.2 k 2)) (fun j j0 j1 => hw j j0 (by omega))
          by_cases v : crs kd oc ρ hdr k s = 0
          · exact v
          · rw [w] at v; exact absurd (zo v) hna
        rw [key oc' c', key oc c]
        generalize coT (crs kd oc' ρ hdr k) (ρ.2.2.2 k 0) = x' at a ⊢
        generalize coT (crs kd oc' ρ hdr k) (ρ.2.2.2 k 1) = y' at b ⊢
        generalize coT (crs kd oc ρ hdr k) (ρ.2.2.2 k 0) = x at a q r1 ⊢
        generalize coT (crs kd oc ρ hdr k) (ρ.2.2.2 k 1) = y at b q r2 ⊢
        generalize ρ.2.1 k = v at q ⊢
        unfold cmb at q ⊢
        rcases r1 with rfl | rfl | rfl <;> rcases r2 with rfl | rfl | rfl <;> rcases a with rfl | rfl <;> rcases b with rfl | rfl <;> simp at q ⊢ <;> omega
      · have o1 : ∀ (o : Int → Int → Prop), (if coT (crs kd o ρ hdr k) (ρ.2.2.2 k 0) = 0 ∧ coT (crs kd o ρ hdr k) (ρ.2.2.2 k 1) = 0 then crs kd o ρ hdr k else upd1 (crs kd o ρ hdr k) (slot (ρ.2.2.2 k 2)) (cmb (ρ.2.1 k) (coT (crs kd o ρ hdr k) (ρ.2.2.2 k 0)) (coT (crs kd o ρ hdr k) (ρ.2.2.2 k 1)))) s = crs kd o ρ hdr k s := by
          intro o
          by_cases y : coT (crs kd o ρ hdr k) (ρ.2.2.2 k 0) = 0 ∧ coT (crs kd o ρ hdr k) (ρ.2.2.2 k 1) = 0
          · rw [if_pos y]
          · rw [if_neg y]; unfold upd1; rw [if_neg w]
        rw [o1, o1]
        exact ih s
    · rw [e oc' g' s3]
      by_cases g : grw kd oc ρ hdr k
      · rw [eg oc g]
        obtain ⟨q1, q2, q3⟩ := G.1 g
        by_cases y : slot (ρ.2.2.2 k (ρ.2.2.1 k - 1)) = -1
        · rw [if_pos y]; exact ih s
        · rw [if_neg y]
          unfold upd1
          by_cases w : s = slot (ρ.2.2.2 k (ρ.2.2.1 k - 1))
          · left
            by_cases v : crs kd oc' ρ hdr k s = 0
            · exact v
            · rw [w] at v; exact absurd (z0 _ v) (q3 y).1
          · rw [if_neg w]; exact ih s
      · rw [e oc g s3]; exact ih s
where
  coT_less {c c' : Int → Int} (h : ∀ s, c' s = 0 ∨ c' s = c s) (x : Int) : coT c' x = 0 ∨ coT c' x = coT c x := by
    unfold coT
    by_cases z : slot x = -1
    · rw [if_pos z]; exact Or.inl rfl
    · rw [if_neg z, if_neg z]; exact h _
end GD
