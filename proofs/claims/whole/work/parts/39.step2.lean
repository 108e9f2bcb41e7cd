/-! ONE LITERAL MORE: what rows make is covered by what covering rows make -/
section MONO
variable {kd : Int → Int} {oc : Int → Int → Prop} {ρ : mR} {hdr : Int}
def grw (kd : Int → Int) (oc : Int → Int → Prop) (ρ : mR) (hdr k : Int) : Prop := ρ.1 k = 0 ∧ kd (ρ.2.1 k) ≠ 0 ∧ oc (ρ.2.1 k) hdr
/-- which way each variable goes behind k literals -/
noncomputable def crs (kd : Int → Int) (oc : Int → Int → Prop) (ρ : mR) (hdr : Int) : Nat → Int → Int
  | 0 => fun _ => 0
  | k + 1 => @ite _ (grw kd oc ρ hdr k) (Classical.propDecidable _) (if slot (ρ.2.2.2 k (ρ.2.2.1 k - 1)) = -1 then crs kd oc ρ hdr k else upd1 (crs kd oc ρ hdr k) (slot (ρ.2.2.2 k (ρ.2.2.1 k - 1))) (if kd (ρ.2.1 k) = 1 then -1 else 1)) (if ρ.1 k = 3 then (if coT (crs kd oc ρ hdr k) (ρ.2.2.2 k 0) = 0 ∧ coT (crs kd oc ρ hdr k) (ρ.2.2.2 k 1) = 0 then crs kd oc ρ hdr k else upd1 (crs kd oc ρ hdr k) (slot (ρ.2.2.2 k 2)) (cmb (ρ.2.1 k) (coT (crs kd oc ρ hdr k) (ρ.2.2.2 k 0)) (coT (crs kd oc ρ hdr k) (ρ.2.2.2 k 1)))) else crs kd oc ρ hdr k)
/-- variables that the first k literals have -/
def avr (ρ : mR) (k s : Int) : Prop := ∃ j, 0 ≤ j ∧ j < k ∧ ((∃ i, 0 ≤ i ∧ i < ρ.2.2.1 j ∧ slot (ρ.2.2.2 j i) = s) ∨ (ρ.1 j = 3 ∧ slot (ρ.2.2.2 j 2) = s))
/-- literal k takes nothing back -/
def gud (kd : Int → Int) (oc : Int → Int → Prop) (ρ : mR) (hdr k : Int) : Prop :=
  (grw kd oc ρ hdr k → (∀ i, 0 ≤ i → i < ρ.2.2.1 k - 1 → coT (crs kd oc ρ hdr k.toNat) (ρ.2.2.2 k i) = 0) ∧ (slot (ρ.2.2.2 k (ρ.2.2.1 k - 1)) = -1 → ρ.2.2.2 k (ρ.2.2.1 k - 1) = -1) ∧ (slot (ρ.2.2.2 k (ρ.2.2.1 k - 1)) ≠ -1 → ¬ avr ρ k (slot (ρ.2.2.2 k (ρ.2.2.1 k - 1))) ∧ ∀ i, 0 ≤ i → i < ρ.2.2.1 k - 1 → slot (ρ.2.2.2 k i) ≠ slot (ρ.2.2.2 k (ρ.2.2.1 k - 1)))) ∧
  ((ρ.1 k = 0 ∨ ρ.1 k = 1) → ¬ grw kd oc ρ hdr k → ∀ i, 0 ≤ i → i < ρ.2.2.1 k → coT (crs kd oc ρ hdr k.toNat) (ρ.2.2.2 k i) = 0) ∧
  (ρ.1 k = 2 → (coT (crs kd oc ρ hdr k.toNat) (ρ.2.2.2 k 0) = 0 ∧ coT (crs kd oc ρ hdr k.toNat) (ρ.2.2.2 k 1) = 0) ∨ ((ρ.2.1 k = 2 ∨ ρ.2.1 k = 3) ∧ ((coT (crs kd oc ρ hdr k.toNat) (ρ.2.2.2 k 0) = -1 ∧ coT (crs kd oc ρ hdr k.toNat) (ρ.2.2.2 k 1) = 0) ∨ (coT (crs kd oc ρ hdr k.toNat) (ρ.2.2.2 k 0) = 0 ∧ coT (crs kd oc ρ hdr k.toNat) (ρ.2.2.2 k 1) = 1)))) ∧
  (ρ.1 k = 3 → (coT (crs kd oc ρ hdr k.toNat) (ρ.2.2.2 k 0) = 0 ∧ coT (crs kd oc ρ hdr k.toNat) (ρ.2.2.2 k 1) = 0) ∨ cmb (ρ.2.1 k) (coT (crs kd oc ρ hdr k.toNat) (ρ.2.2.2 k 0)) (coT (crs kd oc ρ hdr k.toNat) (ρ.2.2.2 k 1)) ≠ 0)
theorem coT_r {c : Int → Int} (h : ∀ s, c s = -1 ∨ c s = 0 ∨ c s = 1) (t : Int) : coT c t = -1 ∨ coT c t = 0 ∨ coT c t = 1 := by
  unfold coT
  split
  · exact Or.inr (Or.inl rfl)
  · exact h _
theorem cmb_r {w l r : Int} (hl : l = -1 ∨ l = 0 ∨ l = 1) (hr : r = -1 ∨ r = 0 ∨ r = 1) : cmb w l r = -1 ∨ cmb w l r = 0 ∨ cmb w l r = 1 := by
  unfold cmb
  repeat' split
  all_goals omega
theorem crs_r : ∀ (k : Nat) (s : Int), crs kd oc ρ hdr k s = -1 ∨ crs kd oc ρ hdr k s = 0 ∨ crs kd oc ρ hdr k s = 1
  | 0, _ => Or.inr (Or.inl rfl)
  | k + 1, s => by
    have ih := crs_r k
    unfold crs
    split
    · split
      · exact ih s
      · unfold upd1
        split
        · split
          · exact Or.inl rfl
          · exact Or.inr (Or.inr rfl)
        · exact ih s
    · split
      · split
        · exact ih s
        · unfold upd1
          split
          · exact cmb_r (coT_r ih _) (coT_r ih _)
          · exact ih s
      · exact ih s
theorem tv_le {c : Int → Int} {v' v : mA} (h : cle c v' v) (t : Int) : (coT c t = 0 → tv v' t = tv v t) ∧ (coT c t = -1 → tv v' t ≤ tv v t) ∧ (coT c t = 1 → tv v t ≤ tv v' t) := by
  refine ⟨tv_st h, fun q => ?_, fun q => ?_⟩ <;>
  · unfold tv
    unfold coT at q
    by_cases h1 : t < 100
    · rw [if_pos h1, if_pos h1]; exact Int.le_refl _
    rw [if_neg h1, if_neg h1]
    by_cases h2 : 107 < t
    · rw [if_pos h2, if_pos h2]; exact Int.le_refl _
    rw [if_neg h2, if_neg h2]
    have hs := slot_v (t := t) ⟨by omega, by omega⟩
    rw [if_neg (by omega), hs] at q
    first | exact (h (t - 100)).2.2.1 q | exact (h (t - 100)).2.2.2 q
theorem cle_swap {c : Int → Int} {v' v : mA} (h : cle c v' v) : cle (fun s => - c s) v v' := by
  intro s
  obtain ⟨h1, h2, h3, h4⟩ := h s
  refine ⟨h1.symm, fun q => ?_, fun q => ?_, fun q => ?_⟩
  · have q : - c s = 0 := q
    exact (h2 (by omega)).symm
  · have q : - c s = -1 := q
    exact h4 (by omega)
  · have q : - c s = 1 := q
    exact h3 (by omega)
theorem cle_new {c : Int → Int} {v' v : mA} (h : cle c v' v) {s d x x' : Int} (hx : x ≠ -1) (hx' : x' ≠ -1) (hd : (d = 0 → x' = x) ∧ (d = -1 → x' ≤ x) ∧ (d = 1 → x ≤ x')) : cle (upd1 c s d) (upd1 v' s x') (upd1 v s x) := by
  intro j
  by_cases e : j = s
  · have e1 : upd1 v' s x' j = x' := if_pos e
    have e2 : upd1 v s x j = x := if_pos e
    have e3 : upd1 c s d j = d := if_pos e
    rw [e1, e2, e3]
    exact ⟨⟨fun q => absurd q hx, fun q => absurd q hx'⟩, hd⟩
  · have e1 : upd1 v' s x' j = v' j := if_neg e
    have e2 : upd1 v s x j = v j := if_neg e
    have e3 : upd1 c s d j = c j := if_neg e
    rw [e1, e2, e3]
    exact h j
theorem mono_step {ω ω' : mW} {k : Int} {v' v w : mA} (hk : 0 ≤ k) (hg : gud kd oc ρ hdr k) (hw : ρ.1 k = 0 ∨ ρ.1 k = 1 → 0 ≤ ρ.2.2.1 k) (hw1 : grw kd oc ρ hdr k → 1 ≤ ρ.2.2.1 k) (hs3 : ρ.1 k = 0 ∨ ρ.1 k = 1 ∨ ρ.1 k = 2 ∨ ρ.1 k = 3)
    (H0 : ρ.1 k = 0 → ¬ grw kd oc ρ hdr k → ∀ c, inW ω (ρ.2.1 k) c → 0 ≤ c ∧ inW ω' (ρ.2.1 k) c)
    (H1 : ρ.1 k = 1 → ∀ c, inW ω' (ρ.2.1 k) c → 0 ≤ c ∧ inW ω (ρ.2.1 k) c)
    (HG : grw kd oc ρ hdr k → ∀ c, inW ω (ρ.2.1 k) c → ∃ c', inW ω' (ρ.2.1 k) c' ∧ 0 ≤ c ∧ 0 ≤ c' ∧ (∀ i, 0 ≤ i → i < ρ.2.2.1 k - 1 → cv i c' = cv i c) ∧ (kd (ρ.2.1 k) = 1 → cv (ρ.2.2.1 k - 1) c' ≤ cv (ρ.2.2.1 k - 1) c) ∧ (kd (ρ.2.1 k) ≠ 1 → cv (ρ.2.2.1 k - 1) c ≤ cv (ρ.2.2.1 k - 1) c'))
    (hEX : ∀ s, s ≠ -1 → v s ≠ -1 → avr ρ k s) (h3 : ρ.1 k = 3 → v (slot (ρ.2.2.2 k 2)) = -1 ∧ (0 ≤ ρ.2.1 k ∧ ρ.2.1 k ≤ 5) ∧ 0 ≤ tv v (ρ.2.2.2 k 0) ∧ 0 ≤ tv v' (ρ.2.2.2 k 0) ∧ 0 ≤ tv v (ρ.2.2.2 k 1) ∧ 0 ≤ tv v' (ρ.2.2.2 k 1))
    (hc : cle (crs kd oc ρ hdr k.toNat) v' v) (hst : stp ρ ω k v w) : ∃ w', stp ρ ω' k v' w' ∧ cle (crs kd oc ρ hdr (k.toNat + 1)) w' w := by
  obtain ⟨g1, g2, g3, g4⟩ := hg
  have ek : ((k.toNat : Nat) : Int) = k := by omega
  have hr := crs_r (kd := kd) (oc := oc) (ρ := ρ) (hdr := hdr) k.toNat
  rcases hst with ⟨s0, x, hx, hb⟩ | ⟨s1, hno, rfl⟩ | ⟨s2, hcm, rfl⟩ | ⟨n0, n1, n2, hch⟩
  · by_cases hgr : grw kd oc ρ hdr k
    · obtain ⟨a1, a2, a3⟩ := g1 hgr
      have hw1 := hw1 hgr
      obtain ⟨x', x1, x2, x2', x3, x4, x5⟩ := HG hgr x hx
      have hcn : crs kd oc ρ hdr (k.toNat + 1) = if slot (ρ.2.2.2 k (ρ.2.2.1 k - 1)) = -1 then crs kd oc ρ hdr k.toNat else upd1 (crs kd oc ρ hdr k.toNat) (slot (ρ.2.2.2 k (ρ.2.2.1 k - 1))) (if kd (ρ.2.1 k) = 1 then -1 else 1) := by
        show @ite _ (grw kd oc ρ hdr ((k.toNat : Nat) : Int)) (Classical.propDecidable _) _ _ = _
        rw [@if_pos _ (Classical.propDecidable _) (by rw [ek]; exact hgr), ek]
      have hwn : (ρ.2.2.1 k).toNat = (ρ.2.2.1 k - 1).toNat + 1 := by omega
      rw [hwn, bA_snoc] at hb
      rw [show (0 : Int) + ((ρ.2.2.1 k - 1).toNat : Nat) = ρ.2.2.1 k - 1 by omega] at hb
      cases hb1 : bA (ρ.2.2.2 k) x (ρ.2.2.1 k - 1).toNat 0 v with
      | none => rw [hb1] at hb; cases hb
      | some y =>
        rw [hb1] at hb
        have hb : b1 y (ρ.2.2.2 k (ρ.2.2.1 k - 1)) (cv (ρ.2.2.1 k - 1) x) = some w := hb
        obtain ⟨y', y1, y2⟩ := bA_st x2 hc (fun j j0 j1 => ⟨a1 j j0 (by omega), Or.inr (x3 j j0 (by omega))⟩) hb1
        have hgo : ∀ w', b1 y' (ρ.2.2.2 k (ρ.2.2.1 k - 1)) (cv (ρ.2.2.1 k - 1) x') = some w' → stp ρ ω' k v' w' := by
          intro w' hw'
          refine Or.inl ⟨s0, x', x1, ?_⟩
          rw [hwn, bA_snoc, show (0 : Int) + ((ρ.2.2.1 k - 1).toNat : Nat) = ρ.2.2.1 k - 1 by omega, y1]
          exact hw'
        by_cases hsl : slot (ρ.2.2.2 k (ρ.2.2.1 k - 1)) = -1
        · rw [hcn, if_pos hsl]
          have ht := a2 hsl
          unfold b1 at hb
          rw [if_pos ht] at hb
          cases hb
          exact ⟨y', hgo y' (by unfold b1; rw [if_pos ht]), y2⟩
        · rw [hcn, if_neg hsl]
          obtain ⟨a4, a5⟩ := a3 hsl
          have hvs : v (slot (ρ.2.2.2 k (ρ.2.2.1 k - 1))) = -1 := by
            by_cases q : v (slot (ρ.2.2.2 k (ρ.2.2.1 k - 1))) = -1
            · exact q
            · exact absurd (hEX _ hsl q) a4
          have hys : y (slot (ρ.2.2.2 k (ρ.2.2.1 k - 1))) = -1 := by
            have key : ∀ (n : Nat) (i : Int) (v y : mA), 0 ≤ i → i + n ≤ ρ.2.2.1 k - 1 → bA (ρ.2.2.2 k) x n i v = some y → v (slot (ρ.2.2.2 k (ρ.2.2.1 k - 1))) = -1 → y (slot (ρ.2.2.2 k (ρ.2.2.1 k - 1))) = -1 := by
              intro n
              induction n with
              | zero => intro i v y _ _ hb hv; cases hb; exact hv
              | succ n ih =>
                intro i v y i0 i1 hb hv
                unfold bA at hb
                cases hq : b1 v (ρ.2.2.2 k i) (cv i x) with
                | none => rw [hq] at hb; cases hb
                | some z =>
                  rw [hq] at hb
                  refine ih (i + 1) z y (by omega) (by omega) hb ?_
                  unfold b1 at hq
                  split at hq
                  · cases hq; exact hv
                  split at hq
                  · split at hq
                    · cases hq; exact hv
                    · cases hq
                  split at hq
                  · cases hq
                    unfold upd1
                    rw [if_neg (fun q => a5 i i0 (by omega) q.symm)]
                    exact hv
                  split at hq
                  · cases hq; exact hv
                  · cases hq
            exact key _ 0 v y (by omega) (by omega) hb1 hvs
          have hys' := (y2 (slot (ρ.2.2.2 k (ρ.2.2.1 k - 1)))).1.mp hys
          have hany : ¬ ρ.2.2.2 k (ρ.2.2.1 k - 1) = -1 := by
            intro q
            rw [q] at hsl
            exact hsl rfl
          unfold b1 at hb
          rw [if_neg hany, if_neg hsl, if_pos hys] at hb
          cases hb
          refine ⟨upd1 y' (slot (ρ.2.2.2 k (ρ.2.2.1 k - 1))) (cv (ρ.2.2.1 k - 1) x'), hgo _ (by unfold b1; rw [if_neg hany, if_neg hsl, if_pos hys']), ?_⟩
          have n1 := cv_nn (i := ρ.2.2.1 k - 1) x2
          have n2 := cv_nn (i := ρ.2.2.1 k - 1) x2'
          refine cle_new y2 (by omega) (by omega) ?_
          by_cases e : kd (ρ.2.1 k) = 1
          · rw [if_pos e]
            exact ⟨fun q => by omega, fun _ => x4 e, fun q => by omega⟩
          · rw [if_neg e]
            exact ⟨fun q => by omega, fun q => by omega, fun _ => x5 e⟩
    · have hcn : crs kd oc ρ hdr (k.toNat + 1) = crs kd oc ρ hdr k.toNat := by
        show @ite _ (grw kd oc ρ hdr ((k.toNat : Nat) : Int)) (Classical.propDecidable _) _ _ = _
        rw [@if_neg _ (Classical.propDecidable _) (by rw [ek]; exact hgr), ek, if_neg (by omega)]
      obtain ⟨x2, x3⟩ := H0 s0 hgr x hx
      have hw0 := hw (Or.inl s0)
      obtain ⟨w', w1, w2⟩ := bA_st (x' := x) x2 hc (fun j j0 j1 => ⟨g2 (Or.inl s0) hgr j j0 (by omega), Or.inr rfl⟩) hb
      exact ⟨w', Or.inl ⟨s0, x, x3, w1⟩, by rw [hcn]; exact w2⟩
  · have hgr : ¬ grw kd oc ρ hdr k := fun q => by have := q.1; omega
    have hcn : crs kd oc ρ hdr (k.toNat + 1) = crs kd oc ρ hdr k.toNat := by
      show @ite _ (grw kd oc ρ hdr ((k.toNat : Nat) : Int)) (Classical.propDecidable _) _ _ = _
      rw [@if_neg _ (Classical.propDecidable _) (by rw [ek]; exact hgr), ek, if_neg (by omega)]
    refine ⟨v', Or.inr (Or.inl ⟨s1, ?_, rfl⟩), by rw [hcn]; exact hc⟩
    rintro ⟨c, c1, c2⟩
    obtain ⟨c3, c4⟩ := H1 s1 c c1
    refine hno ⟨c, c4, ?_⟩
    obtain ⟨u, hu⟩ := Option.isSome_iff_exists.mp c2
    have hw0 := hw (Or.inr s1)
    have hco : ∀ j, 0 ≤ j → j < ρ.2.2.1 k → coT (fun s => - crs kd oc ρ hdr k.toNat s) (ρ.2.2.2 k j) = 0 := by
      intro j j0 j1
      have := g2 (Or.inr s1) hgr j j0 j1
      unfold coT at this ⊢
      split
      · rfl
      · rename_i q
        rw [if_neg q] at this
        show - crs kd oc ρ hdr k.toNat (slot (ρ.2.2.2 k j)) = 0
        omega
    obtain ⟨u', u1, -⟩ := bA_st (x' := c) c3 (cle_swap hc) (fun j j0 j1 => ⟨hco j j0 (by omega), Or.inr rfl⟩) hu
    unfold fitb
    rw [u1]
    rfl
  · have hgr : ¬ grw kd oc ρ hdr k := fun q => by have := q.1; omega
    have hcn : crs kd oc ρ hdr (k.toNat + 1) = crs kd oc ρ hdr k.toNat := by
      show @ite _ (grw kd oc ρ hdr ((k.toNat : Nat) : Int)) (Classical.propDecidable _) _ _ = _
      rw [@if_neg _ (Classical.propDecidable _) (by rw [ek]; exact hgr), ek, if_neg (by omega)]
    refine ⟨v', Or.inr (Or.inr (Or.inl ⟨s2, ?_, rfl⟩)), by rw [hcn]; exact hc⟩
    have t0 := tv_le hc (ρ.2.2.2 k 0)
    have t1 := tv_le hc (ρ.2.2.2 k 1)
    rcases g3 s2 with ⟨q0, q1⟩ | ⟨qw, qd⟩
    · rw [t0.1 q0, t1.1 q1]; exact hcm
    · unfold cmpb at hcm ⊢
      rcases qw with qw | qw
      · rw [if_neg (by omega), if_neg (by omega), if_pos qw] at hcm ⊢
        have := of_decide_eq_true hcm
        apply decide_eq_true
        rcases qd with ⟨q0, q1⟩ | ⟨q0, q1⟩
        · have a1 := t0.2.1 q0
          have a2 := t1.1 q1
          omega
        · have a1 := t0.1 q0
          have a2 := t1.2.2 q1
          omega
      · rw [if_neg (by omega), if_neg (by omega), if_neg (by omega)] at hcm ⊢
        have := of_decide_eq_true hcm
        apply decide_eq_true
        rcases qd with ⟨q0, q1⟩ | ⟨q0, q1⟩
        · have a1 := t0.2.1 q0
          have a2 := t1.1 q1
          omega
        · have a1 := t0.1 q0
          have a2 := t1.2.2 q1
          omega
  · have hs : ρ.1 k = 3 := by omega
    have hgr : ¬ grw kd oc ρ hdr k := fun q => by have := q.1; omega
    obtain ⟨b1, b2, b3, b4, b5, b6⟩ := h3 hs
    have b1' := (hc (slot (ρ.2.2.2 k 2))).1.mp b1
    have hcn : crs kd oc ρ hdr (k.toNat + 1) = if coT (crs kd oc ρ hdr k.toNat) (ρ.2.2.2 k 0) = 0 ∧ coT (crs kd oc ρ hdr k.toNat) (ρ.2.2.2 k 1) = 0 then crs kd oc ρ hdr k.toNat else upd1 (crs kd oc ρ hdr k.toNat) (slot (ρ.2.2.2 k 2)) (cmb (ρ.2.1 k) (coT (crs kd oc ρ hdr k.toNat) (ρ.2.2.2 k 0)) (coT (crs kd oc ρ hdr k.toNat) (ρ.2.2.2 k 1))) := by
      show @ite _ (grw kd oc ρ hdr ((k.toNat : Nat) : Int)) (Classical.propDecidable _) _ _ = _
      rw [@if_neg _ (Classical.propDecidable _) (by rw [ek]; exact hgr), ek, if_pos hs]
    have hwv : w = upd1 v (slot (ρ.2.2.2 k 2)) (rck (ρ.2.1 k) (tv v (ρ.2.2.2 k 0)) (tv v (ρ.2.2.2 k 1))) := by
      rcases hch with ⟨_, q⟩ | ⟨q, _⟩
      · exact q
      · exact absurd b1 q
    have t0 := tv_le hc (ρ.2.2.2 k 0)
    have t1 := tv_le hc (ρ.2.2.2 k 1)
    have hm := rck_mono (w := ρ.2.1 k) (l := coT (crs kd oc ρ hdr k.toNat) (ρ.2.2.2 k 0)) (r := coT (crs kd oc ρ hdr k.toNat) (ρ.2.2.2 k 1)) b3 b4 b5 b6 b2 (coT_r hr _) (coT_r hr _) t0 t1
    have r1 := rck_r (ρ.2.1 k) (tv v (ρ.2.2.2 k 0)) (tv v (ρ.2.2.2 k 1))
    have r2 := rck_r (ρ.2.1 k) (tv v' (ρ.2.2.2 k 0)) (tv v' (ρ.2.2.2 k 1))
    refine ⟨upd1 v' (slot (ρ.2.2.2 k 2)) (rck (ρ.2.1 k) (tv v' (ρ.2.2.2 k 0)) (tv v' (ρ.2.2.2 k 1))), Or.inr (Or.inr (Or.inr ⟨n0, n1, n2, Or.inl ⟨b1', rfl⟩⟩)), ?_⟩
    rw [hcn, hwv]
    by_cases q : coT (crs kd oc ρ hdr k.toNat) (ρ.2.2.2 k 0) = 0 ∧ coT (crs kd oc ρ hdr k.toNat) (ρ.2.2.2 k 1) = 0
    · rw [if_pos q, hm.1 q]
      exact cle_upd hc (by omega)
    · rw [if_neg q]
      have hne := (g4 hs).resolve_left q
      exact cle_new hc (by omega) (by omega) ⟨fun z => absurd z hne, hm.2.1, hm.2.2.1⟩
end MONO
