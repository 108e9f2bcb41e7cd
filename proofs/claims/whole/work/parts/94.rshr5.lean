/-! SHRINKING: the reference, its answer -/
section RS5
variable {h : dm_H} {cl kd : Int → Int} {u : mU} {p : Int}
/-- what the shape of a rule's head gives -/
def HDS (cl : Int → Int) (u : mU) : Prop := (0 ≤ cl u.2.1 ∧ cl u.2.1 ≤ 3) ∧ ∀ i, 0 ≤ i → i < cl u.2.1 → -1 ≤ u.2.2.1 i ∧ u.2.2.1 i ≤ 107
theorem s235 {d : Nat} (hd : 5 ≤ d) (V : UR cl kd u p h) (hu : HSu u) (hH : HDS cl u) (hk : ∀ r, gi h 167 r = kd r) (hkd : ∀ r, 0 ≤ r → r < 6 → 0 ≤ kd r ∧ kd r ≤ 2) (s : st6 h 175) {n : Int} (hL : ∀ k, 0 ≤ k → k < u.2.2.2.2 → LSH cl n u.2.2.2.1 k) (hS : ∀ k, 0 ≤ k → k < u.2.2.2.2 → SAFL u.2.2.2.1 k) : ∃ b, dF d 235 [dR 1 11 165, dI p] h = rI b h ∧ (b = 0 ∨ b = 1) ∧ (b = 1 ↔ ¬ NSH kd (ocH h 175) u (cl u.2.1)) := by
  have hp := V.1
  have hN := hu.2.1
  have e1 : gi h 172 (38 * p + 1) = u.2.1 := V.2.2.1
  have e5 : gi h 172 (38 * p + 5) = u.2.2.2.2 := V.2.2.2.2.1
  have eh : ∀ i, 0 ≤ i → i < 3 → gi h 172 (38 * p + (2 + i)) = u.2.2.1 i := V.2.2.2.1
  have ec : gi h 166 u.2.1 = cl u.2.1 := V.2.2.2.2.2.2.2.1
  -- the literals
  have lits : ∀ (m : Nat) (k is F R hd_ : Int) (w7 w8 w9 w10 w11 w12 w13 w14 : Option dm_V), 0 ≤ k → k + m = u.2.2.2.2 → SI kd (ocH h 175) u k is F R hd_ →
      ∃ is' F' R' hd' w7' w8' w9' w10' w11' w12' w13' w14', dL (d - 1) 235 13 [lR 1 11 165, lI p, lI F, lI R, lI hd_, lI is, lI k, w7, w8, w9, w10, w11, w12, w13, w14] [] h = dL (d - 1) 235 13 [lR 1 11 165, lI p, lI F', lI R', lI hd', lI is', lI u.2.2.2.2, w7', w8', w9', w10', w11', w12', w13', w14'] [] h ∧ SI kd (ocH h 175) u u.2.2.2.2 is' F' R' hd' := by
    intro m
    induction m with
    | zero =>
      intro k is F R hd_ w7 w8 w9 w10 w11 w12 w13 w14 k0 km S
      rw [show k = u.2.2.2.2 by omega] at S ⊢
      exact ⟨_, _, _, _, _, _, _, _, _, _, _, _, rfl, S⟩
    | succ m ih =>
      intro k is F R hd_ w7 w8 w9 w10 w11 w12 w13 w14 k0 km S
      have k1 : k < u.2.2.2.2 := by omega
      obtain ⟨l1, l2, l3, l4, l5⟩ := UR_lit V k0 k1
      have one : ∃ is' F' R' hd' w7' w8' w9' w10' w11' w12' w13' w14', dL (d - 1) 235 13 [lR 1 11 165, lI p, lI F, lI R, lI hd_, lI is, lI k, w7, w8, w9, w10, w11, w12, w13, w14] [] h = dL (d - 1) 235 869 [lR 1 11 165, lI p, lI F', lI R', lI hd', lI is', lI k, w7', w8', w9', w10', w11', w12', w13', w14'] [] h ∧ SI kd (ocH h 175) u (k + 1) is' F' R' hd' := by
        rw [b235_13, s179 (by omega) p 5 h hp (by omega), bk_v, b235_21, e5, if_pos k1, s181 (by omega) p k 3 h hp (by omega) (by omega), bk_v, b235_32, s181 (by omega) p k 4 h hp (by omega) (by omega), bk_v, b235_42, s180 (by omega) p k h hp (by omega), bk_v]
        have L := hL k k0 k1
        by_cases z : u.2.2.2.1.1 k = 0 ∨ u.2.2.2.1.1 k = 1
        · rw [bi_1 (l1.mpr z), b235_51, if_neg (by decide), s181 (by omega) p k 1 h hp (by omega) (by omega), bk_v]
          obtain ⟨is', F', R', hd', w9', w10', w11', w12', t1, t2⟩ := lit_atom hd V hu hk hkd s hL k0 k1 z S (lI (lq h p k 3)) (lI (lq h p k 4)) w9 w10 w11 w12 w13 w14
          exact ⟨is', F', R', hd', _, _, _, _, _, _, _, _, t1, t2⟩
        · rw [bi_0 (fun y => z (l1.mp y))]
          by_cases z2 : u.2.2.2.1.1 k = 2
          · obtain ⟨is', F', R', hd', w9', w10', w11', w12', w13', w14', t1, t2⟩ := lit_cmp hd V hu hL k0 k1 z2 S w9 w10 w11 w12 w13 w14
            exact ⟨is', F', R', hd', _, _, _, _, _, _, _, _, t1, t2⟩
          · have z3 : u.2.2.2.1.1 k = 3 := by
              rcases L with q | q | q
              · exact absurd q.1 z
              · exact absurd q.1 z2
              · exact q.1
            obtain ⟨is', F', R', hd', w9', w10', w11', w12', w13', w14', t1, t2⟩ := lit_rck hd V hu hL hS k0 k1 z3 S w9 w10 w11 w12 w13 w14
            exact ⟨is', F', R', hd', _, _, _, _, _, _, _, _, t1, t2⟩
      obtain ⟨is1, F1, R1, hd1, w7', w8', w9', w10', w11', w12', w13', w14', t1, t2⟩ := one
      rw [t1, b235_869, ck_p (by omega) (by omega)]
      exact ih (k + 1) is1 F1 R1 hd1 w7' w8' w9' w10' w11' w12' w13' w14' (by omega) (by omega) t2
  -- the head
  have heads : ∀ (F R : Int) (P : Prop), (¬ P → bst F (fun s => crs kd (ocH h 175) u.2.2.2.1 u.2.1 u.2.2.2.2.toNat s = -1) ∧ bst R (fun s => crs kd (ocH h 175) u.2.2.2.1 u.2.1 u.2.2.2.2.toNat s = 1)) → ∀ (m : Nat) (i is : Int) (w4 w8 w9 w10 w11 w12 w13 w14 : Option dm_V), 0 ≤ i → i + m = cl u.2.1 → (is = 0 ∨ is = 1) → (is = 1 ↔ P ∨ ∃ j, 0 ≤ j ∧ j < i ∧ ¬ (coT (crs kd (ocH h 175) u.2.2.2.1 u.2.1 u.2.2.2.2.toNat) (u.2.2.1 j) = 0 ∨ (kd u.2.1 ≠ 0 ∧ j = cl u.2.1 - 1 ∧ coT (crs kd (ocH h 175) u.2.2.2.1 u.2.1 u.2.2.2.2.toNat) (u.2.2.1 j) = if kd u.2.1 = 1 then -1 else 1))) →
      ∃ b, dL (d - 1) 235 886 [lR 1 11 165, lI p, lI F, lI R, w4, lI is, lI u.2.1, lI i, w8, w9, w10, w11, w12, w13, w14] [] h = rI b h ∧ (b = 0 ∨ b = 1) ∧ (b = 1 ↔ P ∨ ∃ j, 0 ≤ j ∧ j < cl u.2.1 ∧ ¬ (coT (crs kd (ocH h 175) u.2.2.2.1 u.2.1 u.2.2.2.2.toNat) (u.2.2.1 j) = 0 ∨ (kd u.2.1 ≠ 0 ∧ j = cl u.2.1 - 1 ∧ coT (crs kd (ocH h 175) u.2.2.2.1 u.2.1 u.2.2.2.2.toNat) (u.2.2.1 j) = if kd u.2.1 = 1 then -1 else 1))) := by
    intro F R P hB m
    induction m with
    | zero =>
      intro i is w4 w8 w9 w10 w11 w12 w13 w14 i0 im i01 hi
      rw [show i = cl u.2.1 by omega] at hi ⊢
      rw [b235_886, ix_p hu.1.1 hu.1.2, ec, if_neg (by omega), z1_p i01]
      exact ⟨is, rfl, i01, hi⟩
    | succ m ih =>
      intro i is w4 w8 w9 w10 w11 w12 w13 w14 i0 im i01 hi
      have hH1 := hH.1
      have ht := hH.2 i i0 (by omega)
      have eh := eh i i0 (by omega)
      have kr := hkd _ hu.1.1 hu.1.2
      -- on to the next
      have nxt : ∀ (is' : Int) (w4 w5 w8 w9 : Option dm_V), (is' = 0 ∨ is' = 1) → (is' = 1 ↔ is = 1 ∨ ¬ (coT (crs kd (ocH h 175) u.2.2.2.1 u.2.1 u.2.2.2.2.toNat) (u.2.2.1 i) = 0 ∨ (kd u.2.1 ≠ 0 ∧ i = cl u.2.1 - 1 ∧ coT (crs kd (ocH h 175) u.2.2.2.1 u.2.1 u.2.2.2.2.toNat) (u.2.2.1 i) = if kd u.2.1 = 1 then -1 else 1))) → ∃ b, dL (d - 1) 235 990 [lR 1 11 165, lI p, lI F, lI R, w4, w5, lI u.2.1, lI i, w8, w9, w10, w11, w12, w13, w14] [dI is'] h = rI b h ∧ (b = 0 ∨ b = 1) ∧ (b = 1 ↔ P ∨ ∃ j, 0 ≤ j ∧ j < cl u.2.1 ∧ ¬ (coT (crs kd (ocH h 175) u.2.2.2.1 u.2.1 u.2.2.2.2.toNat) (u.2.2.1 j) = 0 ∨ (kd u.2.1 ≠ 0 ∧ j = cl u.2.1 - 1 ∧ coT (crs kd (ocH h 175) u.2.2.2.1 u.2.1 u.2.2.2.2.toNat) (u.2.2.1 j) = if kd u.2.1 = 1 then -1 else 1))) := by
        intro is' w4 w5 w8 w9 j01 hj
        rw [b235_990, ck_p (by omega) (by omega)]
        refine ih (i + 1) is' w4 w8 w9 w10 w11 w12 w13 w14 (by omega) (by omega) j01 ?_
        rw [hj, hi]
        constructor
        · rintro ((y | ⟨j, j0, j1, j2⟩) | y)
          · exact Or.inl y
          · exact Or.inr ⟨j, j0, by omega, j2⟩
          · exact Or.inr ⟨i, i0, by omega, y⟩
        · rintro (y | ⟨j, j0, j1, j2⟩)
          · exact Or.inl (Or.inl y)
          · by_cases e : j = i
            · rw [e] at j2; exact Or.inr j2
            · exact Or.inl (Or.inr ⟨j, j0, by omega, j2⟩)
      -- whether this column is good
      have at928 : ∀ v : Int, (v = 0 ∨ v = 1) → (v = 1 ↔ i = cl u.2.1 - 1) → ∀ (w9 : Option dm_V), ∃ b, dL (d - 1) 235 928 [lR 1 11 165, lI p, lI F, lI R, w4, lI is, lI u.2.1, lI i, lI (u.2.2.1 i), w9, w10, w11, w12, w13, w14] [dI v] h = rI b h ∧ (b = 0 ∨ b = 1) ∧ (b = 1 ↔ P ∨ ∃ j, 0 ≤ j ∧ j < cl u.2.1 ∧ ¬ (coT (crs kd (ocH h 175) u.2.2.2.1 u.2.1 u.2.2.2.2.toNat) (u.2.2.1 j) = 0 ∨ (kd u.2.1 ≠ 0 ∧ j = cl u.2.1 - 1 ∧ coT (crs kd (ocH h 175) u.2.2.2.1 u.2.1 u.2.2.2.2.toNat) (u.2.2.1 j) = if kd u.2.1 = 1 then -1 else 1))) := by
        intro v v01 hv w9
        rw [b235_928]
        rcases i01 with rfl | rfl
        case inr =>
          rw [if_neg (by decide), b235_985]
          exact nxt 1 _ _ _ _ (Or.inr rfl) ⟨fun _ => Or.inl rfl, fun _ => rfl⟩
        have hnP : ¬ P := fun y => by have := hi.mpr (Or.inl y); omega
        obtain ⟨bF, bR⟩ := hB hnP
        have c := isn_c bF bR (crs_r u.2.2.2.2.toNat) ht.2
        have r := coT_r (c := crs kd (ocH h 175) u.2.2.2.1 u.2.1 u.2.2.2.2.toNat) (crs_r u.2.2.2.2.toNat) (u.2.2.1 i)
        have bad : ¬ (coT (crs kd (ocH h 175) u.2.2.2.1 u.2.1 u.2.2.2.2.toNat) (u.2.2.1 i) = 0 ∨ (kd u.2.1 ≠ 0 ∧ i = cl u.2.1 - 1 ∧ coT (crs kd (ocH h 175) u.2.2.2.1 u.2.1 u.2.2.2.2.toNat) (u.2.2.1 i) = if kd u.2.1 = 1 then -1 else 1)) → ∀ w5 w8 w9, ∃ b, dL (d - 1) 235 985 [lR 1 11 165, lI p, lI F, lI R, w4, w5, lI u.2.1, lI i, w8, w9, w10, w11, w12, w13, w14] [] h = rI b h ∧ (b = 0 ∨ b = 1) ∧ (b = 1 ↔ P ∨ ∃ j, 0 ≤ j ∧ j < cl u.2.1 ∧ ¬ (coT (crs kd (ocH h 175) u.2.2.2.1 u.2.1 u.2.2.2.2.toNat) (u.2.2.1 j) = 0 ∨ (kd u.2.1 ≠ 0 ∧ j = cl u.2.1 - 1 ∧ coT (crs kd (ocH h 175) u.2.2.2.1 u.2.1 u.2.2.2.2.toNat) (u.2.2.1 j) = if kd u.2.1 = 1 then -1 else 1))) := by
          intro hb w5 w8 w9
          rw [b235_985]
          exact nxt 1 _ _ _ _ (Or.inr rfl) ⟨fun _ => Or.inr hb, fun _ => rfl⟩
        have good : (coT (crs kd (ocH h 175) u.2.2.2.1 u.2.1 u.2.2.2.2.toNat) (u.2.2.1 i) = 0 ∨ (kd u.2.1 ≠ 0 ∧ i = cl u.2.1 - 1 ∧ coT (crs kd (ocH h 175) u.2.2.2.1 u.2.1 u.2.2.2.2.toNat) (u.2.2.1 i) = if kd u.2.1 = 1 then -1 else 1)) → ∀ w5 w8 w9, ∃ b, dL (d - 1) 235 989 [lR 1 11 165, lI p, lI F, lI R, w4, w5, lI u.2.1, lI i, w8, w9, w10, w11, w12, w13, w14] [] h = rI b h ∧ (b = 0 ∨ b = 1) ∧ (b = 1 ↔ P ∨ ∃ j, 0 ≤ j ∧ j < cl u.2.1 ∧ ¬ (coT (crs kd (ocH h 175) u.2.2.2.1 u.2.1 u.2.2.2.2.toNat) (u.2.2.1 j) = 0 ∨ (kd u.2.1 ≠ 0 ∧ j = cl u.2.1 - 1 ∧ coT (crs kd (ocH h 175) u.2.2.2.1 u.2.1 u.2.2.2.2.toNat) (u.2.2.1 j) = if kd u.2.1 = 1 then -1 else 1))) := by
          intro hg w5 w8 w9
          rw [b235_989]
          exact nxt 0 _ _ _ _ (Or.inl rfl) ⟨fun y => by omega, fun y => y.elim (fun z => by omega) (fun z => absurd hg z)⟩
        rw [if_pos rfl, s237 (by omega) _ _ h ht, bk_v, b235_941]
        rcases r with q | q | q
        · have eF : isn F (u.2.2.1 i) = 1 := by rw [c.1, if_pos q]
          have eR : isn R (u.2.2.1 i) = 0 := by rw [c.2.1, if_neg (by omega)]
          rw [eF, if_neg (by decide)]
          rcases v01 with rfl | rfl
          · rw [if_pos rfl]
            exact bad (fun w => w.elim (fun y => by omega) (fun y => by have := hv.mpr y.2.1; omega)) _ _ _
          rw [if_neg (by decide), ix_p hu.1.1 hu.1.2, hk]
          by_cases y : kd u.2.1 = 1
          · rw [if_pos y, b235_960, s237 (by omega) _ _ h ht, bk_v, b235_966, eR, if_pos rfl]
            exact good (Or.inr ⟨by omega, hv.mp rfl, by rw [if_pos y]; exact q⟩) _ _ _
          · rw [if_neg y]
            refine bad (fun w => w.elim (fun y => by omega) (fun z => ?_)) _ _ _
            have := z.2.2
            rw [if_neg y] at this
            omega
        · have eF : isn F (u.2.2.1 i) = 0 := by rw [c.1, if_neg (by omega)]
          have eR : isn R (u.2.2.1 i) = 0 := by rw [c.2.1, if_neg (by omega)]
          rw [eF, if_pos rfl, b235_960, s237 (by omega) _ _ h ht, bk_v, b235_966, eR, if_pos rfl]
          exact good (Or.inl q) _ _ _
        · have eF : isn F (u.2.2.1 i) = 0 := by rw [c.1, if_neg (by omega)]
          have eR : isn R (u.2.2.1 i) = 1 := by rw [c.2.1, if_pos q]
          rw [eF, if_pos rfl, b235_960, s237 (by omega) _ _ h ht, bk_v, b235_966, eR, if_neg (by decide)]
          rcases v01 with rfl | rfl
          · rw [if_pos rfl]
            exact bad (fun w => w.elim (fun y => by omega) (fun y => by have := hv.mpr y.2.1; omega)) _ _ _
          rw [if_neg (by decide), ix_p hu.1.1 hu.1.2, hk]
          by_cases y : kd u.2.1 = 2
          · rw [if_pos y]
            exact good (Or.inr ⟨by omega, hv.mp rfl, by rw [if_neg (by omega)]; exact q⟩) _ _ _
          · rw [if_neg y]
            refine bad (fun w => w.elim (fun y => by omega) (fun z => ?_)) _ _ _
            obtain ⟨z1, z2, z3⟩ := z
            rw [if_pos (by omega)] at z3
            omega
      rw [b235_886, ix_p hu.1.1 hu.1.2, ec, if_pos (by omega), ck_p (by omega) (by omega), s179 (by omega) p _ h hp (by omega), bk_v, b235_907, ix_p hu.1.1 hu.1.2, ec, ck_p (by omega) (by omega), eh]
      by_cases z : i = cl u.2.1 - 1
      · rw [if_pos z]; exact at928 1 (Or.inr rfl) ⟨fun _ => z, fun _ => rfl⟩ _
      · rw [if_neg z]; exact at928 0 (Or.inl rfl) ⟨fun y => by omega, fun y => absurd y z⟩ _
  have S0 : SI kd (ocH h 175) u 0 0 0 0 0 := ⟨Or.inl rfl, fun _ => ⟨fun l l0 l1 => by omega, bst_0 (fun s _ _ z => by have z : (0 : Int) = -1 := z; omega), bst_0 (fun s _ _ z => by have z : (0 : Int) = 1 := z; omega), bst_0 (fun s _ _ z => by obtain ⟨j, j0, j1, _⟩ := z; omega)⟩, fun q => by omega⟩
  obtain ⟨is, F, R, hd', w7', w8', w9', w10', w11', w12', w13', w14', t1, t2⟩ := lits u.2.2.2.2.toNat 0 0 0 0 0 none none none none none none none none (by omega) (by omega) S0
  obtain ⟨b, x1, x2, x3⟩ := heads F R (is = 1) (fun y => (t2.2.1 (by have := t2.1; omega)).2.imp id And.left) (cl u.2.1).toNat 0 is (lI hd') w8' w9' w10' w11' w12' w13' w14' (by omega) (by have := hH.1; omega) t2.1 ⟨Or.inl, fun y => y.elim id (fun ⟨j, j0, j1, _⟩ => by omega)⟩
  refine ⟨b, ?_, x2, ?_⟩
  · rw [f235 (by omega), b235_0, t1, b235_13, s179 (by omega) p 5 h hp (by omega), bk_v, b235_21, e5, if_neg (by omega), s179 (by omega) p 1 h hp (by omega), bk_v, b235_881, e1, x1]
  · rw [x3]
    constructor
    · rintro (y | ⟨j, j0, j1, j2⟩) ⟨g1, g2⟩
      · obtain ⟨l, l0, l1, l2⟩ := t2.2.2 y
        exact l2 (g1 l l0 l1)
      · exact j2 (g2 j j0 j1)
    · intro hn
      by_cases y : is = 1
      · exact Or.inl y
      · right
        have hg := (t2.2.1 (by have := t2.1; omega)).1
        have hn2 : ¬ hdg kd (ocH h 175) u (cl u.2.1) := fun z => hn ⟨hg, z⟩
        by_cases w : ∃ j, 0 ≤ j ∧ j < cl u.2.1 ∧ ¬ (coT (crs kd (ocH h 175) u.2.2.2.1 u.2.1 u.2.2.2.2.toNat) (u.2.2.1 j) = 0 ∨ (kd u.2.1 ≠ 0 ∧ j = cl u.2.1 - 1 ∧ coT (crs kd (ocH h 175) u.2.2.2.1 u.2.1 u.2.2.2.2.toNat) (u.2.2.1 j) = if kd u.2.1 = 1 then -1 else 1))
        · exact w
        · refine absurd (fun i i0 i1 => ?_) hn2
          by_cases v : coT (crs kd (ocH h 175) u.2.2.2.1 u.2.1 u.2.2.2.2.toNat) (u.2.2.1 i) = 0 ∨ (kd u.2.1 ≠ 0 ∧ i = cl u.2.1 - 1 ∧ coT (crs kd (ocH h 175) u.2.2.2.1 u.2.1 u.2.2.2.2.toNat) (u.2.2.1 i) = if kd u.2.1 = 1 then -1 else 1)
          · exact v
          · exact absurd ⟨i, i0, i1, v⟩ w
end RS5
