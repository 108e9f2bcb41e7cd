/-! BINDINGS come once each; groups -/
/-- the two tell the same variables -/
def sup (v w : mA) : Prop := ∀ s, v s = -1 ↔ w s = -1
theorem b1_sup {v v' w w' : mA} {t x x' : Int} (hx : 0 ≤ x) (hx' : 0 ≤ x') (h : sup v v') (e : b1 v t x = some w) (e' : b1 v' t x' = some w') : sup w w' := by
  unfold b1 at e e'
  by_cases h1 : t = -1
  · rw [if_pos h1] at e e'
    cases e; cases e'; exact h
  rw [if_neg h1] at e e'
  by_cases h2 : slot t = -1
  · rw [if_pos h2] at e e'
    split at e
    · split at e'
      · cases e; cases e'; exact h
      · cases e'
    · cases e
  rw [if_neg h2] at e e'
  by_cases h3 : v (slot t) = -1
  · rw [if_pos h3] at e
    rw [if_pos ((h _).mp h3)] at e'
    cases e; cases e'
    intro s
    unfold upd1
    by_cases q : s = slot t
    · rw [if_pos q, if_pos q]; omega
    · rw [if_neg q, if_neg q]; exact h s
  · rw [if_neg h3] at e
    rw [if_neg (fun z => h3 ((h _).mpr z))] at e'
    split at e
    · split at e'
      · cases e; cases e'; exact h
      · cases e'
    · cases e
theorem bA_sup {t : Int → Int} {c c' : Int} (hc : 0 ≤ c) (hc' : 0 ≤ c') : ∀ {n : Nat} {i : Int} {v v' w w' : mA}, sup v v' → bA t c n i v = some w → bA t c' n i v' = some w' → sup w w'
  | 0, _, _, _, _, _, h, e, e' => by cases e; cases e'; exact h
  | n + 1, i, v, v', w, w', h, e, e' => by
    unfold bA at e e'
    cases q : b1 v (t i) (cv i c) with
    | none => rw [q] at e; cases e
    | some y =>
      rw [q] at e
      cases q' : b1 v' (t i) (cv i c') with
      | none => rw [q'] at e'; cases e'
      | some y' =>
        rw [q'] at e'
        exact bA_sup hc hc' (b1_sup (cv_nn hc) (cv_nn hc') h q q') e e'
theorem lev_tv {v w : mA} (h : lev v w) {t : Int} (ht : slot t ≠ -1 → v (slot t) ≠ -1) : tv w t = tv v t := by
  unfold tv
  by_cases h1 : t < 100
  · rw [if_pos h1, if_pos h1]
  rw [if_neg h1, if_neg h1]
  by_cases h2 : 107 < t
  · rw [if_pos h2, if_pos h2]
  rw [if_neg h2, if_neg h2]
  have hs := slot_v (t := t) ⟨by omega, by omega⟩
  rw [hs] at ht
  exact h _ (ht (by omega))
/-- behind an atom its terms are the row's numbers -/
theorem b1_tv {v w : mA} {t x : Int} (ht : -1 ≤ t ∧ t ≤ 107) (hx : 0 ≤ x) (e : b1 v t x = some w) : t = -1 ∨ (tv w t = x ∧ (slot t ≠ -1 → w (slot t) ≠ -1)) := by
  by_cases h1 : t = -1
  · exact Or.inl h1
  right
  unfold b1 at e
  rw [if_neg h1] at e
  by_cases h2 : slot t = -1
  · rw [if_pos h2] at e
    split at e
    · rename_i q
      cases e
      refine ⟨?_, fun z => absurd h2 z⟩
      unfold tv
      rw [if_pos]
      · exact q
      · unfold slot at h2
        rcases Int.lt_or_le t 100 with z | z
        · exact z
        · rw [if_neg (by omega), if_neg (by omega)] at h2
          omega
    · cases e
  rw [if_neg h2] at e
  have h3 : 100 ≤ t := by
    rcases Int.lt_or_le t 100 with z | z
    · exact absurd (by unfold slot; rw [if_pos z]) h2
    · exact z
  have hs := slot_v (t := t) ⟨h3, by omega⟩
  have hw : w (slot t) = x := by
    split at e
    · cases e
      unfold upd1
      rw [if_pos rfl]
    · split at e
      · rename_i q; cases e; exact q
      · cases e
  refine ⟨?_, fun _ => by omega⟩
  unfold tv
  rw [if_neg (by omega), if_neg (by omega), ← hs]
  exact hw
theorem bA_tv {t : Int → Int} {c : Int} (hc : 0 ≤ c) : ∀ {n : Nat} {i : Int} {v w : mA}, nv v → (∀ j, i ≤ j → j < i + n → -1 ≤ t j ∧ t j ≤ 107) → bA t c n i v = some w → ∀ j, i ≤ j → j < i + n → t j = -1 ∨ tv w (t j) = cv j c
  | 0, i, v, w, _, _, _ => fun j _ _ => by omega
  | n + 1, i, v, w, hn, ht, e => by
    intro j j0 j1
    unfold bA at e
    cases q : b1 v (t i) (cv i c) with
    | none => rw [q] at e; cases e
    | some y =>
      rw [q] at e
      obtain ⟨n1, n2⟩ := b1_nv hn q
      by_cases ej : j = i
      · subst ej
        rcases b1_tv (ht j j0 j1) (cv_nn hc) q with z | ⟨z1, z2⟩
        · exact Or.inl z
        · right
          rw [lev_tv (bA_nv n1 e).2 z2]
          exact z1
      · exact bA_tv hc n1 (fun j j0 j1 => ht j (by omega) (by omega)) e j (by omega) (by omega)
theorem opA_nd {t : Int → Int} {w : Int} {c : Int → Int} {v : mA} (hw : 0 ≤ w ∧ w ≤ 3) (hv : nv v) (ht : ∀ i, 0 ≤ i → i < 3 → -1 ≤ t i ∧ t i ≤ 107) : ∀ (n : Nat), (∀ x : Int, 0 ≤ x → x < n → 0 ≤ c x) → (opA t w c v n).Nodup
  | 0, _ => List.nodup_nil
  | n + 1, hc => by
    rw [opA_s]
    refine List.nodup_append.mpr ⟨opA_nd hw hv ht n (fun x x0 x1 => hc x x0 (by omega)), ?_, ?_⟩
    · unfold one
      split
      · exact List.nodup_nil
      · cases bA t (c (n : Int)) w.toNat 0 v with
        | none => exact List.nodup_nil
        | some u => exact List.nodup_cons.mpr ⟨List.not_mem_nil, List.nodup_nil⟩
    · intro a ha b hb hab
      subst hab
      obtain ⟨x, x0, x1, x2⟩ := (mem_opA hw.1).mp ha
      unfold one at hb
      split at hb
      · cases hb
      · rename_i hno
        have hb := Option.mem_toList.mp hb
        have hb : bA t (c (n : Int)) w.toNat 0 v = some a := hb
        refine hno ⟨x, x0, x1, fun i i0 i1 => ?_⟩
        rcases bA_tv (hc x x0 (by omega)) hv (fun j j0 j1 => ht j (by omega) (by omega)) x2 i i0 (by omega) with z | z
        · exact Or.inl z
        · rcases bA_tv (hc n (by omega) (by omega)) hv (fun j j0 j1 => ht j (by omega) (by omega)) hb i i0 (by omega) with y | y
          · exact Or.inl y
          · exact Or.inr (by rw [← z, ← y])
theorem opt_sup {ρ : mR} {ω : mW} {N k : Int} {v u u' : mA} (G : GW ρ ω N) (hk : 0 ≤ k ∧ k < N) (hu : u ∈ opt ρ ω k v) (hu' : u' ∈ opt ρ ω k v) : sup u u' := by
  unfold opt at hu hu'
  rcases G.2 k hk.1 hk.2 with ⟨s, s1, s2, s3, s4, s5, s6⟩ | ⟨s, s1, s2, s3, s4, s5, s6⟩ | ⟨s, s1⟩
  · rw [if_pos s] at hu hu'
    obtain ⟨x, x0, x1, x2⟩ := (mem_opA s2.1).mp hu
    obtain ⟨y, y0, y1, y2⟩ := (mem_opA s2.1).mp hu'
    exact bA_sup (s5 x x0 (by omega)).1 (s5 y y0 (by omega)).1 (fun _ => Iff.rfl) x2 y2
  · rw [if_neg (by omega), if_pos s] at hu hu'
    split at hu
    · cases hu
    · rename_i q
      rw [@if_neg _ (Classical.propDecidable _) q] at hu'
      rw [List.mem_singleton.mp hu, List.mem_singleton.mp hu']
      exact fun _ => Iff.rfl
  · rw [if_neg (by omega), if_neg (by omega)] at hu hu'
    have h1 : ∀ {l : List mA}, (∃ a, l = [a]) ∨ l = [] → u ∈ l → u' ∈ l → u = u' := by
      rintro l (⟨a, rfl⟩ | rfl) p p'
      · rw [List.mem_singleton.mp p, List.mem_singleton.mp p']
      · cases p
    rw [h1 ?_ hu hu']
    · exact fun _ => Iff.rfl
    · repeat' split
      all_goals first | exact Or.inr rfl | exact Or.inl ⟨_, rfl⟩
theorem opt_nd {ρ : mR} {ω : mW} {N k : Int} {v : mA} (G : GW ρ ω N) (hk : 0 ≤ k ∧ k < N) (hv : nv v) : (opt ρ ω k v).Nodup := by
  have h1 : ∀ {l : List mA}, (∃ a, l = [a]) ∨ l = [] → l.Nodup := by
    rintro l (⟨a, rfl⟩ | rfl)
    · exact List.nodup_cons.mpr ⟨List.not_mem_nil, List.nodup_nil⟩
    · exact List.nodup_nil
  unfold opt
  by_cases s0 : ρ.1 k = 0
  · rcases G.2 k hk.1 hk.2 with ⟨s, s1, s2, s3, s4, s5, s6⟩ | ⟨s, _⟩ | ⟨s, s1⟩
    · rw [if_pos s]
      exact opA_nd s2 hv s3 _ (fun x x0 x1 => (s5 x x0 (by omega)).1)
    · omega
    · omega
  · rw [if_neg s0]
    apply h1
    repeat' split
    all_goals first | exact Or.inr rfl | exact Or.inl ⟨_, rfl⟩
theorem bnd_lev {ρ : mR} {ω : mW} {N : Int} (G : GW ρ ω N) : ∀ (n : Nat) (k : Int) (v w : mA), 0 ≤ k → k + n = N → Jg ρ k v → w ∈ bnd ρ ω n k v → lev v w := by
  intro n
  induction n with
  | zero =>
    intro k v w k0 kN hJ hw
    have hw := List.mem_singleton.mp (show w ∈ [v] from hw)
    rw [hw]; exact lev_refl v
  | succ n ih =>
    intro k v w k0 kN hJ hw
    obtain ⟨x, hx, hwx⟩ := List.mem_flatMap.mp (show w ∈ (opt ρ ω k v).flatMap (fun w => bnd ρ ω n (k + 1) w) from hw)
    obtain ⟨j1, j2⟩ := opt_J G ⟨k0, by omega⟩ hJ hx
    exact lev_trans j2 (ih (k + 1) x w (by omega) (by omega) j1 hwx)
theorem bnd_nd {ρ : mR} {ω : mW} {N : Int} (G : GW ρ ω N) : ∀ (n : Nat) (k : Int) (v : mA), 0 ≤ k → k + n = N → Jg ρ k v → (bnd ρ ω n k v).Nodup := by
  intro n
  induction n with
  | zero => intro k v _ _ _; exact List.nodup_cons.mpr ⟨List.not_mem_nil, List.nodup_nil⟩
  | succ n ih =>
    intro k v k0 kN hJ
    show ((opt ρ ω k v).flatMap (fun w => bnd ρ ω n (k + 1) w)).Nodup
    refine List.pairwise_flatMap.mpr ⟨fun a ha => ih (k + 1) a (by omega) (by omega) (opt_J G ⟨k0, by omega⟩ hJ ha).1, ?_⟩
    refine List.Pairwise.imp_of_mem ?_ (opt_nd G ⟨k0, by omega⟩ hJ.1)
    intro a b ha hb hab x hx y hy hxy
    subst hxy
    apply hab
    have la := bnd_lev G n (k + 1) a x (by omega) (by omega) (opt_J G ⟨k0, by omega⟩ hJ ha).1 hx
    have lb := bnd_lev G n (k + 1) b x (by omega) (by omega) (opt_J G ⟨k0, by omega⟩ hJ hb).1 hy
    have hs := opt_sup G ⟨k0, by omega⟩ ha hb
    funext s
    by_cases q : a s = -1
    · rw [q, (hs s).mp q]
    · rw [← la s q, lb s (fun z => q ((hs s).mpr z))]
/-- what is summed up of those whose key it is -/
def gsm (g a : mA → Int) (key : Int) : List mA → Int
  | [] => 0
  | v :: l => (if g v = key then a v else 0) + gsm g a key l
theorem gsm_perm {g a : mA → Int} {key : Int} {l l' : List mA} (h : l.Perm l') : gsm g a key l = gsm g a key l' := by
  induction h with
  | nil => rfl
  | cons x _ ih => show _ + _ = _ + _; rw [ih]
  | swap x y l => show _ + (_ + _) = _ + (_ + _); omega
  | trans _ _ ih1 ih2 => rw [ih1, ih2]
theorem gsm_app {g a : mA → Int} {key : Int} : ∀ {l l' : List mA}, gsm g a key (l ++ l') = gsm g a key l + gsm g a key l'
  | [], l' => by show gsm g a key l' = 0 + _; omega
  | v :: l, l' => by
    show _ + gsm g a key (l ++ l') = _ + _ + _
    rw [gsm_app]
    omega
theorem gsm_nn {g a : mA → Int} {key : Int} : ∀ {l : List mA}, (∀ v ∈ l, 0 ≤ a v) → 0 ≤ gsm g a key l
  | [], _ => by show (0 : Int) ≤ 0; omega
  | v :: l, h => by
    have := h v List.mem_cons_self
    have := gsm_nn (g := g) (key := key) (l := l) (fun w hw => h w (List.mem_cons_of_mem _ hw))
    show 0 ≤ _ + _
    split <;> omega
